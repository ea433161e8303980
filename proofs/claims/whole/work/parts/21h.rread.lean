/-! the reference reads a text -/
section RH1
variable {N : Nat} {bt : Nat → Nat} {tn m t0 : Nat}
theorem OnC.r {n : Nat} {F : Nat → Nat → Nat} {v : Nat → Nat} {I : Nat → Nat → Int32} (h : OnC n F I) (h0 : v 0 = 3) : OnC (n + 1) (upFn F n v) I := by
  obtain ⟨o, o1, o2, o3⟩ := h
  refine ⟨o, o1, o2, fun s hs => (o3 s hs).trans ⟨fun ⟨i, i1, i2⟩ => ⟨i, by omega, by rw [upFn_n (by omega)]; exact i2⟩, fun ⟨i, i1, i2⟩ => ?_⟩⟩
  have e : i ≠ n := fun e => by rw [e, upFn_e] at i2; omega
  rw [upFn_n e] at i2
  exact ⟨i, by omega, i2⟩
theorem OnC.s {n s o : Nat} {F : Nat → Nat → Nat} {v : Nat → Nat} {I I' : Nat → Nat → Int32} (o1 : o < 8) (o3 : ∀ s, s < 3 → (o.testBit s = true ↔ ∃ i, i < n ∧ F i 0 = s)) (hs : s < 3) (h0 : v 0 = s) (h' : I' 130 21 = nI (o ||| 2 ^ s)) : OnC (n + 1) (upFn F n v) I' := by
  refine ⟨o ||| 2 ^ s, Nat.or_lt_two_pow (n := 3) o1 (Nat.pow_lt_pow_right (by decide) hs), h', fun t ht => ?_⟩
  rw [Nat.testBit_or, Nat.testBit_two_pow]
  have := o3 t ht
  constructor
  · intro q
    by_cases e : s = t
    · exact ⟨n, by omega, by rw [upFn_e]; omega⟩
    · have q : o.testBit t = true := by simpa [e] using q
      obtain ⟨i, i1, i2⟩ := this.mp q
      exact ⟨i, by omega, by rw [upFn_n (by omega)]; exact i2⟩
  · intro ⟨i, i1, i2⟩
    by_cases e : i = n
    · rw [e, upFn_e] at i2
      have : s = t := by omega
      simp [this]
    · rw [upFn_n e] at i2
      have := this.mpr ⟨i, by omega, i2⟩
      simp [this]
theorem r_clause {n k f k1 : Nat} {F : Nat → Nat → Nat} {v : Nat → Nat} {L c : Cd} {μ : Me} {Ψ : Int32 → Me → Prop} (hk : kT bt tn k ≠ 21) (h : RXt bt tn m t0 n F L k μ) (hr : Rc (kT bt tn) (kV bt tn) n F L k f k1 v c) (K0 : f = 0 → ∀ μ', RFt t0 μ.1 μ'.1 → RXt bt tn m t0 (n + 1) (upFn F n v) (L ++ c) k1 μ' → Ψ 0 μ') (K1 : f ≠ 0 → ∀ μ', RFt t0 μ.1 μ'.1 → RB bt tn k1 μ' → Ψ (nI f) μ') : VI N 8 mX12_clause [.ref 130] μ Ψ := by
  obtain ⟨hK, hT, hO, hl⟩ := h
  have hkt := kT_lt hK.1.2.2.2 k
  have ht0 := hK.2.2.2.1.1
  have hn := hT.1
  refine tX12_clause_0 (r_sortOf hK (fun t1 t4 => ?_) (fun ng => ⟨fun e => absurd e (by decide), fun _ => ⟨_, rfl, ?_⟩⟩))
  rotate_left
  · rcases hr with ⟨_, q1, q2⟩ | ⟨q1, q2, _⟩ | ⟨q, _⟩ | ⟨q, _⟩ | ⟨q, _⟩ | ⟨q, _⟩
    · subst q1 q2
      exact K1 (by decide) μ RFt.rf hK.rb
    · exact absurd ⟨q1, by omega⟩ ng
    all_goals exact absurd ⟨q.1, q.2.1⟩ ng
  have s3 : kT bt tn k - 1 ≤ 3 := by omega
  have go : ∀ μ2 : Me, okh (kT bt tn) n F k → n < 16 → RFt t0 μ.1 μ2.1 → RK bt tn m t0 k L 0 μ2 → RTb t0 n F μ2.1 → (v 0 = kT bt tn k - 1 → OnC (n + 1) (upFn F n v) μ2.1) → VB N 8 mX12_clause 66 [.ref 130, .int (nI (kT bt tn k - 1)), .int (nI n)] [] μ2 (fun r μ' => ∃ v, r = some (.int v) ∧ Ψ v μ') := by
    intro μ2 ho hn16 fr h2 hT2 hO2
    rcases hr with ⟨q, _⟩ | ⟨_, q2, ⟨i, i1, i2⟩, _⟩ | ⟨_, q, _⟩ | ⟨_, _, q1, q2⟩ | ⟨_, _, q1, q2, q3⟩ | ⟨_, _, k2, q1, q2, q3, q4⟩
    · exact absurd ⟨t1, t4⟩ q
    · exact absurd i2 (ho.2.2 q2 i i1)
    · omega
    · exact r_66 s3 hn16 hk h2 hT2 hl hO2 q1 (fun e => absurd e q2) (fun e => absurd e q2) (fun ef μ' w1 w2 => K1 ef μ' (fr.tr w1) w2)
    · subst q3
      exact r_66 s3 hn16 hk h2 hT2 hl hO2 q1 (fun _ e => absurd e q2) (fun _ _ μ' w1 w2 => K1 (by decide) μ' (fr.tr w1) w2) (fun e => absurd rfl e)
    · subst q1 q4
      exact r_66 s3 hn16 hk h2 hT2 hl hO2 q2 (fun _ _ μ' w1 w2 => K0 rfl μ' (fr.tr w1) w2) (fun _ e => absurd q3 e) (fun e => absurd rfl e)
  have le3 : (3 ≤ nI (kT bt tn k - 1)) ↔ 3 ≤ kT bt tn k - 1 := by rw [show (3 : Int32) = nI 3 from rfl, nI_leI (by omega) (by omega)]
  have e16 : (nI n = 16) ↔ n = 16 := by rw [show (16 : Int32) = nI 16 from rfl, nI_eq (by omega) (by omega)]
  obtain ⟨o, o1, o2, o3⟩ := hO
  have e30 : okh (kT bt tn) n F k → VB N 8 mX12_clause 30 [.ref 130, .int (nI (kT bt tn k - 1))] [] μ (fun r μ' => ∃ v, r = some (.int v) ∧ Ψ v μ') := by
    intro ho
    refine tX12_clause_30 ?_
    rw [hK.2.2.2.1.2, nI_clamp (by omega), hT.2.1]
    refine ⟨vp_in_nI (by omega) (by decide), fun g => ?_, fun g => ⟨fun g3 => ?_, fun g3 => ?_⟩⟩
    · have g := e16.mp g
      rcases hr with ⟨q, _⟩ | ⟨_, q2, ⟨i, i1, i2⟩, _⟩ | ⟨_, q, q1, q2⟩ | ⟨_, q, _⟩ | ⟨_, q, _⟩ | ⟨_, q, _⟩
      · exact absurd ⟨t1, t4⟩ q
      · exact absurd i2 (ho.2.2 q2 i i1)
      · subst q1 q2
        exact ⟨_, rfl, K1 (by decide) μ RFt.rf hK.rb⟩
      all_goals omega
    · have g3 := le3.mp g3
      have hn16 : n < 16 := by have : ¬ n = 16 := fun e => g (e16.mpr e); omega
      exact go μ ho hn16 RFt.rf hK hT (fun e => OnC.r ⟨o, o1, o2, o3⟩ (by omega))
    · have g3 : ¬ 3 ≤ kT bt tn k - 1 := fun e => g3 (le3.mpr e)
      have hn16 : n < 16 := by have : ¬ n = 16 := fun e => g (e16.mpr e); omega
      have eo : (μ.1 130 21 ||| (1 : Int32) <<< (nI (kT bt tn k - 1) &&& 31)) = nI (o ||| 2 ^ (kT bt tn k - 1)) := by
        rw [o2]
        simp (disch := omega) only [lit, Nat.add_sub_cancel, Nat.not_lt_zero, ↓m1_mI, nI_add, pk_mul, nx_and, nx_or, and31, sh_r, sh_1, nx_nand, Nat.and_one_is_mod, nI_clamp, nI_leI, nI_ltI, nI_eq, tb_1, vp_t, up2_a, up2_b, up2_c, br_1, br_0, true_and, and_true, mI_ne, mI_ne', mI_lt, mI_le, mI_nle, mI_nlt, pk_sub, mI_sub]
      rw [eo]
      refine go (up2 μ.1 130 21 (nI (o ||| 2 ^ (kT bt tn k - 1))), μ.2) ho hn16 (RFt.f (by decide)) (hK.g (by decide)) ⟨hn, ?_, fun i j hi hj hij => ?_⟩ (fun e => OnC.s (s := kT bt tn k - 1) (I := μ.1) (I' := up2 μ.1 130 21 (nI (o ||| 2 ^ (kT bt tn k - 1)))) o1 o3 (by omega) e up2_c)
      · show up2 μ.1 130 21 (nI (o ||| 2 ^ (kT bt tn k - 1))) 133 t0 = _
        rw [up2_a (by decide)]; exact hT.2.1
      · show up2 μ.1 130 21 (nI (o ||| 2 ^ (kT bt tn k - 1))) 133 _ = _
        rw [up2_a (by decide)]; exact hT.2.2 i j hi hj hij
  have e0 : (0 : Int32) ≤ nI (kT bt tn k - 1) := by rw [show (0 : Int32) = nI 0 from rfl, nI_leI (by omega) (by omega)]; omega
  refine ⟨fun _ => ⟨fun g3 => ?_, fun g3 => ?_⟩, fun e => absurd e0 e⟩
  · have g3 := le3.mp g3
    exact e30 ⟨t1, t4, fun q => absurd q (by omega)⟩
  · have g3 : ¬ 3 ≤ kT bt tn k - 1 := fun e => g3 (le3.mpr e)
    have et : ((μ.1 130 21 >>> (nI (kT bt tn k - 1) &&& 31)) &&& 1 = (1 : Int32)) ↔ o.testBit (kT bt tn k - 1) = true := by
      rw [o2]
      have : o / 2 ^ (kT bt tn k - 1) ≤ o := Nat.div_le_self _ _
      simp (disch := omega) only [lit, Nat.add_sub_cancel, Nat.not_lt_zero, ↓m1_mI, nI_add, pk_mul, nx_and, nx_or, and31, sh_r, sh_1, nx_nand, Nat.and_one_is_mod, nI_clamp, nI_leI, nI_ltI, nI_eq, tb_1, vp_t, up2_a, up2_b, up2_c, br_1, br_0, true_and, and_true, mI_ne, mI_ne', mI_lt, mI_le, mI_nle, mI_nlt, pk_sub, mI_sub]
    refine ⟨fun g => ⟨_, rfl, ?_⟩, fun g => e30 ⟨t1, t4, fun _ i hi e => g (et.mpr ((o3 _ (by omega)).mpr ⟨i, hi, e⟩))⟩⟩
    obtain ⟨i, i1, i2⟩ := (o3 _ (by omega)).mp (et.mp g)
    rcases hr with ⟨q, _⟩ | ⟨_, _, _, q1, q2⟩ | ⟨q, _⟩ | ⟨q, _⟩ | ⟨q, _⟩ | ⟨q, _⟩
    · exact absurd ⟨t1, t4⟩ q
    · subst q1 q2
      exact K1 (by decide) μ RFt.rf hK.rb
    all_goals exact absurd i2 (q.2.2 (by omega) i i1)
theorem Rx.f6 {T V : Nat → Nat} {n : Nat} {F : Nat → Nat → Nat} {L : Cd} {k f k1 n2 : Nat} {F2 : Nat → Nat → Nat} {L2 : Cd} (h : Rx T V n F L k f k1 n2 F2 L2) : f ≤ 6 := by
  refine h (fun _ _ _ _ f _ _ _ _ => f ≤ 6) ⟨fun _ _ _ _ _ => Nat.zero_le 6, fun _ _ _ _ f _ _ _ _ h _ => h.len.1, fun _ _ _ _ _ _ _ f _ _ _ _ _ _ h => h⟩
theorem r_readL {I0 : Nat → Nat → Int32} {Ψ : Int32 → Me → Prop} {n k f k1 n2 : Nat} {F F2 : Nat → Nat → Nat} {L L2 : Cd} (hr : Rx (kT bt tn) (kV bt tn) n F L k f k1 n2 F2 L2) : (f = 0 → ∀ μ', RFt t0 I0 μ'.1 → RXt bt tn m t0 n2 F2 L2 k1 μ' → Ψ 0 μ') → (f ≠ 0 → ∀ μ', RFt t0 I0 μ'.1 → RB bt tn k1 μ' → Ψ (nI f) μ') → ∀ μ, RFt t0 I0 μ.1 → RXt bt tn m t0 n F L k μ → VB N 9 mX12_readText 48 [.ref 130] [] μ (fun r μ' => ∃ v, r = some (.int v) ∧ Ψ v μ') := by
  have tok : ∀ {k : Nat} {L : Cd} {μ : Me}, RK bt tn m t0 k L 0 μ → ((μ.1 130 9 = 0) ↔ kT bt tn k = 21) := by
    intro k L μ h
    have ⟨t1, t2⟩ := rk_tok h
    rw [t1, show (0 : Int32) = nI 0 from rfl, nI_eq (by omega) (by decide)]
    exact tok_0 h.1.2.2.2
  refine hr (fun n F L k f k1 n2 F2 L2 => (f = 0 → ∀ μ', RFt t0 I0 μ'.1 → RXt bt tn m t0 n2 F2 L2 k1 μ' → Ψ 0 μ') → (f ≠ 0 → ∀ μ', RFt t0 I0 μ'.1 → RB bt tn k1 μ' → Ψ (nI f) μ') → ∀ μ, RFt t0 I0 μ.1 → RXt bt tn m t0 n F L k μ → VB N 9 mX12_readText 48 [.ref 130] [] μ (fun r μ' => ∃ v, r = some (.int v) ∧ Ψ v μ')) ⟨?_, ?_, ?_⟩
  · intro n F L k hk K0 K1 μ fr h
    exact tX12_readText_48 ⟨fun _ => ⟨_, rfl, K0 rfl μ fr h⟩, fun e => absurd ((tok h.1).mpr hk) e⟩
  · intro n F L k f k1 v c hk hr hf K0 K1 μ fr h
    have f6 := hr.len.1
    refine tX12_readText_48 ⟨fun e => absurd ((tok h.1).mp e) hk, fun _ => ?_⟩
    refine r_clause hk h hr (fun ef => absurd ef hf) (fun _ μ' q1 q2 => ⟨fun e => absurd (nI_inj (b := 0) e (by omega) (by decide)) hf, fun _ => ⟨_, rfl, K1 hf μ' (fr.tr q1) q2⟩⟩)
  · intro n F L k k1 v c f k2 n2 F2 L2 hk hr ih K0 K1 μ fr h
    refine tX12_readText_48 ⟨fun e => absurd ((tok h.1).mp e) hk, fun _ => ?_⟩
    exact r_clause hk h hr (fun _ μ' q1 q2 => ⟨fun _ => ih K0 K1 μ' (fr.tr q1) q2, fun e => absurd rfl e⟩) (fun ef => absurd rfl ef)
theorem r_readText {t f k1 n2 : Nat} {F2 : Nat → Nat → Nat} {L2 : Cd} {μ : Me} {Ψ : Int32 → Me → Prop} (ht : t ≤ 3) (hm : m ≤ 300) (htm : tS bt tn m = tn) (h : rTp bt tn μ.1) (h131 : μ.1 131 3 = nI t) (hR : ∀ j, ∃ n, n < 65536 ∧ μ.1 133 j = nI n) (hr : Rx (kT bt tn) (kV bt tn) 0 (fun _ _ => 0) [] 0 f k1 n2 F2 L2) (K0 : f = 0 → ∀ μ', RFt (750 * t) μ.1 μ'.1 → RXt bt tn m (750 * t) n2 F2 L2 k1 μ' → Ψ 0 μ') (K1 : f ≠ 0 → ∀ μ', RFt (750 * t) μ.1 μ'.1 → RB bt tn k1 μ' → Ψ (nI f) μ') : VI N 9 mX12_readText [.ref 130] μ Ψ := by
  refine tX12_readText_0 ?_
  have e750 : (750 * nI t : Int32) = nI (750 * t) := pk_mul 750 t
  rw [h131, e750, nI_clamp (by omega)]
  refine ⟨vp_in_nI (by omega) (by decide), ?_⟩
  have A133 : ∀ j, (up2 (up2 (up2 (up2 (up2 (up2 μ.1 130 12 (nI (750 * t))) 133 (750 * t) 0) 130 14 0) 130 18 0) 130 21 0) 130 7 0) 133 j = (if j = 750 * t then nI 0 else μ.1 133 j) := fun j => by
    rw [up2_a (by decide), up2_a (by decide), up2_a (by decide), up2_a (by decide)]
    by_cases e : j = 750 * t
    · rw [if_pos e, e, up2_c]; rfl
    · rw [if_neg e, up2_b e, up2_a (by decide)]
  have A130 : ∀ b, b ≠ 7 → b ≠ 12 → b ≠ 14 → b ≠ 18 → b ≠ 21 → (up2 (up2 (up2 (up2 (up2 (up2 μ.1 130 12 (nI (750 * t))) 133 (750 * t) 0) 130 14 0) 130 18 0) 130 21 0) 130 7 0) 130 b = μ.1 130 b := fun b b1 b2 b3 b4 b5 => by rw [up2_b b1, up2_b b5, up2_b b4, up2_b b3, up2_a (by decide), up2_b b2]
  have Ac : ∀ c, c ≠ 130 → c ≠ 133 → (up2 (up2 (up2 (up2 (up2 (up2 μ.1 130 12 (nI (750 * t))) 133 (750 * t) 0) 130 14 0) 130 18 0) 130 21 0) 130 7 0) c = μ.1 c := fun c c1 c2 => by rw [up2_ne c1, up2_ne c1, up2_ne c1, up2_ne c1, up2_ne c2, up2_ne c1]
  have A7 : (up2 (up2 (up2 (up2 (up2 (up2 μ.1 130 12 (nI (750 * t))) 133 (750 * t) 0) 130 14 0) 130 18 0) 130 21 0) 130 7 0) 130 7 = nI 0 := by rw [up2_c]; rfl
  have A21 : (up2 (up2 (up2 (up2 (up2 (up2 μ.1 130 12 (nI (750 * t))) 133 (750 * t) 0) 130 14 0) 130 18 0) 130 21 0) 130 7 0) 130 21 = nI 0 := by rw [up2_b (by decide), up2_c]; rfl
  have A18 : (up2 (up2 (up2 (up2 (up2 (up2 μ.1 130 12 (nI (750 * t))) 133 (750 * t) 0) 130 14 0) 130 18 0) 130 21 0) 130 7 0) 130 18 = nI 0 := by rw [up2_b (by decide), up2_b (by decide), up2_c]; rfl
  have A14 : (up2 (up2 (up2 (up2 (up2 (up2 μ.1 130 12 (nI (750 * t))) 133 (750 * t) 0) 130 14 0) 130 18 0) 130 21 0) 130 7 0) 130 14 = nI 0 := by rw [up2_b (by decide), up2_b (by decide), up2_b (by decide), up2_c]; rfl
  have A12 : (up2 (up2 (up2 (up2 (up2 (up2 μ.1 130 12 (nI (750 * t))) 133 (750 * t) 0) 130 14 0) 130 18 0) 130 21 0) 130 7 0) 130 12 = nI (750 * t) := by rw [up2_b (by decide), up2_b (by decide), up2_b (by decide), up2_b (by decide), up2_a (by decide), up2_c]
  generalize (up2 (up2 (up2 (up2 (up2 (up2 μ.1 130 12 (nI (750 * t))) 133 (750 * t) 0) 130 14 0) 130 18 0) 130 21 0) 130 7 0) = A at *
  have hA : rTp bt tn A := h.fr (A130 4 (by decide) (by decide) (by decide) (by decide) (by decide)) (Ac 134 (by decide) (by decide))
  have frA : RFt (750 * t) μ.1 A := ⟨fun c c1 c2 _ => Ac c c1 c2, fun b hb => A130 b (by omega) (by omega) (by omega) (by omega) (by omega), fun j hj => by rw [A133, if_neg (by omega)]⟩
  refine r_next _ 0 (A, μ.2) rfl (Nat.zero_le _) hA A7 (fun μ1 nx rt => ?_)
  have e133 : ∀ j, μ1.1 133 j = A 133 j := fun j => by rw [nx.1 133 (by decide)]
  refine r_readL (t0 := 750 * t) (I0 := μ.1) hr K0 K1 μ1 (frA.tr (RFt.nx nx)) ⟨⟨hA.nx nx, rt, ⟨hm, htm, Nat.zero_le _, (rn_le _ _ rfl (Nat.zero_le _)).2⟩, ⟨by omega, (nx.2 12 (by omega)).trans A12⟩, (nx.2 18 (by omega)).trans A18, by decide, (nx.2 14 (by omega)).trans A14, fun i hi => absurd hi (Nat.not_lt_zero _), fun j => ?_⟩, ⟨by decide, ?_, fun i j hi => absurd hi (Nat.not_lt_zero _)⟩, ⟨0, by decide, (nx.2 21 (by omega)).trans A21, fun s _ => ?_⟩, by decide⟩
  · rw [e133, A133]
    split
    · exact ⟨0, by decide, rfl⟩
    · exact hR j
  · rw [e133, A133, if_pos rfl]
  · rw [Nat.zero_testBit]
    exact ⟨fun e => absurd e (by decide), fun ⟨i, i1, _⟩ => absurd i1 (Nat.not_lt_zero _)⟩
end RH1
