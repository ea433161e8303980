/-! the reference reads a clause -/
section RG1
variable {N : Nat} {bt : Nat → Nat} {tn m t0 : Nat}
/-- its table of clauses -/
def RTb (t0 n : Nat) (F : Nat → Nat → Nat) (I : Nat → Nat → Int32) : Prop := n ≤ 16 ∧ I 133 t0 = nI n ∧ ∀ i j, i < n → j ≤ 5 → (j ≤ 2 ∨ F i 0 = 3) → I 133 (t0 + 1 + 6 * i + j) = nI (F i j)
/-- which sorts have been -/
def OnC (n : Nat) (F : Nat → Nat → Nat) (I : Nat → Nat → Int32) : Prop := ∃ o, o < 8 ∧ I 130 21 = nI o ∧ ∀ s, s < 3 → (o.testBit s = true ↔ ∃ i, i < n ∧ F i 0 = s)
def RXt (bt : Nat → Nat) (tn m t0 n : Nat) (F : Nat → Nat → Nat) (L : Cd) (k : Nat) (μ : Me) : Prop := RK bt tn m t0 k L 0 μ ∧ RTb t0 n F μ.1 ∧ OnC n F μ.1 ∧ L.length ≤ k
def RFt (t0 : Nat) (I I' : Nat → Nat → Int32) : Prop := (∀ c, c ≠ 130 → c ≠ 133 → c ≠ 135 → I' c = I c) ∧ (∀ b, b < 7 → I' 130 b = I 130 b) ∧ ∀ j, (j < t0 ∨ t0 + 750 ≤ j) → I' 133 j = I 133 j
theorem RFt.rf {I : Nat → Nat → Int32} : RFt t0 I I := ⟨fun _ _ _ _ => rfl, fun _ _ => rfl, fun _ _ => rfl⟩
theorem RFt.tr {I I1 I2 : Nat → Nat → Int32} (h : RFt t0 I I1) (h2 : RFt t0 I1 I2) : RFt t0 I I2 := ⟨fun c a1 a2 a3 => (h2.1 c a1 a2 a3).trans (h.1 c a1 a2 a3), fun b a1 => (h2.2.1 b a1).trans (h.2.1 b a1), fun j a1 => (h2.2.2 j a1).trans (h.2.2 j a1)⟩
theorem RFr.t {I I' : Nat → Nat → Int32} (h : RFr t0 I I') : RFt t0 I I' := ⟨h.1, fun b a1 => h.2.1 b (by omega), fun j a1 => h.2.2 j (by omega)⟩
theorem RFx.t {X : Nat} {I I' : Nat → Nat → Int32} (h : RFx X I I') (h1 : t0 ≤ X) (h2 : X + 6 ≤ t0 + 750) : RFt t0 I I' := ⟨h.1, fun b a1 => h.2.1 b (by omega), fun j a1 => h.2.2 j (by omega)⟩
theorem RFt.f {I : Nat → Nat → Int32} {p : Nat} {v : Int32} (h : 7 ≤ p) : RFt t0 I (up2 I 130 p v) := ⟨fun c a1 _ _ => up2_ne a1, fun b a1 => up2_b (by omega), fun j _ => up2_a (by decide)⟩
theorem RFt.h {I : Nat → Nat → Int32} {p : Nat} {v : Int32} (h : t0 ≤ p) (h2 : p < t0 + 750) : RFt t0 I (up2 I 133 p v) := ⟨fun c _ a2 _ => up2_ne a2, fun b a1 => up2_a (by decide), fun j a1 => up2_b (by omega)⟩
theorem RFt.nx {μ μ' : Me} (h : Nx μ μ') : RFt t0 μ.1 μ'.1 := ⟨fun c a1 _ _ => h.1 c a1, fun b a1 => h.2 b (by omega), fun j _ => by rw [h.1 133 (by decide)]⟩
/-- fields that reading doesn't look at -/
theorem RK.g {k op : Nat} {L : Cd} {μ : Me} {p : Nat} {v : Int32} (h : RK bt tn m t0 k L op μ) (hp : 20 ≤ p) : RK bt tn m t0 k L op (up2 μ.1 130 p v, μ.2) := by
  obtain ⟨h1, h2, h3, h4, h5, h6⟩ := h
  refine ⟨?_, ?_, h3, ⟨h4.1, ?_⟩, ?_, ?_⟩
  · show rTp bt tn (up2 μ.1 130 p v)
    exact h1.fr (up2_b (show (4 : Nat) ≠ p by omega)) (up2_ne (show (134 : Nat) ≠ 130 by decide))
  · unfold RT at *
    simp (disch := omega) only [up2_b]
    exact h2
  · show up2 μ.1 130 p v 130 12 = _
    rw [up2_b (by omega)]; exact h4.2
  · show up2 μ.1 130 p v 130 18 = _
    rw [up2_b (by omega)]; exact h5
  · unfold RLt at *
    simp (disch := omega) only [up2_b, up2_a]
    exact h6
section
variable {k : Nat} {L : Cd} {μ : Me} {Ψ : Int32 → Me → Prop}
theorem r_sortOf {op : Nat} (h : RK bt tn m t0 k L op μ) (h1 : 1 ≤ kT bt tn k → kT bt tn k ≤ 4 → Ψ (nI (kT bt tn k - 1)) μ) (h0 : ¬ (1 ≤ kT bt tn k ∧ kT bt tn k ≤ 4) → Ψ mI μ) : VI N 3 mX12_sortOf [.ref 130] μ Ψ := by
  have yes : ∀ x, 1 ≤ x → x ≤ 4 → kT bt tn k = x → Ψ (nI (x - 1)) μ := fun x a1 a2 e => by
    have := h1 (by omega) (by omega)
    rw [e] at this
    exact this
  refine tX12_sortOf_0 (j_w3 (a := 102) (b := 101) (c := 101) (by decide) (by decide) (by decide) (q_isB (X := 1) (by decide) (by decide) (by decide) (by decide) h (fun g => ⟨_, rfl, yes 1 (by decide) (by decide) g⟩) (fun g1 => ?_)))
  refine j_w5 (a := 104) (b := 105) (c := 100) (d := 101) (e := 115) (by decide) (by decide) (by decide) (by decide) (by decide) (q_isB (X := 2) (by decide) (by decide) (by decide) (by decide) h (fun g => ⟨_, rfl, yes 2 (by decide) (by decide) g⟩) (fun g2 => ?_))
  refine j_w4 (a := 97) (b := 100) (c := 100) (d := 115) (by decide) (by decide) (by decide) (by decide) (q_isB (X := 3) (by decide) (by decide) (by decide) (by decide) h (fun g => ⟨_, rfl, yes 3 (by decide) (by decide) g⟩) (fun g3 => ?_))
  refine j_w4 (a := 114) (b := 117) (c := 108) (d := 101) (by decide) (by decide) (by decide) (by decide) (q_isB (X := 4) (by decide) (by decide) (by decide) (by decide) h (fun g => ⟨_, rfl, yes 4 (by decide) (by decide) g⟩) (fun g4 => ?_))
  exact ⟨_, rfl, h0 (by omega)⟩
/-- a clause's end -/
theorem r_165 {n k1 : Nat} {F : Nat → Nat → Nat} {v : Nat → Nat} {L2 : Cd} (hn : n < 16) (h : RK bt tn m t0 k1 L2 0 μ) (ht : RTb t0 n F μ.1) (hnew : ∀ j, j ≤ 5 → (j ≤ 2 ∨ v 0 = 3) → μ.1 133 (t0 + 1 + 6 * n + j) = nI (v j)) (ho : OnC (n + 1) (upFn F n v) μ.1) (hl : L2.length ≤ k1) (K0 : kT bt tn k1 = 59 → ∀ μ', RFt t0 μ.1 μ'.1 → RXt bt tn m t0 (n + 1) (upFn F n v) L2 (k1 + 1) μ' → Ψ 0 μ') (K1 : kT bt tn k1 ≠ 59 → ∀ μ', RFt t0 μ.1 μ'.1 → RB bt tn k1 μ' → Ψ 1 μ') : VB N 8 mX12_clause 165 [.ref 130] [] μ (fun r μ' => ∃ v, r = some (.int v) ∧ Ψ v μ') := by
  have ⟨t1, t2⟩ := rk_tok h
  have ht0 := h.2.2.2.1.1
  have e59 : (nI (rTok bt tn (tS bt tn k1)) = 59) ↔ kT bt tn k1 = 59 := by
    rw [show (59 : Int32) = nI 59 from rfl, nI_eq (by omega) (by decide)]
    exact tkc h 59
  refine tX12_clause_165 ?_
  rw [h.2.2.2.1.2, nI_clamp (by omega), ht.2.1, show (nI n + 1 : Int32) = nI (n + 1) from nI_add n 1, t1]
  refine ⟨vp_in_nI (by omega) (by decide), vp_in_nI (by omega) (by decide), ?_⟩
  have hA := h.h (x := t0) (w := n + 1) (by omega) (by omega)
  have frA : RFt t0 μ.1 (up2 μ.1 133 t0 (nI (n + 1))) := RFt.h (Nat.le_refl _) (by omega)
  refine ⟨fun g => ?_, fun g => ⟨_, rfl, K1 (fun q => g (e59.mpr q)) _ frA hA.rb⟩⟩
  have g := e59.mp g
  refine r_nxt hA (by omega) (fun μ1 nx h1 => ⟨_, rfl, K0 g μ1 (frA.tr (RFt.nx nx)) ⟨h1, ⟨by omega, ?_, fun i j hi hj hij => ?_⟩, ?_, by omega⟩⟩)
  · rw [nx.1 133 (by decide)]
    show up2 μ.1 133 t0 (nI (n + 1)) 133 t0 = _
    exact up2_c
  · rw [nx.1 133 (by decide)]
    show up2 μ.1 133 t0 (nI (n + 1)) 133 _ = _
    rw [up2_b (by omega)]
    by_cases e : i = n
    · rw [e, upFn_e] at hij ⊢
      exact hnew j hj hij
    · rw [upFn_n e] at hij ⊢
      exact ht.2.2 i j (by omega) hj hij
  · obtain ⟨o, o1, o2, o3⟩ := ho
    refine ⟨o, o1, ?_, o3⟩
    rw [nx.2 21 (by omega)]
    show up2 μ.1 133 t0 (nI (n + 1)) 130 21 = _
    rw [up2_a (by decide)]; exact o2
/-- a clause's body and end -/
theorem r_66 {n f k1 : Nat} {F : Nat → Nat → Nat} {v : Nat → Nat} {c : Cd} {s : Nat} (hs : s ≤ 3) (hn : n < 16) (hk : kT bt tn k ≠ 21) (h : RK bt tn m t0 k L 0 μ) (ht : RTb t0 n F μ.1) (hl : L.length ≤ k) (ho : v 0 = s → OnC (n + 1) (upFn F n v) μ.1) (hr : Rbd (kT bt tn) (kV bt tn) L s (k + 1) f k1 v c) (K0 : f = 0 → kT bt tn k1 = 59 → ∀ μ', RFt t0 μ.1 μ'.1 → RXt bt tn m t0 (n + 1) (upFn F n v) (L ++ c) (k1 + 1) μ' → Ψ 0 μ') (K1 : f = 0 → kT bt tn k1 ≠ 59 → ∀ μ', RFt t0 μ.1 μ'.1 → RB bt tn k1 μ' → Ψ 1 μ') (K2 : f ≠ 0 → ∀ μ', RFt t0 μ.1 μ'.1 → RB bt tn k1 μ' → Ψ (nI f) μ') : VB N 8 mX12_clause 66 [.ref 130, .int (nI s), .int (nI n)] [] μ (fun r μ' => ∃ v, r = some (.int v) ∧ Ψ v μ') := by
  have ht0 := h.2.2.2.1.1
  obtain ⟨fle, kle, flen⟩ := hr.len
  have fne : f ≠ 0 → ¬ nI f = (0 : Int32) := fun h1 e => h1 (nI_inj (b := 0) e (by omega) (by decide))
  have v0 := hr.1
  have hoo := ho v0
  refine tX12_clause_66 (r_nxt (h.g (p := 20) (v := nI s) (by decide)) hk (fun μ1 nx h1 => ?_))
  have fr1 : RFt t0 μ.1 μ1.1 := (RFt.f (by decide)).tr (RFt.nx nx)
  have s1 : ∀ j, μ1.1 133 j = μ.1 133 j := fun j => by
    rw [nx.1 133 (by decide)]
    show up2 μ.1 130 20 (nI s) 133 j = _
    exact up2_a (by decide)
  have f20 : μ1.1 130 20 = nI s := by
    rw [nx.2 20 (by omega)]
    show up2 μ.1 130 20 (nI s) 130 20 = _
    exact up2_c
  have f21 : μ1.1 130 21 = μ.1 130 21 := by
    rw [nx.2 21 (by omega)]
    show up2 μ.1 130 20 (nI s) 130 21 = _
    exact up2_b (by decide)
  have f14 : μ1.1 130 14 = nI L.length := h1.2.2.2.2.2.2.1
  have eX : ((nI t0 + 1 : Int32) + 6 * nI n) = nI (t0 + 1 + 6 * n) := by
    simp (disch := omega) only [lit, Nat.add_sub_cancel, Nat.not_lt_zero, ↓m1_mI, nI_add, pk_mul, nx_and, nx_or, and31, sh_r, sh_1, nx_nand, Nat.and_one_is_mod, nI_clamp, nI_leI, nI_ltI, nI_eq, tb_1, vp_t, up2_a, up2_b, up2_c, br_1, br_0, true_and, and_true, mI_ne, mI_ne', mI_lt, mI_le, mI_nle, mI_nlt, pk_sub, mI_sub]
  rw [h1.2.2.2.1.2, eX, nI_clamp (n := t0 + 1 + 6 * n) (by omega), f14]
  refine ⟨vp_in_nI (by omega) (by decide), ?_⟩
  have hB := h1.h (x := t0 + 1 + 6 * n) (w := s) (by omega) (by omega)
  have frB : RFt t0 μ.1 (up2 μ1.1 133 (t0 + 1 + 6 * n) (nI s)) := fr1.tr (RFt.h (by omega) (by omega))
  have B3 : ∀ j, j ≠ t0 + 1 + 6 * n → (up2 μ1.1 133 (t0 + 1 + 6 * n) (nI s)) 133 j = μ.1 133 j := fun j hj => by rw [up2_b hj]; exact s1 j
  have BX : (up2 μ1.1 133 (t0 + 1 + 6 * n) (nI s)) 133 (t0 + 1 + 6 * n) = nI s := up2_c
  have B20 : (up2 μ1.1 133 (t0 + 1 + 6 * n) (nI s)) 130 20 = nI s := by rw [up2_a (by decide)]; exact f20
  have B21 : (up2 μ1.1 133 (t0 + 1 + 6 * n) (nI s)) 130 21 = μ.1 130 21 := by rw [up2_a (by decide)]; exact f21
  have bad : ∀ μ3 : Me, f ≠ 0 → RFt t0 μ.1 μ3.1 → RB bt tn k1 μ3 → VB N 8 mX12_clause 128 [.ref 130, .int (nI s), .null, .int (nI (t0 + 1 + 6 * n)), .int (nI L.length)] [.int (nI f)] μ3 (fun r μ' => ∃ v, r = some (.int v) ∧ Ψ v μ') := fun μ3 ef q1 q2 => tX12_clause_128 ⟨fun e => absurd e (fne ef), fun _ => ⟨_, rfl, K2 ef μ3 q1 q2⟩⟩
  -- behind a body that isn't a rule
  have aft : ∀ μ5 : Me, s < 3 → f = 0 → v 1 = L.length → v 2 = L.length + c.length → RFr t0 (up2 μ1.1 133 (t0 + 1 + 6 * n) (nI s)) μ5.1 → RK bt tn m t0 k1 (L ++ c) 0 μ5 → VB N 8 mX12_clause 128 [.ref 130, .int (nI s), .null, .int (nI (t0 + 1 + 6 * n)), .int (nI L.length)] [.int 0] μ5 (fun r μ' => ∃ v, r = some (.int v) ∧ Ψ v μ') := by
    intro μ5 s3 ef v1 v2 fr5 h5
    have hlen : (L ++ c).length = L.length + c.length := List.length_append
    have l300 := h5.2.2.2.2.2.1
    have c1 : (nI (t0 + 1 + 6 * n) + 1 : Int32) = nI (t0 + 1 + 6 * n + 1) := nI_add _ 1
    have c2 : (nI (t0 + 1 + 6 * n) + 2 : Int32) = nI (t0 + 1 + 6 * n + 2) := nI_add _ 2
    refine tX12_clause_128 ⟨fun _ => ⟨fun e => absurd e (by rw [show (3 : Int32) = nI 3 from rfl, nI_leI (by omega) (by omega)]; omega), fun _ => ?_⟩, fun e => absurd rfl e⟩
    rw [c1, c2, nI_clamp (n := t0 + 1 + 6 * n + 1) (by omega), nI_clamp (n := t0 + 1 + 6 * n + 2) (by omega), h5.2.2.2.2.2.2.1]
    refine ⟨vp_in_nI (by omega) (by decide), vp_in_nI (by omega) (by decide), ?_⟩
    have h6 := (h5.h (x := t0 + 1 + 6 * n + 1) (w := L.length) (by omega) (by omega)).h (x := t0 + 1 + 6 * n + 2) (w := (L ++ c).length) (by omega) (by omega)
    have fr6 : RFt t0 μ.1 (up2 (up2 μ5.1 133 (t0 + 1 + 6 * n + 1) (nI L.length)) 133 (t0 + 1 + 6 * n + 2) (nI (L ++ c).length)) := ((frB.tr fr5.t).tr (RFt.h (by omega) (by omega))).tr (RFt.h (by omega) (by omega))
    have G : ∀ j, j < t0 + 150 → j ≠ t0 + 1 + 6 * n + 1 → j ≠ t0 + 1 + 6 * n + 2 → (up2 (up2 μ5.1 133 (t0 + 1 + 6 * n + 1) (nI L.length)) 133 (t0 + 1 + 6 * n + 2) (nI (L ++ c).length)) 133 j = (up2 μ1.1 133 (t0 + 1 + 6 * n) (nI s)) 133 j := fun j j0 j1 j2 => by rw [up2_b j2, up2_b j1]; exact fr5.2.2 j (Or.inl j0)
    refine r_165 (n := n) (F := F) (v := v) (L2 := L ++ c) hn h6 ⟨ht.1, ?_, fun i j hi hj hij => ?_⟩ (fun j hj hij => ?_) ?_ (by have := flen ef; omega) (fun g μ' q1 q2 => K0 ef g μ' (fr6.tr q1) q2) (fun g μ' q1 q2 => K1 ef g μ' (fr6.tr q1) q2)
    · show (up2 (up2 μ5.1 133 (t0 + 1 + 6 * n + 1) (nI L.length)) 133 (t0 + 1 + 6 * n + 2) (nI (L ++ c).length)) 133 t0 = _
      rw [G t0 (by omega) (by omega) (by omega), B3 t0 (by omega)]
      exact ht.2.1
    · show (up2 (up2 μ5.1 133 (t0 + 1 + 6 * n + 1) (nI L.length)) 133 (t0 + 1 + 6 * n + 2) (nI (L ++ c).length)) 133 _ = _
      rw [G _ (by omega) (by omega) (by omega), B3 _ (by omega)]
      exact ht.2.2 i j hi hj hij
    · show (up2 (up2 μ5.1 133 (t0 + 1 + 6 * n + 1) (nI L.length)) 133 (t0 + 1 + 6 * n + 2) (nI (L ++ c).length)) 133 _ = _
      have cs : j = 0 ∨ j = 1 ∨ j = 2 := by omega
      rcases cs with e | e | e <;> subst e
      · rw [G _ (by omega) (by omega) (by omega), v0]; exact BX
      · rw [up2_b (by omega), up2_c, v1]
      · rw [up2_c, v2, hlen]
    · obtain ⟨o, o1, o2, o3⟩ := hoo
      refine ⟨o, o1, ?_, o3⟩
      show (up2 (up2 μ5.1 133 (t0 + 1 + 6 * n + 1) (nI L.length)) 133 (t0 + 1 + 6 * n + 2) (nI (L ++ c).length)) 130 21 = _
      rw [up2_a (by decide), up2_a (by decide), fr5.2.1 21 (by omega), B21]
      exact o2
  have es : ∀ x : Nat, x ≤ 3 → ((nI s = nI x) ↔ s = x) := fun x hx => by rw [nI_eq (by omega) (by omega)]
  rcases hr.2 with ⟨q0, q1, q2, q3⟩ | ⟨q0, q1, q2, q3⟩ | ⟨q0, q1, q2⟩
  · subst q0
    refine ⟨fun e => absurd ((es 3 (by decide)).mp e) (by decide), fun _ => ⟨fun _ => ?_, fun e => absurd rfl e⟩⟩
    refine r_sum (fee := 1) (e := 0) (μ := (up2 μ1.1 133 (t0 + 1 + 6 * n) (nI 0), μ1.2)) q1 (Or.inl ⟨B20, rfl⟩) hB (by decide) (by omega) (fun ef μ5 q4 q5 _ => ?_) (fun ef μ5 q4 q5 => bad μ5 ef (frB.tr q4.t) q5)
    exact aft μ5 (by decide) ef q2 q3 q4 q5
  · refine ⟨fun e => absurd ((es 3 (by decide)).mp e) (by omega), fun _ => ⟨fun e => absurd ((es 0 (by decide)).mp e) (by omega), fun _ => ?_⟩⟩
    refine r_eith (fee := 0) (e := 0) (μ := (up2 μ1.1 133 (t0 + 1 + 6 * n) (nI s), μ1.2)) q1 (Or.inr ⟨s, by omega, by omega, B20, by decide⟩) hB (by omega) (fun ef μ5 q4 q5 _ => ?_) (fun ef μ5 q4 q5 => bad μ5 ef (frB.tr q4.t) q5)
    exact aft μ5 (by omega) ef q2 q3 q4 q5
  · subst q0 q2
    refine ⟨fun _ => ?_, fun e => absurd rfl e⟩
    refine r_ruled (X := t0 + 1 + 6 * n) (μ := (up2 μ1.1 133 (t0 + 1 + 6 * n) (nI 3), μ1.2)) (by omega) hB q1 (fun ef μ5 q4 q5 q6 => ?_) (fun ef μ5 q4 q5 => bad μ5 ef (frB.tr (q4.t (by omega) (by omega))) q5)
    have fr5 : RFt t0 μ.1 μ5.1 := frB.tr (q4.t (by omega) (by omega))
    refine tX12_clause_128 ⟨fun _ => ⟨fun _ => ?_, fun e => absurd (by decide) e⟩, fun e => absurd rfl e⟩
    refine r_165 (n := n) (F := F) (v := v) (L2 := L ++ []) hn (by rw [List.append_nil]; exact q5) ⟨ht.1, ?_, fun i j hi hj hij => ?_⟩ (fun j hj hij => ?_) ?_ (by rw [List.append_nil]; omega) (fun g μ' q1 q2 => K0 ef g μ' (fr5.tr q1) q2) (fun g μ' q1 q2 => K1 ef g μ' (fr5.tr q1) q2)
    · rw [q4.2.2 t0 (by omega)]
      exact (B3 t0 (by omega)).trans ht.2.1
    · rw [q4.2.2 _ (by omega)]
      exact (B3 _ (by omega)).trans (ht.2.2 i j hi hj hij)
    · by_cases e : j = 0
      · subst e
        rw [q4.2.2 _ (by omega), v0]
        exact BX
      · exact q6 j (by omega) hj
    · obtain ⟨o, o1, o2, o3⟩ := hoo
      refine ⟨o, o1, ?_, o3⟩
      rw [q4.2.1 21 (by omega)]
      exact B21.trans o2
end
end RG1
