/-! chain, weakest: the class -/
section CT
variable {N : Nat} {μ : Me} {B B' R T tp : Nat → Nat} {tn : Nat} {ft fp : Int32} {e : Nat → Nat} {g : Nat}
theorem c_reason {r f : Nat} {Ψ : Int32 → Me → Prop} (h5 : isL5 r) (hL : LW T r μ.1) (wT : WT T) (he : cEv e (μ.1 69)) (he9 : ∀ f, e f ≤ 9) (hf : f < 16) (h : Ψ (bI (rsP T e f)) μ) : VI N 2 mX5_reasonOf [.ref r, .ref 68, .int (nI f), .int (nI (shP T e 99 f))] μ Ψ := by
  have h9 : shP T e 99 f ≤ 9 := shN_9 wT he9 16 f
  have hge := sh_ge (e := e) wT hf
  have h16 := wT.1.2
  have none_ : e f = shP T e 99 f → Ψ (-1) μ := by
    intro q
    have : rsP T e f = 99 := (rsP_99 wT hf).mpr q
    rw [this] at h
    exact h
  refine tX5_reasonOf_0 h5 ?_
  by_cases h1 : shP T e 99 f < 1
  · simp (disch := omega) only [lit, Nat.add_sub_cancel, Nat.not_lt_zero, ↓m1_mI, nI_add, pk_mul, nx_and, nx_or, and31, sh_r, sh_1, nx_nand, Nat.and_one_is_mod, nI_clamp, nI_leI, nI_ltI, nI_eq, tb_1, vp_t, up2_a, up2_b, up2_c, br_1, br_0, true_and, and_true, mI_ne, mI_ne', mI_lt, mI_le, mI_nle, mI_nlt, pk_sub, mI_sub, eq_true h1]
    exact ⟨_, rfl, none_ (by omega)⟩
  · have g9 : ¬ 9 < shP T e 99 f := by omega
    have r69 := he _ (show 1 ≤ shP T e 99 f by omega) h9
    have hl := eb_lt e (shP T e 99 f)
    simp (disch := omega) only [lit, Nat.add_sub_cancel, Nat.not_lt_zero, ↓m1_mI, nI_add, pk_mul, nx_and, nx_or, and31, sh_r, sh_1, nx_nand, Nat.and_one_is_mod, nI_clamp, nI_leI, nI_ltI, nI_eq, tb_1, vp_t, up2_a, up2_b, up2_c, br_1, br_0, true_and, and_true, mI_ne, mI_ne', mI_lt, mI_le, mI_nle, mI_nlt, pk_sub, mI_sub, eq_false h1, eq_false g9, r69]
    rw [eb_tb]
    refine ⟨fun q => ⟨_, rfl, none_ (by omega)⟩, fun q => ?_⟩
    have hne : ¬ e f = shP T e 99 f := fun z => q ⟨hf, by omega⟩
    obtain ⟨s1, s2, s3, s4, s5⟩ := rsP_sp wT hf hne
    rw [he 1 (by decide) (by decide)]
    refine c_atAll (b := 99) h5 hL wT (Or.inr rfl) ?_
    simp (disch := omega) only [lit, Nat.add_sub_cancel, Nat.not_lt_zero, ↓m1_mI, nI_add, pk_mul, nx_and, nx_or, and31, sh_r, sh_1, nx_nand, Nat.and_one_is_mod, nI_clamp, nI_leI, nI_ltI, nI_eq, tb_1, vp_t, up2_a, up2_b, up2_c, br_1, br_0, true_and, and_true, mI_ne, mI_ne', mI_lt, mI_le, mI_nle, mI_nlt, pk_sub, mI_sub, r69]
    refine c_shownBy (b := 99) h5 hL wT (Or.inr rfl) (by omega) h9 ?_
    obtain ⟨l2, -, -, lR, -, od, lo, ho2, ho3⟩ := hL
    have hnR : nR T ≤ T 0 := cnt_le _ _
    have ha := eb_lt (shP T e 99) 1
    have hx := eb_lt (shP T e 99) (shP T e 99 f)
    refine vb_wf (N := N) (d := 2) (M := mX5_reasonOf) (hd := 59) (τ := Nat) (fun i => [.ref r, .null, .int (nI f), .int (nI (shP T e 99 f)), .int (nI (eb (shP T e 99) 1)), .int (nI (eb (shP T e 99) (shP T e 99 f))), .int (nI i)]) (fun _ => μ) (fun i => nR T - i) (fun i => i ≤ nR T ∧ ∀ j, j < i → ¬ (fl T (od j) 1 = f ∧ shP T e 99 f ≤ stg T (shP T e 99) 99 (od j))) ?_ 0 ⟨Nat.zero_le _, fun j hj => by omega⟩
    rintro i ⟨hi, hno⟩ K'
    refine tX5_reasonOf_59 h5 ?_
    by_cases ei : i = nR T
    · exfalso
      subst ei
      obtain ⟨j, hj, ej⟩ := ho3 _ s1 s2
      exact hno j hj ⟨by rw [ej]; exact s3, by rw [ej, s4]; exact Nat.le_refl _⟩
    · have hi' : i < nR T := by omega
      have ⟨r4, hk, hr⟩ := lo i hi'
      have hw := wT.2.1 _ hk hr
      obtain ⟨q5, q6, q7, q8, q9⟩ := lR _ hk hr
      have g1 : ¬ nR T ≤ i := by omega
      have hlt : fl T (od i) 4 < 65536 ∧ fl T (od i) 5 < 65536 := ⟨wT.1.1 _, wT.1.1 _⟩
      have hnd : ndN (fl T (od i) 4) (eb (shP T e 99) (shP T e 99 f)) < 2 ^ 31 := lt31 (ndN_le _ _ (n := 16) hlt.1) (by decide)
      have han : fl T (od i) 5 &&& eb (shP T e 99) 1 < 2 ^ 31 := Nat.lt_of_le_of_lt Nat.and_le_left (by omega)
      have low : ∀ s f', f' < fl T (od i) 1 → ((eb (shP T e 99) s).testBit f' = true ↔ s ≤ shP T e 99 f') := fun s f' hf' => by rw [eb_tb]; exact ⟨fun z => z.2, fun z => ⟨by omega, z⟩⟩
      have hc := FP_c (x := eb (shP T e 99) (shP T e 99 f)) (a := eb (shP T e 99) 1) (b := 99) wT (show 1 ≤ shP T e 99 f by omega) hk hr (low _) (low 1)
      have nx : ¬ (fl T (od i) 1 = f ∧ shP T e 99 f ≤ stg T (shP T e 99) 99 (od i)) → VB N 2 mX5_reasonOf 59 [.ref r, .null, .int (nI f), .int (nI (shP T e 99 f)), .int (nI (eb (shP T e 99) 1)), .int (nI (eb (shP T e 99) (shP T e 99 f))), .int (nI (i + 1))] [] μ (fun r μ' => ∃ v, r = some (.int v) ∧ Ψ v μ') := by
        intro z
        refine K' (i + 1) ⟨by omega, fun j hj => ?_⟩ (by omega)
        by_cases ej : j = i
        · subst ej; exact z
        · exact hno j (by omega)
      simp (disch := omega) only [lit, Nat.add_sub_cancel, Nat.not_lt_zero, ↓m1_mI, nI_add, pk_mul, nx_and, nx_or, and31, sh_r, sh_1, nx_nand, Nat.and_one_is_mod, nI_clamp, nI_leI, nI_ltI, nI_eq, tb_1, vp_t, up2_a, up2_b, up2_c, br_1, br_0, true_and, and_true, mI_ne, mI_ne', mI_lt, mI_le, mI_nle, mI_nlt, pk_sub, mI_sub, l2, eq_false g1, r4, q5, q6, q8, q9]
      refine ⟨fun z1 => ⟨fun z2 => nx (fun y => by have := (hc.mp y.2).1; omega), fun z2 => ⟨fun z3 => ⟨fun z4 => ⟨_, rfl, ?_⟩, fun z4 => nx (fun y => ?_)⟩, fun z3 => nx (fun y => z3 (hc.mp y.2).2.1)⟩⟩, fun z1 => nx (fun y => z1 y.1)⟩
      · have hst := hc.mpr ⟨by omega, z3, Or.inl z4⟩
        have hup := stg_sh (e := e) wT hk hr
        rw [z1] at hup
        have : rsP T e f = od i := by
          rcases Nat.lt_trichotomy (rsP T e f) (od i) with y | y | y
          · exfalso
            obtain ⟨j, hj, ej⟩ := ho3 _ s1 s2
            rcases Nat.lt_trichotomy j i with w | w | w
            · exact hno j w ⟨by rw [ej]; exact s3, by rw [ej, s4]; exact Nat.le_refl _⟩
            · subst w; omega
            · rcases ho2 i j w hj with u | u
              · rw [ej, s3, z1] at u; omega
              · rw [ej] at u; omega
          · exact y
          · exact absurd ⟨hr, z1, by omega⟩ (s5 _ y)
        rw [this] at h
        unfold bI at h
        rw [if_neg (by omega)] at h
        exact h
      · rcases (hc.mp y.2).2.2 with w | w
        · exact z4 w
        · omega
theorem c_needsR {r f : Nat} {Ψ : Int32 → Me → Prop} (h5 : isL5 r) (hL : LW T r μ.1) (wT : WT T) (hf : f < 16) (h : Ψ (nI (ndP T e f)) μ) : VI N 2 mX5_needsOf [.ref r, .int (bI (rsP T e f))] μ Ψ := by
  have h16 := wT.1.2
  refine tX5_needsOf_0 h5 ?_
  by_cases q : rsP T e f = 99
  · have e1 : bI (rsP T e f) = mI := by unfold bI; rw [if_pos q]
    rw [e1]
    refine vb_wk (ls' := [.null, .int mI]) ⟨rfl, trivial⟩ (tX5_isRule_0 ⟨fun _ => ⟨_, rfl, ⟨fun _ => ⟨_, rfl, ?_⟩, fun z => absurd rfl z⟩⟩, fun z => absurd (by decide) z⟩)
    unfold ndP at h
    rw [if_pos q] at h
    exact h
  · have s := rsP_sp (e := e) wT hf (fun z => q ((rsP_99 wT hf).mpr z))
    have e1 : bI (rsP T e f) = nI (rsP T e f) := by unfold bI; rw [if_neg q]
    rw [e1]
    refine c_isRl (by omega) ⟨fun z => absurd z (by decide), fun _ => ?_⟩
    have q8 := (hL.2.2.2.1 _ s.1 s.2.1).2.2.2.1
    have hlt := s.1
    simp (disch := omega) only [lit, Nat.add_sub_cancel, Nat.not_lt_zero, ↓m1_mI, nI_add, pk_mul, nx_and, nx_or, and31, sh_r, sh_1, nx_nand, Nat.and_one_is_mod, nI_clamp, nI_leI, nI_ltI, nI_eq, tb_1, vp_t, up2_a, up2_b, up2_c, br_1, br_0, true_and, and_true, mI_ne, mI_ne', mI_lt, mI_le, mI_nle, mI_nlt, pk_sub, mI_sub, q8]
    unfold ndP at h
    rw [if_neg q] at h
    exact ⟨_, rfl, h⟩
theorem c_worthR {r f : Nat} {Ψ : Int32 → Me → Prop} (h5 : isL5 r) (hL : LW T r μ.1) (wT : WT T) (hf : f < 16) (hq : ¬ rsP T e f = 99) (h : Ψ (nI (fl T (rsP T e f) 2)) μ) : VI N 2 mX5_worthOf [.ref r, .int (bI (rsP T e f))] μ Ψ := by
  have h16 := wT.1.2
  have s := rsP_sp (e := e) wT hf (fun z => hq ((rsP_99 wT hf).mpr z))
  have e1 : bI (rsP T e f) = nI (rsP T e f) := by unfold bI; rw [if_neg hq]
  refine tX5_worthOf_0 h5 ?_
  rw [e1]
  refine c_isRl (by omega) ⟨fun z => absurd z (by decide), fun _ => ?_⟩
  have q6 := (hL.2.2.2.1 _ s.1 s.2.1).2.1
  have hlt := s.1
  simp (disch := omega) only [lit, Nat.add_sub_cancel, Nat.not_lt_zero, ↓m1_mI, nI_add, pk_mul, nx_and, nx_or, and31, sh_r, sh_1, nx_nand, Nat.and_one_is_mod, nI_clamp, nI_leI, nI_ltI, nI_eq, tb_1, vp_t, up2_a, up2_b, up2_c, br_1, br_0, true_and, and_true, mI_ne, mI_ne', mI_lt, mI_le, mI_nle, mI_nlt, pk_sub, mI_sub, q6]
  exact ⟨_, rfl, h⟩
def dI (n : Nat) : Int32 := if n = 16 then mI else nI (15 - n)
theorem dI_s {n : Nat} (h : n < 16) : nI (15 - n) + mI = dI (n + 1) := by
  unfold dI
  by_cases e : n = 15
  · subst e; decide
  · rw [if_neg (by omega), mI_sub (by omega)]
    exact congrArg nI (by omega)
theorem c_trace {r : Nat} {Ψ : Me → Prop} (h5 : isL5 r) (hL : LW T r μ.1) (wT : WT T) (he : cEv e (μ.1 69)) (he9 : ∀ f, e f ≤ 9) (hg : g < 16) (K : ∀ μ' : Me, Ag [72, 73, 74] μ.1 μ'.1 → μ'.1 72 0 = nI (wnN T e g 16) → μ'.1 72 1 = nI g → (∀ f, f < 16 → (wnN T e g 16).testBit f = true → μ'.1 73 f = bI (rsP T e f) ∧ μ'.1 74 f = nI (shP T e 99 f)) → Ψ μ') : VU N 3 mX0_trace [.ref 72, .ref r, .ref 68, .int (nI g)] μ Ψ := by
  refine tX0_trace_0 h5 ?_
  (try simp (disch := omega) only [lit, Nat.add_sub_cancel, Nat.not_lt_zero, ↓m1_mI, nI_add, pk_mul, nx_and, nx_or, and31, sh_r, sh_1, nx_nand, Nat.and_one_is_mod, nI_clamp, nI_leI, nI_ltI, nI_eq, tb_1, vp_t, up2_a, up2_b, up2_c, br_1, br_0, true_and, and_true, mI_ne, mI_ne', mI_lt, mI_le, mI_nle, mI_nlt, pk_sub, mI_sub])
  have Z := vb_wf (N := N) (d := 3) (M := mX0_trace) (hd := 15) (Ψ := fun r μ' => r = none ∧ Ψ μ') (τ := Nat × Me) (fun x => [.ref 72, .ref r, .ref 68, .null, .int (dI x.1)]) (fun x => x.2) (fun x => 16 - x.1) (fun x => x.1 ≤ 16 ∧ Ag [72, 73, 74] μ.1 x.2.1 ∧ x.2.1 72 0 = nI (wnN T e g x.1) ∧ x.2.1 72 1 = nI g ∧ (∀ f, f < 16 → 16 - x.1 ≤ f → (wnN T e g 16).testBit f = true → x.2.1 73 f = bI (rsP T e f) ∧ x.2.1 74 f = nI (shP T e 99 f))) ?_ (15 - g, (up2 (up2 μ.1 72 0 (nI (2 ^ g))) 72 1 (nI g), μ.2)) ⟨by omega, (Ag.rf.up (by decide)).up (by decide), ?_, ?_, fun f hf h1 hb => ?_⟩
  · have e1 : dI (15 - g) = nI g := by
      unfold dI
      rw [if_neg (by omega)]
      congr 1
      omega
    dsimp only at Z
    rw [e1] at Z
    exact Z
  · rintro ⟨n, ν⟩ ⟨hn, hA, h72, h721, hS⟩ K'
    dsimp only at hn hA h72 h721 hS K' ⊢
    refine tX0_trace_15 h5 ?_
    by_cases en : n = 16
    · subst en
      have e1 : dI 16 = mI := rfl
      rw [e1]
      exact ⟨fun _ => ⟨rfl, K ν hA h72 h721 (fun f hf hb => hS f hf (by omega) hb)⟩, fun z => absurd (by decide) z⟩
    · have e1 : dI n = nI (15 - n) := by unfold dI; rw [if_neg en]
      have hw := wnN_lt (e := e) (g := g) wT hg n
      have hLν : LW T r ν.1 := hL.fr (fun a k1 k2 => hA a (by unfold isL5 at h5; simp; omega))
      have h69 : ν.1 69 = μ.1 69 := hA 69 (by decide)
      have hst := wnN_st (e := e) (g := g) (n := n) (m := 16) (j := 15 - n) wT hn (Nat.le_refl _) (Nat.le_refl _)
      have es : wnN T e g (n + 1) = if (wnN T e g n).testBit (15 - n) = true then wnN T e g n ||| ndP T e (15 - n) else wnN T e g n := rfl
      rw [e1]
      simp (disch := omega) only [lit, Nat.add_sub_cancel, Nat.not_lt_zero, ↓m1_mI, nI_add, pk_mul, nx_and, nx_or, and31, sh_r, sh_1, nx_nand, Nat.and_one_is_mod, nI_clamp, nI_leI, nI_ltI, nI_eq, tb_1, vp_t, up2_a, up2_b, up2_c, br_1, br_0, true_and, and_true, mI_ne, mI_ne', mI_lt, mI_le, mI_nle, mI_nlt, pk_sub, mI_sub, h72]
      rw [dI_s (by omega)]
      refine ⟨fun hb => ?_, fun hb => ?_⟩
      · refine c_strength h5 hLν wT (by rw [h69]; exact he) he9 (by omega) ?_
        (try simp (disch := omega) only [lit, Nat.add_sub_cancel, Nat.not_lt_zero, ↓m1_mI, nI_add, pk_mul, nx_and, nx_or, and31, sh_r, sh_1, nx_nand, Nat.and_one_is_mod, nI_clamp, nI_leI, nI_ltI, nI_eq, tb_1, vp_t, up2_a, up2_b, up2_c, br_1, br_0, true_and, and_true, mI_ne, mI_ne', mI_lt, mI_le, mI_nle, mI_nlt, pk_sub, mI_sub])
        have hA1 : Ag [72, 73, 74] μ.1 (((up2 ν.1 74 (15 - n) (nI (shP T e 99 (15 - n))), ν.2) : Me).1) := hA.up (by decide)
        refine c_reason h5 (hL.fr (fun a k1 k2 => hA1 a (by unfold isL5 at h5; simp; omega))) wT (by rw [hA1 69 (by decide)]; exact he) he9 (by omega) ?_
        (try simp (disch := omega) only [lit, Nat.add_sub_cancel, Nat.not_lt_zero, ↓m1_mI, nI_add, pk_mul, nx_and, nx_or, and31, sh_r, sh_1, nx_nand, Nat.and_one_is_mod, nI_clamp, nI_leI, nI_ltI, nI_eq, tb_1, vp_t, up2_a, up2_b, up2_c, br_1, br_0, true_and, and_true, mI_ne, mI_ne', mI_lt, mI_le, mI_nle, mI_nlt, pk_sub, mI_sub])
        have hA2 : Ag [72, 73, 74] μ.1 (((up2 (up2 ν.1 74 (15 - n) (nI (shP T e 99 (15 - n)))) 73 (15 - n) (bI (rsP T e (15 - n))), ν.2) : Me).1) := hA1.up (by decide)
        refine c_needsR h5 (hL.fr (fun a k1 k2 => hA2 a (by unfold isL5 at h5; simp; omega))) wT (by omega) ?_
        simp (disch := omega) only [lit, Nat.add_sub_cancel, Nat.not_lt_zero, ↓m1_mI, nI_add, pk_mul, nx_and, nx_or, and31, sh_r, sh_1, nx_nand, Nat.and_one_is_mod, nI_clamp, nI_leI, nI_ltI, nI_eq, tb_1, vp_t, up2_a, up2_b, up2_c, br_1, br_0, true_and, and_true, mI_ne, mI_ne', mI_lt, mI_le, mI_nle, mI_nlt, pk_sub, mI_sub, h72]
        refine K' (n + 1, _) ⟨by omega, hA2.up (by decide), ?_, ?_, fun f hf h1 hb2 => ?_⟩ (by omega)
        · simp only [up2_c]
          rw [es, if_pos hb]
        · simp (disch := omega) only [up2_b, up2_a]
          exact h721
        · by_cases ef : f = 15 - n
          · subst ef
            simp (disch := omega) only [up2_a, up2_c, and_self]
          · simp (disch := omega) only [up2_a, up2_b]
            exact hS f hf (by omega) hb2
      · refine K' (n + 1, ν) ⟨by omega, hA, ?_, h721, fun f hf h1 hb2 => ?_⟩ (by omega)
        · rw [es, if_neg hb]; exact h72
        · by_cases ef : f = 15 - n
          · subst ef
            rw [hst] at hb2
            exact absurd hb2 hb
          · exact hS f hf (by omega) hb2
  · simp (disch := omega) only [up2_b, up2_c]
    rw [wnN_hi wT hg _ (Nat.le_refl _)]
  · simp only [up2_c]
  · exfalso
    rw [wnN_st (e := e) (g := g) (n := 15 - g) (m := 16) (j := f) wT (by omega) (Nat.le_refl _) (by omega), wnN_hi wT hg _ (Nat.le_refl _), Nat.testBit_two_pow] at hb
    have := of_decide_eq_true hb
    omega
def ftA (W j : Nat) : Nat := fnd 16 (fun f => W.testBit f && decide (cnt f (fun i => W.testBit i) = j))
theorem c_factAt {W j : Nat} {Ψ : Int32 → Me → Prop} (hW : W < 65536) (h72 : μ.1 72 0 = nI W) (hj : j < 2 ^ 31) (k1 : ftA W j < 16 → Ψ (nI (ftA W j)) μ) (k0 : ¬ ftA W j < 16 → Ψ (-1) μ) : VI N 1 mX0_factAt [.ref 72, .int (nI j)] μ Ψ := by
  refine tX0_factAt_0 ?_
  have Z := vb_wf (N := N) (d := 1) (M := mX0_factAt) (hd := 4) (Ψ := fun r μ' => ∃ v, r = some (.int v) ∧ Ψ v μ') (τ := Nat) (fun i => [.ref 72, .null, .int (nI (j - cnt i (fun i => W.testBit i))), .int (nI i)]) (fun _ => μ) (fun i => 16 - i) (fun i => i ≤ 16 ∧ cnt i (fun i => W.testBit i) ≤ j ∧ ∀ f, f < i → ¬ (W.testBit f = true ∧ cnt f (fun i => W.testBit i) = j)) ?_ 0 ⟨by omega, Nat.zero_le _, fun f hf => by omega⟩
  · exact Z
  · rintro i ⟨hi, hc, hno⟩ K'
    refine tX0_factAt_4 ?_
    by_cases ei : i = 16
    · subst ei
      simp (disch := omega) only [lit, Nat.add_sub_cancel, Nat.not_lt_zero, ↓m1_mI, nI_add, pk_mul, nx_and, nx_or, and31, sh_r, sh_1, nx_nand, Nat.and_one_is_mod, nI_clamp, nI_leI, nI_ltI, nI_eq, tb_1, vp_t, up2_a, up2_b, up2_c, br_1, br_0, true_and, and_true, mI_ne, mI_ne', mI_lt, mI_le, mI_nle, mI_nlt, pk_sub, mI_sub, Nat.le_refl]
      refine ⟨_, rfl, k0 (fun z => ?_)⟩
      have := fnd_sp z
      rw [Bool.and_eq_true, decide_eq_true_iff] at this
      exact hno _ z this
    · have g1 : ¬ 16 ≤ i := by omega
      simp (disch := omega) only [lit, Nat.add_sub_cancel, Nat.not_lt_zero, ↓m1_mI, nI_add, pk_mul, nx_and, nx_or, and31, sh_r, sh_1, nx_nand, Nat.and_one_is_mod, nI_clamp, nI_leI, nI_ltI, nI_eq, tb_1, vp_t, up2_a, up2_b, up2_c, br_1, br_0, true_and, and_true, mI_ne, mI_ne', mI_lt, mI_le, mI_nle, mI_nlt, pk_sub, mI_sub, eq_false g1, h72]
      refine ⟨fun hb => ⟨fun z => ⟨_, rfl, ?_⟩, fun z => ?_⟩, fun hb => ?_⟩
      · have ef : ftA W j = i := by
          apply fnd_eq (by omega)
          · rw [hb, decide_eq_true (by omega)]; rfl
          · intro f hf
            apply eq_false_of_ne_true
            intro y
            rw [Bool.and_eq_true, decide_eq_true_iff] at y
            exact hno f hf y
        have := k1 (by omega)
        rw [ef] at this
        exact this
      · have hp : 0 < j - cnt i (fun i => W.testBit i) := by omega
        have hs := cnt_t (n := i) (p := fun i => W.testBit i) hb
        have e1 : j - cnt i (fun i => W.testBit i) - 1 = j - cnt (i + 1) (fun i => W.testBit i) := by omega
        simp (disch := omega) only [lit, Nat.add_sub_cancel, Nat.not_lt_zero, ↓m1_mI, nI_add, pk_mul, nx_and, nx_or, and31, sh_r, sh_1, nx_nand, Nat.and_one_is_mod, nI_clamp, nI_leI, nI_ltI, nI_eq, tb_1, vp_t, up2_a, up2_b, up2_c, br_1, br_0, true_and, and_true, mI_ne, mI_ne', mI_lt, mI_le, mI_nle, mI_nlt, pk_sub, mI_sub, e1]
        refine K' (i + 1) ⟨by omega, by omega, fun f hf => ?_⟩ (by omega)
        by_cases ef : f = i
        · subst ef; exact fun y => by omega
        · exact hno f (by omega)
      · have hs := cnt_f (n := i) (p := fun i => W.testBit i) hb
        have e1 : j - cnt i (fun i => W.testBit i) = j - cnt (i + 1) (fun i => W.testBit i) := by omega
        rw [e1]
        refine K' (i + 1) ⟨by omega, by omega, fun f hf => ?_⟩ (by omega)
        by_cases ef : f = i
        · subst ef; exact fun y => hb y.1
        · exact hno f (by omega)
def wkP (T e : Nat → Nat) (g f : Nat) : Prop := (wnN T e g 16).testBit f = true ∧ shP T e 99 f = shP T e 99 g ∧ (rsP T e f = 99 ∨ fl T (rsP T e f) 2 = shP T e 99 g)
theorem wkP_g (wT : WT T) (hg : g < 16) (h1 : 1 ≤ shP T e 99 g) {f : Nat} (h : wkP T e g f) : f ≤ g := (wnN_due wT hg h1 16 (Nat.le_refl _) f h.1).1
theorem c_weakF {r : Nat} {Ψ : Int32 → Me → Prop} (h5 : isL5 r) (hL : LW T r μ.1) (wT : WT T) (he9 : ∀ f, e f ≤ 9) (hg : g < 16) (hs1 : 1 ≤ shP T e 99 g) (h72 : μ.1 72 0 = nI (wnN T e g 16)) (h721 : μ.1 72 1 = nI g) (hS : ∀ f, f < 16 → (wnN T e g 16).testBit f = true → μ.1 73 f = bI (rsP T e f) ∧ μ.1 74 f = nI (shP T e 99 f)) (k1 : ∀ f, wkP T e g f → (∀ j, j < f → ¬ wkP T e g j) → Ψ (nI f) μ) (k0 : (∀ j, ¬ wkP T e g j) → Ψ (-1) μ) : VI N 3 mX0_weakestFact [.ref 72, .ref r] μ Ψ := by
  have hw := wnN_lt (e := e) (g := g) wT hg 16
  have h16 := wT.1.2
  have hgW : (wnN T e g 16).testBit g = true := by
    rw [wnN_st (e := e) (g := g) (n := 15 - g) (m := 16) (j := g) wT (by omega) (Nat.le_refl _) (by omega), wnN_hi wT hg _ (Nat.le_refl _), Nat.testBit_two_pow]
    simp
  have r74 := (hS g hg hgW).2
  have hs9 : ∀ f, shP T e 99 f ≤ 9 := fun f => shN_9 wT he9 16 f
  refine tX0_weakestFact_0 h5 ?_
  refine vb_wf (N := N) (d := 3) (M := mX0_weakestFact) (hd := 2) (τ := Nat) (fun i => [.ref 72, .ref r, .int (nI i)]) (fun _ => μ) (fun i => 16 - i) (fun i => i ≤ 16 ∧ ∀ f, f < i → ¬ wkP T e g f) ?_ 0 ⟨by omega, fun f hf => by omega⟩
  rintro i ⟨hi, hno⟩ K'
  refine tX0_weakestFact_2 h5 ?_
  by_cases hgi : g < i
  · simp (disch := omega) only [lit, Nat.add_sub_cancel, Nat.not_lt_zero, ↓m1_mI, nI_add, pk_mul, nx_and, nx_or, and31, sh_r, sh_1, nx_nand, Nat.and_one_is_mod, nI_clamp, nI_leI, nI_ltI, nI_eq, tb_1, vp_t, up2_a, up2_b, up2_c, br_1, br_0, true_and, and_true, mI_ne, mI_ne', mI_lt, mI_le, mI_nle, mI_nlt, pk_sub, mI_sub, h721, eq_true hgi]
    refine ⟨_, rfl, k0 (fun j hj => ?_)⟩
    have := wkP_g wT hg hs1 hj
    exact hno j (by omega) hj
  · have g1 : ¬ 16 ≤ i := by omega
    have nx : ¬ wkP T e g i → VB N 3 mX0_weakestFact 2 [.ref 72, .ref r, .int (nI (i + 1))] [] μ (fun r μ' => ∃ v, r = some (.int v) ∧ Ψ v μ') := by
      intro z
      refine K' (i + 1) ⟨by omega, fun f hf => ?_⟩ (by omega)
      by_cases ef : f = i
      · subst ef; exact z
      · exact hno f (by omega)
    have nx0 : ¬ wkP T e g i → VB N 3 mX0_weakestFact 51 [.ref 72, .ref r, .int (nI i)] [.int 0] μ (fun r μ' => ∃ v, r = some (.int v) ∧ Ψ v μ') := by
      intro z
      refine tX0_weakestFact_51 h5 ⟨fun _ => ?_, fun y => absurd rfl y⟩
      (try simp (disch := omega) only [lit, Nat.add_sub_cancel, Nat.not_lt_zero, ↓m1_mI, nI_add, pk_mul, nx_and, nx_or, and31, sh_r, sh_1, nx_nand, Nat.and_one_is_mod, nI_clamp, nI_leI, nI_ltI, nI_eq, tb_1, vp_t, up2_a, up2_b, up2_c, br_1, br_0, true_and, and_true, mI_ne, mI_ne', mI_lt, mI_le, mI_nle, mI_nlt, pk_sub, mI_sub])
      exact nx z
    have hs9i := hs9 i
    have hs9g := hs9 g
    simp (disch := omega) only [lit, Nat.add_sub_cancel, Nat.not_lt_zero, ↓m1_mI, nI_add, pk_mul, nx_and, nx_or, and31, sh_r, sh_1, nx_nand, Nat.and_one_is_mod, nI_clamp, nI_leI, nI_ltI, nI_eq, tb_1, vp_t, up2_a, up2_b, up2_c, br_1, br_0, true_and, and_true, mI_ne, mI_ne', mI_lt, mI_le, mI_nle, mI_nlt, pk_sub, mI_sub, h721, eq_false hgi, eq_false g1, h72, r74]
    refine ⟨fun hb => ?_, fun hb => tX0_weakestFact_50 h5 (nx0 (fun z => hb z.1))⟩
    obtain ⟨r73, r74i⟩ := hS i (by omega) hb
    simp (disch := omega) only [lit, Nat.add_sub_cancel, Nat.not_lt_zero, ↓m1_mI, nI_add, pk_mul, nx_and, nx_or, and31, sh_r, sh_1, nx_nand, Nat.and_one_is_mod, nI_clamp, nI_leI, nI_ltI, nI_eq, tb_1, vp_t, up2_a, up2_b, up2_c, br_1, br_0, true_and, and_true, mI_ne, mI_ne', mI_lt, mI_le, mI_nle, mI_nlt, pk_sub, mI_sub, r74i]
    refine ⟨fun hq => ?_, fun hq => tX0_weakestFact_50 h5 (nx0 (fun z => hq z.2.1))⟩
    refine tX0_weakestFact_51 h5 ⟨fun y => absurd y (by decide), fun _ => ?_⟩
    simp (disch := omega) only [lit, Nat.add_sub_cancel, Nat.not_lt_zero, ↓m1_mI, nI_add, pk_mul, nx_and, nx_or, and31, sh_r, sh_1, nx_nand, Nat.and_one_is_mod, nI_clamp, nI_leI, nI_ltI, nI_eq, tb_1, vp_t, up2_a, up2_b, up2_c, br_1, br_0, true_and, and_true, mI_ne, mI_ne', mI_lt, mI_le, mI_nle, mI_nlt, pk_sub, mI_sub, r73]
    by_cases hr : rsP T e i = 99
    · have e1 : bI (rsP T e i) = mI := by unfold bI; rw [if_pos hr]
      rw [e1]
      exact ⟨fun _ => ⟨_, rfl, k1 i ⟨hb, hq, Or.inl hr⟩ hno⟩, fun z => absurd rfl z⟩
    · have s := rsP_sp (e := e) wT (show i < 16 by omega) (fun z => hr ((rsP_99 wT (by omega)).mpr z))
      have hwf := (wT.2.1 _ s.1 s.2.1).2.2.1
      have hne : ¬ bI (rsP T e i) = mI := by
        unfold bI
        rw [if_neg hr, mI_ne (by have := s.1; omega)]
        exact id
      refine ⟨fun z => absurd z hne, fun _ => ?_⟩
      refine c_worthR h5 hL wT (by omega) hr ?_
      simp (disch := omega) only [lit, Nat.add_sub_cancel, Nat.not_lt_zero, ↓m1_mI, nI_add, pk_mul, nx_and, nx_or, and31, sh_r, sh_1, nx_nand, Nat.and_one_is_mod, nI_clamp, nI_leI, nI_ltI, nI_eq, tb_1, vp_t, up2_a, up2_b, up2_c, br_1, br_0, true_and, and_true, mI_ne, mI_ne', mI_lt, mI_le, mI_nle, mI_nlt, pk_sub, mI_sub, h721, r74]
      exact ⟨fun z => ⟨_, rfl, k1 i ⟨hb, hq, Or.inr z⟩ hno⟩, fun z => nx (fun y => y.2.2.elim hr z)⟩
end CT
