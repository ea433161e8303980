/-! least: the reference -/
section LR_
variable {N : Nat} {μ : Me} {B B' R T tp : Nat → Nat} {tn : Nat} {ft fp : Int32} {v : Nat}
def rL (L : Option (Nat × Nat × Nat)) (r : Nat → Int32) : Prop := match L with
  | none => r 0 = mI
  | some x => r 0 = nI x.1 ∧ r 1 = nI x.2.1 ∧ r 2 = bI x.2.2
theorem r_tryBent {L : Option (Nat × Nat × Nat)} {st c b : Nat} {Ψ : Me → Prop} (hB : rowB B (μ.1 131)) (hW : WB B) (hT : RuL B T μ.1) (wT : WT T) (hb : b < 16 ∨ b = 99) (hs : st < 2 ^ B 0) (hv : v < B 1) (hS : rSay B T μ.1) (hL : rL L (μ.1 143)) (ho : okL L) (hc : c < 2 ^ 31) (K : ∀ μ' : Me, Ag [139, 140, 143] μ.1 μ'.1 → rL (tryP B T v L st c b) (μ'.1 143) → Ψ μ') : VU N 5 mX12_tryBent [.ref 130, .int (nI st), .int (nI v), .int (nI c), .int (bI b)] μ Ψ := by
  have go : lessL L c = true → VB N 5 mX12_tryBent 19 [.ref 130, .int (nI st), .int (nI v), .int (nI c), .int (bI b)] [] μ (fun r μ' => r = none ∧ Ψ μ') := by
    intro hl
    refine tX12_tryBent_19 (r_fby hB hW hT wT hb hs hv hS (fun μ1 a1 _ _ g => ⟨fun e => absurd e (by decide), fun _ => ⟨rfl, K _ ((((a1.mono (by decide)).up (by decide)).up (by decide)).up (by decide)) ?_⟩⟩) (fun μ1 a1 _ _ g => ⟨fun _ => ⟨rfl, K μ1 (a1.mono (by decide)) ?_⟩, fun e => absurd rfl e⟩))
    · unfold tryP
      rw [if_pos ⟨hl, fB_iff.mpr g⟩]
      refine ⟨?_, ?_, ?_⟩
      · simp (disch := omega) only [up2_b, up2_c]
      · simp (disch := omega) only [up2_b, up2_c]
      · simp only [up2_c]
    · unfold tryP
      rw [if_neg (fun q => g (fB_iff.mp q.2)), a1 143 (by decide)]
      exact hL
  refine tX12_tryBent_0 ?_
  cases L with
  | none =>
    have h0 : μ.1 143 0 = mI := hL
    rw [h0]
    exact ⟨fun _ => go rfl, fun q => absurd (by decide) q⟩
  | some x =>
    have h1 := ho.1
    have h0 : μ.1 143 0 = nI x.1 := hL.1
    simp (disch := omega) only [lit, Nat.add_sub_cancel, Nat.not_lt_zero, ↓m1_mI, nI_add, pk_mul, nx_and, nx_or, and31, sh_r, sh_1, nx_nand, Nat.and_one_is_mod, nI_clamp, nI_leI, nI_ltI, nI_eq, tb_1, vp_t, up2_a, up2_b, up2_c, br_1, br_0, true_and, and_true, mI_ne, mI_ne', mI_lt, mI_le, mI_nle, mI_nlt, pk_sub, mI_sub, h0]
    refine ⟨fun q => K μ Ag.rf ?_, fun q => go (decide_eq_true (by omega))⟩
    unfold tryP
    rw [if_neg (fun z => by have := of_decide_eq_true z.1; omega)]
    exact hL
def rFee (B T : Nat → Nat) (I : Nat → Nat → Int32) : Prop := ∀ w, w < B 0 → I 144 w = nI (feeP B T w (B 5))
theorem us_no {st w : Nat} (hw : w < B 0) (h : us B st = true) (hb : st.testBit w = true) : ¬ B (10 + 5 * w + 4) = 1 := by
  intro q
  have := (and_0 _ _).mp (us_iff.mp h) w hb
  rw [sb_tb B hw, decide_eq_true q] at this
  cases this
theorem us_yes {st : Nat} (h : ∀ w, w < B 0 → st.testBit w = true → ¬ B (10 + 5 * w + 4) = 1) : us B st = true := by
  rw [us_iff, and_0]
  intro i hi
  apply eq_false_of_ne_true
  intro q
  have hl : i < B 0 := tb_lt (bits_lt _ _) q
  rw [sb_tb B hl, decide_eq_true_iff] at q
  exact h i hl hi q
theorem r_feesOf {st : Nat} {Ψ : Int32 → Me → Prop} (hB : rowB B (μ.1 131)) (hW : WB B) (hF : rFee B T μ.1) (hs : st < 2 ^ 31) (k1 : us B st = true → Ψ (nI (fsN B T st (B 0))) μ) (k0 : ¬ us B st = true → Ψ (-1) μ) : VI N 2 mX12_feesOf [.ref 130, .int (nI st)] μ Ψ := by
  have hn := hW.n
  have rB := hB.1
  refine tX12_feesOf_0 ?_
  refine vb_wf (N := N) (d := 2) (M := mX12_feesOf) (hd := 4) (τ := Nat) (fun i => [.ref 130, .int (nI st), .int (nI (fsN B T st i)), .int (nI i)]) (fun _ => μ) (fun i => B 0 - i) (fun i => i ≤ B 0 ∧ ∀ w, w < i → st.testBit w = true → ¬ B (10 + 5 * w + 4) = 1) ?_ 0 ⟨Nat.zero_le _, fun w hw => by omega⟩
  rintro i ⟨hi, hno⟩ K
  refine tX12_feesOf_4 ?_
  by_cases ei : i = B 0
  · subst ei
    simp (disch := omega) only [lit, Nat.add_sub_cancel, Nat.not_lt_zero, ↓m1_mI, nI_add, pk_mul, nx_and, nx_or, and31, sh_r, sh_1, nx_nand, Nat.and_one_is_mod, nI_clamp, nI_leI, nI_ltI, nI_eq, tb_1, vp_t, up2_a, up2_b, up2_c, br_1, br_0, true_and, and_true, mI_ne, mI_ne', mI_lt, mI_le, mI_nle, mI_nlt, pk_sub, mI_sub, rB, Nat.le_refl]
    exact ⟨_, rfl, k1 (us_yes hno)⟩
  · have g1 : ¬ B 0 ≤ i := by omega
    have hi' : i < B 0 := by omega
    have hf := hF i hi'
    have hfe := feeP_le (T := T) (mn := B 5) hW hi'
    have hle := fsN_le (T := T) (st := st) hW (show i ≤ B 0 by omega)
    have es : fsN B T st (i + 1) = fsN B T st i + (if st.testBit i = true then feeP B T i (B 5) else 0) := rfl
    simp (disch := omega) only [lit, Nat.add_sub_cancel, Nat.not_lt_zero, ↓m1_mI, nI_add, pk_mul, nx_and, nx_or, and31, sh_r, sh_1, nx_nand, Nat.and_one_is_mod, nI_clamp, nI_leI, nI_ltI, nI_eq, tb_1, vp_t, up2_a, up2_b, up2_c, br_1, br_0, true_and, and_true, mI_ne, mI_ne', mI_lt, mI_le, mI_nle, mI_nlt, pk_sub, mI_sub, rB, eq_false g1]
    refine vi_b (fun Ψ => r_hasB hs (by omega)) (fun z => ?_) (fun z => ?_)
    · refine vi_b (fun Ψ => r_isX hB hW hi') (fun q => ⟨_, rfl, k0 (fun y => us_no hi' y z q)⟩) (fun q => ?_)
      simp (disch := omega) only [lit, Nat.add_sub_cancel, Nat.not_lt_zero, ↓m1_mI, nI_add, pk_mul, nx_and, nx_or, and31, sh_r, sh_1, nx_nand, Nat.and_one_is_mod, nI_clamp, nI_leI, nI_ltI, nI_eq, tb_1, vp_t, up2_a, up2_b, up2_c, br_1, br_0, true_and, and_true, mI_ne, mI_ne', mI_lt, mI_le, mI_nle, mI_nlt, pk_sub, mI_sub, hf]
      have Kn := K (i + 1) ⟨by omega, fun w hw hb => by
        by_cases ew : w = i
        · subst ew; exact q
        · exact hno w (by omega) hb⟩ (by omega)
      rw [es, if_pos z] at Kn
      exact Kn
    · have Kn := K (i + 1) ⟨by omega, fun w hw hb => by
        by_cases ew : w = i
        · subst ew; exact absurd hb z
        · exact hno w (by omega) hb⟩ (by omega)
      rw [es, if_neg z, Nat.add_zero] at Kn
      exact Kn
theorem r_findLeast {Ψ : Me → Prop} (hB : rowB B (μ.1 131)) (hW : WB B) (hT : RuL B T μ.1) (wT : WT T) (hv : v < B 1) (K : ∀ μ' : Me, Ag [136, 138, 139, 140, 141, 143, 144] μ.1 μ'.1 → rL (lsN B T v (2 ^ B 0)) (μ'.1 143) → Ψ μ') : VU N 7 mX12_findLeast [.ref 130, .int (nI v)] μ Ψ := by
  have hn := hW.n
  have h16 := wT.1.2
  have hp : 2 ^ B 0 ≤ 2 ^ 10 := Nat.pow_le_pow_right (by decide) (by omega)
  refine tX12_findLeast_0 (r_ask hB hW hT wT (fun μ1 a1 s1 => ?_))
  have b1 : Ag [136, 138, 139, 140, 141, 143, 144] μ.1 μ1.1 := a1.mono (by decide)
  refine vb_for (N := N) (d := 7) (M := mX12_findLeast) (hd := 6) (τ := Me) (fun i _ => [.ref 130, .int (nI v), .int (nI i)]) (fun _ ν => ν) (B 0) (fun i ν => Ag [136, 138, 139, 140, 141, 143, 144] μ.1 ν.1 ∧ rSay B T ν.1 ∧ ∀ w, w < i → ν.1 144 w = nI (feeP B T w (B 5))) ?_ ?_ 0 μ1 (by omega) ⟨b1, s1, fun w hw => by omega⟩
  · intro i ν hi ⟨hA, hS, hF⟩ K'
    have hB1 : rowB B (ν.1 131) := by rw [hA 131 (by decide)]; exact hB
    have rB := hB1.1
    have g1 : ¬ B 0 ≤ i := by omega
    refine tX12_findLeast_6 ?_
    simp (disch := omega) only [lit, Nat.add_sub_cancel, Nat.not_lt_zero, ↓m1_mI, nI_add, pk_mul, nx_and, nx_or, and31, sh_r, sh_1, nx_nand, Nat.and_one_is_mod, nI_clamp, nI_leI, nI_ltI, nI_eq, tb_1, vp_t, up2_a, up2_b, up2_c, br_1, br_0, true_and, and_true, mI_ne, mI_ne', mI_lt, mI_le, mI_nle, mI_nlt, pk_sub, mI_sub, rB, eq_false g1]
    refine r_feeOf hB1 hW (hT.fr (hA 133 (by decide))) wT hi (by omega) (fun μ2 a2 => ?_)
    refine K' _ ⟨(hA.tr (a2.mono (by decide))).up (by decide), ?_, fun w hw => ?_⟩
    · refine rSay_fr hS ?_
      simp (disch := omega) only [up2_ne]
      exact a2 141 (by decide)
    · by_cases ew : w = i
      · subst ew; simp only [up2_c]
      · simp (disch := omega) only [up2_b]
        rw [a2 144 (by decide)]
        exact hF w (by omega)
  · intro ν ⟨hA, hS, hF⟩
    have rB0 : ν.1 131 0 = nI (B 0) := by rw [hA 131 (by decide)]; exact hB.1 0 (by decide)
    refine tX12_findLeast_6 ?_
    simp (disch := omega) only [lit, Nat.add_sub_cancel, Nat.not_lt_zero, ↓m1_mI, nI_add, pk_mul, nx_and, nx_or, and31, sh_r, sh_1, nx_nand, Nat.and_one_is_mod, nI_clamp, nI_leI, nI_ltI, nI_eq, tb_1, vp_t, up2_a, up2_b, up2_c, br_1, br_0, true_and, and_true, mI_ne, mI_ne', mI_lt, mI_le, mI_nle, mI_nlt, pk_sub, mI_sub, rB0, Nat.le_refl]
    refine vb_for (N := N) (d := 7) (M := mX12_findLeast) (hd := 48) (τ := Me) (fun i _ => [.ref 130, .int (nI v), .int (nI i)]) (fun _ ν => ν) (2 ^ B 0) (fun i ξ => Ag [136, 138, 139, 140, 141, 143, 144] μ.1 ξ.1 ∧ rSay B T ξ.1 ∧ rFee B T ξ.1 ∧ rL (lsN B T v i) (ξ.1 143)) ?_ ?_ 0 _ (Nat.zero_le _) ⟨hA.up (by decide), rSay_fr hS (by simp (disch := omega) only [up2_ne]), fun w hw => by simp (disch := omega) only [up2_a]; exact hF w hw, by show up2 ν.1 143 0 mI 143 0 = mI; exact up2_c⟩
    · intro i ξ hi ⟨hA2, hS2, hF2, hL2⟩ K2
      have hB2 : rowB B (ξ.1 131) := by rw [hA2 131 (by decide)]; exact hB
      have rB := hB2.1
      have hT2 := hT.fr (hA2 133 (by decide))
      have g1 : ¬ 2 ^ B 0 ≤ i := by omega
      have hfs := fsN_le (T := T) (st := i) hW (Nat.le_refl _)
      have hok := lsN_ok (v := v) hW wT i (by omega)
      have e1 : lsN B T v (i + 1) = if us B i = true then setP B T v (lsN B T v i) i else lsN B T v i := rfl
      refine tX12_findLeast_48 ?_
      simp (disch := omega) only [lit, Nat.add_sub_cancel, Nat.not_lt_zero, ↓m1_mI, nI_add, pk_mul, nx_and, nx_or, and31, sh_r, sh_1, nx_nand, Nat.and_one_is_mod, nI_clamp, nI_leI, nI_ltI, nI_eq, tb_1, vp_t, up2_a, up2_b, up2_c, br_1, br_0, true_and, and_true, mI_ne, mI_ne', mI_lt, mI_le, mI_nle, mI_nlt, pk_sub, mI_sub, rB, eq_false g1]
      refine r_feesOf hB2 hW hF2 (by omega) (fun hu => ?_) (fun hu => ?_)
      · simp (disch := omega) only [lit, Nat.add_sub_cancel, Nat.not_lt_zero, ↓m1_mI, nI_add, pk_mul, nx_and, nx_or, and31, sh_r, sh_1, nx_nand, Nat.and_one_is_mod, nI_clamp, nI_leI, nI_ltI, nI_eq, tb_1, vp_t, up2_a, up2_b, up2_c, br_1, br_0, true_and, and_true, mI_ne, mI_ne', mI_lt, mI_le, mI_nle, mI_nlt, pk_sub, mI_sub, Nat.zero_le]
        have hokt : okL (tryP B T v (lsN B T v i) i (fsN B T i (B 0)) 99) := tryP_ok hok (by omega) (by omega) (Or.inr rfl)
        refine r_tryBent (b := 99) (L := lsN B T v i) hB2 hW hT2 wT (Or.inr rfl) hi hv hS2 hL2 hok (by omega) (fun μ4 a4 d4 => ?_)
        refine vb_for (N := N) (d := 7) (M := mX12_findLeast) (hd := 84) (τ := Me) (fun k _ => [.ref 130, .int (nI v), .int (nI i), .int (nI (fsN B T i (B 0))), .int (nI k)]) (fun _ ν => ν) (T 0) (fun k ζ => Ag [136, 138, 139, 140, 141, 143, 144] μ.1 ζ.1 ∧ rSay B T ζ.1 ∧ rFee B T ζ.1 ∧ rL (rlN B T v (tryP B T v (lsN B T v i) i (fsN B T i (B 0)) 99) i (fsN B T i (B 0)) k) (ζ.1 143)) ?_ ?_ 0 μ4 (Nat.zero_le _) ⟨hA2.tr (a4.mono (by decide)), rSay_fr hS2 (a4 141 (by decide)), fun w hw => by rw [a4 144 (by decide)]; exact hF2 w hw, d4⟩
        · intro k ζ hk ⟨hA3, hS3, hF3, hL3⟩ K3
          have hB3 : rowB B (ζ.1 131) := by rw [hA3 131 (by decide)]; exact hB
          have hT3 := hT.fr (hA3 133 (by decide))
          have h4 := hT3.pos hk
          have hca := ca_lt hW (show k < 16 by omega)
          have hf := hT3.f h4
          have g2 : ¬ T 0 ≤ k := by omega
          have e2 : rlN B T v (tryP B T v (lsN B T v i) i (fsN B T i (B 0)) 99) i (fsN B T i (B 0)) (k + 1) = if isR T k = true then tryP B T v (rlN B T v (tryP B T v (lsN B T v i) i (fsN B T i (B 0)) 99) i (fsN B T i (B 0)) k) i (fsN B T i (B 0) + fl T k 3) k else rlN B T v (tryP B T v (lsN B T v i) i (fsN B T i (B 0)) 99) i (fsN B T i (B 0)) k := rfl
          refine tX12_findLeast_84 (r_clauses hB3 hW hT3 ?_)
          simp (disch := omega) only [lit, Nat.add_sub_cancel, Nat.not_lt_zero, ↓m1_mI, nI_add, pk_mul, nx_and, nx_or, and31, sh_r, sh_1, nx_nand, Nat.and_one_is_mod, nI_clamp, nI_leI, nI_ltI, nI_eq, tb_1, vp_t, up2_a, up2_b, up2_c, br_1, br_0, true_and, and_true, mI_ne, mI_ne', mI_lt, mI_le, mI_nle, mI_nlt, pk_sub, mI_sub, eq_false g2]
          refine vi_b (fun Ψ => r_isRule hB3 hW hT3 wT hk) (fun q => ?_) (fun q => K3 ζ ⟨hA3, hS3, hF3, by rw [e2, if_neg (fun z => q (isR_iff.mp z))]; exact hL3⟩)
          have hbd := (wT.2.1 k hk q).2.2.2.1
          refine r_clauseAt hB3 hW h4 ?_
          simp (disch := omega) only [lit, Nat.add_sub_cancel, Nat.not_lt_zero, ↓m1_mI, nI_add, pk_mul, nx_and, nx_or, and31, sh_r, sh_1, nx_nand, Nat.and_one_is_mod, nI_clamp, nI_leI, nI_ltI, nI_eq, tb_1, vp_t, up2_a, up2_b, up2_c, br_1, br_0, true_and, and_true, mI_ne, mI_ne', mI_lt, mI_le, mI_nle, mI_nlt, pk_sub, mI_sub, hf]
          have hbI : nI k = bI k := by unfold bI; rw [if_neg (by omega)]
          rw [hbI]
          refine r_tryBent (b := k) (L := rlN B T v (tryP B T v (lsN B T v i) i (fsN B T i (B 0)) 99) i (fsN B T i (B 0)) k) hB3 hW hT3 wT (Or.inl (by omega)) hi hv hS3 hL3 (rlN_ok wT hokt hfs (by omega) k (by omega)) (by omega) (fun μ5 a5 d5 => ?_)
          refine K3 μ5 ⟨hA3.tr (a5.mono (by decide)), rSay_fr hS3 (a5 141 (by decide)), fun w hw => by rw [a5 144 (by decide)]; exact hF3 w hw, ?_⟩
          rw [e2, if_pos (isR_iff.mpr q)]
          exact d5
        · intro ζ ⟨hA3, hS3, hF3, hL3⟩
          have hB3 : rowB B (ζ.1 131) := by rw [hA3 131 (by decide)]; exact hB
          refine tX12_findLeast_84 (r_clauses hB3 hW (hT.fr (hA3 133 (by decide))) ?_)
          simp (disch := omega) only [lit, Nat.add_sub_cancel, Nat.not_lt_zero, ↓m1_mI, nI_add, pk_mul, nx_and, nx_or, and31, sh_r, sh_1, nx_nand, Nat.and_one_is_mod, nI_clamp, nI_leI, nI_ltI, nI_eq, tb_1, vp_t, up2_a, up2_b, up2_c, br_1, br_0, true_and, and_true, mI_ne, mI_ne', mI_lt, mI_le, mI_nle, mI_nlt, pk_sub, mI_sub, Nat.le_refl]
          refine K2 ζ ⟨hA3, hS3, hF3, ?_⟩
          rw [e1, if_pos hu]
          exact hL3
      · refine ⟨fun q => absurd q (by decide), fun _ => K2 ξ ⟨hA2, hS2, hF2, ?_⟩⟩
        rw [e1, if_neg hu]
        exact hL2
    · intro ξ ⟨hA2, _, _, hL2⟩
      have rB : ∀ k, k ≠ 4 → ξ.1 131 k = nI (B k) := by rw [hA2 131 (by decide)]; exact hB.1
      refine tX12_findLeast_48 ?_
      simp (disch := omega) only [lit, Nat.add_sub_cancel, Nat.not_lt_zero, ↓m1_mI, nI_add, pk_mul, nx_and, nx_or, and31, sh_r, sh_1, nx_nand, Nat.and_one_is_mod, nI_clamp, nI_leI, nI_ltI, nI_eq, tb_1, vp_t, up2_a, up2_b, up2_c, br_1, br_0, true_and, and_true, mI_ne, mI_ne', mI_lt, mI_le, mI_nle, mI_nlt, pk_sub, mI_sub, rB, Nat.le_refl]
      exact K ξ hA2 hL2
def scL : List Nat := [82, 50, 96, 107, 118, 129, 83, 84, 2, 69, 85]
theorem k_least {x1 x2 : Int32} {Φ : Int32 → Int32 → Me → Prop} (h : IV μ.1) (K : ∀ v (μ' : Me), IV μ'.1 → μ'.1 0 = μ.1 0 → Φ v v μ') : VI N 6 mX11_least [.ref 2, .int x1, .int x2] μ (fun v μ1 => μ1.1 0 = μ.1 0 ∧ VI N 8 mX12_least [.ref 130, .int x1, .int x2] μ1 (fun v' μ2 => Φ v v' μ2)) := by
  have h' := h
  obtain ⟨B, B', R, tp, tn, ft, fp, hw, hc, hr⟩ := h
  have hn := hw.1.n
  have h5 := lwB_5 hw.1
  have hL := hc.ruL hw
  have hT := hr.ruT
  have wT := hw.ruT
  refine tX11_least_0 (vi_b (fun Ψ => c_isV hc.1 hw.1) (fun g1 => ?_) (fun g => ⟨_, rfl, rfl, tX12_least_0 (vi_b (fun Ψ => r_isV hr.1 hw.1) (fun g' => absurd g' g) (fun _ => ⟨_, rfl, K _ _ h' rfl⟩))⟩))
  have K0 : ¬ rgI 0 2 x2 → μ.1 0 = μ.1 0 ∧ VI N 8 mX12_least [.ref 130, .int x1, .int x2] μ (fun v' μ2 => Φ (-1) v' μ2) := fun q => ⟨rfl, tX12_least_0 (vi_b (fun Ψ => r_isV hr.1 hw.1) (fun _ => vi_b (fun Ψ => r_in 0 2 (by decide) (by decide)) (fun z => absurd z q) (fun _ => ⟨_, rfl, K _ _ h' rfl⟩)) (fun z => absurd g1 z))⟩
  refine ⟨fun q => ⟨_, rfl, K0 (rg_lt (lo := 0) (hi := 2) (by decide) (by decide) q)⟩, fun q1 => ⟨fun q2 => ?_, fun q2 => ⟨_, rfl, K0 (rg_gt (lo := 0) (hi := 2) (by decide) (by decide) (i_nle.mp q2))⟩⟩⟩
  obtain ⟨v, hv, rfl⟩ := g1
  obtain ⟨j, hj, rfl⟩ := rng (b := 2) (by decide) q1 q2
  refine c_findSayings hc.1 hw.1 hL wT (fun μ1 a1 d1 => ?_)
  have hC1 : CB B 3 μ1.1 := hc.1.fr (fun a k1 k2 => a1 a (by simp [scS]; omega))
  have hL1 : LW (txB B R) (lwB B) μ1.1 := hL.fr (fun a k1 k2 => a1 a (by unfold isL5 at h5; simp [scS]; omega))
  refine c_findFees hC1 hw.1 hL1 wT (fun μ2 a2 d2 => ?_)
  have hC2 : CB B 3 μ2.1 := hC1.fr (fun a k1 k2 => a2 a (by simp [scF]; omega))
  have hL2 : LW (txB B R) (lwB B) μ2.1 := hL1.fr (fun a k1 k2 => a2 a (by unfold isL5 at h5; simp [scF]; omega))
  refine c_findLeast hC2 hw.1 hL2 wT hv (fun w hwl => by rw [a2 83 (by decide)]; exact d1 w hwl) d2 (fun μ3 a3 d3 => ?_)
  have b3 : Ag scL μ.1 μ3.1 := (a1.mono (by decide)).tr ((a2.mono (by decide)).tr (a3.mono (by decide)))
  have hB3 : rowB B (μ3.1 131) := by rw [b3 131 (by decide)]; exact hr.1
  have hp : 2 ^ B 0 ≤ 2 ^ 10 := Nat.pow_le_pow_right (by decide) (by omega)
  have hok := lsN_ok (v := v) (B := B) hw.1 wT (2 ^ B 0) (by omega)
  have hj3 : j = 0 ∨ j = 1 ∨ j = 2 := by omega
  have fin : ∀ x : Int32, (lsN B (txB B R) v (2 ^ B 0) = none → x = mI) → (∀ y, lsN B (txB B R) v (2 ^ B 0) = some y → (j = 0 → x = nI y.1) ∧ (j = 1 → x = nI y.2.1) ∧ (j = 2 → x = bI y.2.2)) → μ3.1 0 = μ.1 0 ∧ VI N 8 mX12_least [.ref 130, .int (nI v), .int (nI j)] μ3 (fun v' μ2 => Φ x v' μ2) := by
    intro x hx0 hx1
    try refine And.intro (by first | rfl | exact hA 0 (by decide) | exact b3 0 (by decide) | exact b2 0 (by decide) | exact a1 0 (by decide) | exact a1 0 (by omega) | exact a3 0 (by decide) (by decide) | simp (disch := omega) only [up2_ne]) ?_
    refine tX12_least_0 (vi_b (fun Ψ => r_isV hB3 hw.1) (fun _ => vi_b (fun Ψ => r_in 0 2 (by decide) (by decide)) (fun _ => ?_) (fun z => absurd ⟨j, by omega, hj, rfl⟩ z)) (fun z => absurd ⟨v, hv, rfl⟩ z))
    refine r_findLeast hB3 hw.1 (hT.fr (b3 133 (by decide))) wT hv (fun ν2 c2 s2 => ?_)
    have iv : IV ν2.1 := IV.same hw hc hr (b3.mono (by decide)) (c2.mono (by decide))
    have i0 : ν2.1 0 = μ.1 0 := by rw [c2 0 (by decide), b3 0 (by decide)]
    cases hl : lsN B (txB B R) v (2 ^ B 0) with
    | none =>
      rw [hl] at s2
      have s0 : ν2.1 143 0 = mI := s2
      rw [s0]
      refine ⟨fun q => absurd q (by decide), fun _ => ⟨_, rfl, ?_⟩⟩
      rw [hx0 hl]; exact K _ _ iv i0
    | some y =>
      rw [hl] at s2 hok
      have s0 : ν2.1 143 0 = nI y.1 := s2.1
      have s1 : ν2.1 143 1 = nI y.2.1 := s2.2.1
      have s3 : ν2.1 143 2 = bI y.2.2 := s2.2.2
      have hok1 := hok.1
      have hx := hx1 y hl
      simp (disch := omega) only [lit, Nat.add_sub_cancel, Nat.not_lt_zero, ↓m1_mI, nI_add, pk_mul, nx_and, nx_or, and31, sh_r, sh_1, nx_nand, Nat.and_one_is_mod, nI_clamp, nI_leI, nI_ltI, nI_eq, tb_1, vp_t, up2_a, up2_b, up2_c, br_1, br_0, true_and, and_true, mI_ne, mI_ne', mI_lt, mI_le, mI_nle, mI_nlt, pk_sub, mI_sub, s0, Nat.zero_le]
      rcases hj3 with rfl | rfl | rfl
      · rw [s0, hx.1 rfl]; exact ⟨_, rfl, K _ _ iv i0⟩
      · rw [s1, hx.2.1 rfl]; exact ⟨_, rfl, K _ _ iv i0⟩
      · rw [s3, hx.2.2 rfl]; exact ⟨_, rfl, K _ _ iv i0⟩
  have d13 : (lsN B (txB B R) v (2 ^ B 0) = none → μ3.1 2 13 = mI ∧ μ3.1 2 14 = mI ∧ μ3.1 2 15 = mI) := fun q => by rw [q] at d3; exact d3
  have d14 : ∀ y, lsN B (txB B R) v (2 ^ B 0) = some y → μ3.1 2 13 = nI y.1 ∧ μ3.1 2 14 = nI y.2.1 ∧ μ3.1 2 15 = bI y.2.2 := fun y q => by rw [q] at d3; exact d3
  rcases hj3 with rfl | rfl | rfl
  · exact ⟨fun _ => ⟨_, rfl, fin _ (fun q => (d13 q).1) (fun y q => ⟨fun _ => (d14 y q).1, fun z => absurd z (by decide), fun z => absurd z (by decide)⟩)⟩, fun q => absurd rfl q⟩
  · exact ⟨fun q => absurd q (by decide), fun _ => ⟨fun _ => ⟨_, rfl, fin _ (fun q => (d13 q).2.1) (fun y q => ⟨fun z => absurd z (by decide), fun _ => (d14 y q).2.1, fun z => absurd z (by decide)⟩)⟩, fun q => absurd rfl q⟩⟩
  · exact ⟨fun q => absurd q (by decide), fun _ => ⟨fun q => absurd q (by decide), fun _ => ⟨_, rfl, fin _ (fun q => (d13 q).2.2) (fun y q => ⟨fun z => absurd z (by decide), fun z => absurd z (by decide), fun _ => (d14 y q).2.2⟩)⟩⟩⟩
end LR_
