/-! names, sorts of clauses and comparisons -/
section RM
variable {N : Nat} {bt : Nat → Nat} {tn s : Nat} {μ : Me} {Ψ : Int32 → Me → Prop}
theorem w14s : wL 14 = 8 ∧ wN (wO 14) = 115 ∧ wN (wO 14 + 1) = 116 ∧ wN (wO 14 + 2) = 114 ∧ wN (wO 14 + 3) = 101 ∧ wN (wO 14 + 4) = 110 ∧ wN (wO 14 + 5) = 103 ∧ wN (wO 14 + 6) = 116 ∧ wN (wO 14 + 7) = 104 := by decide
theorem r_isStr (hp : rTp bt tn μ.1) (h : RT bt tn s μ) (h2 : rTok bt tn s = 2) (h1 : tT bt tn s = 14 → Ψ 1 μ) (h0 : ¬ tT bt tn s = 14 → Ψ 0 μ) : VI N 2 mX12_isStrength [.ref 130] μ Ψ := by
  have hb := hp.2.2.2
  have ht := hp.2.2.1
  obtain ⟨hs, hl, e⟩ := tok_2 hb h2
  have ⟨t1, t2⟩ := tE_le (bt := bt) hs
  have e2 : tSo bt tn s = wordW bt s (tE bt tn s) := by unfold tSo; rw [if_pos hl]
  rw [e, e2, wordW_iff (by decide) (by decide)] at h1 h0
  obtain ⟨w0, wa, wb, wc, wd, we, wf, wg, wh⟩ := w14s
  have h8 := h.1
  have h7 := h.2.1
  rw [if_pos hs] at h7
  refine tX12_isStrength_0 ?_
  rw [h7, h8, sub_nI (by omega)]
  by_cases g : tE bt tn s - s = 8
  · simp (disch := omega) only [lit, Nat.add_sub_cancel, Nat.not_lt_zero, ↓m1_mI, nI_add, pk_mul, nx_and, nx_or, and31, sh_r, sh_1, nx_nand, Nat.and_one_is_mod, nI_clamp, nI_leI, nI_ltI, nI_eq, tb_1, vp_t, up2_a, up2_b, up2_c, br_1, br_0, true_and, and_true, mI_ne, mI_ne', mI_lt, mI_le, mI_nle, mI_nlt, pk_sub, mI_sub, eq_true g]
    have no : ∀ i, i < 8 → ¬ bt (s + i) = wN (wO 14 + i) → Ψ 0 μ := fun i hi q => h0 (fun k => q (k.1 i (by omega)).2)
    refine r_byte hp (by omega) (fun _ => ?_) (fun q => absurd (show s < tn by omega) q)
    have v0 := hb s (by omega)
    simp (disch := omega) only [lit, Nat.add_sub_cancel, Nat.not_lt_zero, ↓m1_mI, nI_add, pk_mul, nx_and, nx_or, and31, sh_r, sh_1, nx_nand, Nat.and_one_is_mod, nI_clamp, nI_leI, nI_ltI, nI_eq, tb_1, vp_t, up2_a, up2_b, up2_c, br_1, br_0, true_and, and_true, mI_ne, mI_ne', mI_lt, mI_le, mI_nle, mI_nlt, pk_sub, mI_sub, h8]
    refine ⟨fun g0 => ?_, fun g0 => ⟨_, rfl, no 0 (by decide) (by rw [show wO 14 + 0 = wO 14 from rfl, wa]; exact g0)⟩⟩
    refine r_byte hp (by omega) (fun _ => ?_) (fun q => absurd (show s + 1 < tn by omega) q)
    have v0 := hb (s + 1) (by omega)
    simp (disch := omega) only [lit, Nat.add_sub_cancel, Nat.not_lt_zero, ↓m1_mI, nI_add, pk_mul, nx_and, nx_or, and31, sh_r, sh_1, nx_nand, Nat.and_one_is_mod, nI_clamp, nI_leI, nI_ltI, nI_eq, tb_1, vp_t, up2_a, up2_b, up2_c, br_1, br_0, true_and, and_true, mI_ne, mI_ne', mI_lt, mI_le, mI_nle, mI_nlt, pk_sub, mI_sub, h8]
    refine ⟨fun g1 => ?_, fun g0 => ⟨_, rfl, no 1 (by decide) (by rw [wb]; exact g0)⟩⟩
    refine r_byte hp (by omega) (fun _ => ?_) (fun q => absurd (show s + 2 < tn by omega) q)
    have v0 := hb (s + 2) (by omega)
    simp (disch := omega) only [lit, Nat.add_sub_cancel, Nat.not_lt_zero, ↓m1_mI, nI_add, pk_mul, nx_and, nx_or, and31, sh_r, sh_1, nx_nand, Nat.and_one_is_mod, nI_clamp, nI_leI, nI_ltI, nI_eq, tb_1, vp_t, up2_a, up2_b, up2_c, br_1, br_0, true_and, and_true, mI_ne, mI_ne', mI_lt, mI_le, mI_nle, mI_nlt, pk_sub, mI_sub, h8]
    refine ⟨fun g2 => ?_, fun g0 => ⟨_, rfl, no 2 (by decide) (by rw [wc]; exact g0)⟩⟩
    refine r_byte hp (by omega) (fun _ => ?_) (fun q => absurd (show s + 3 < tn by omega) q)
    have v0 := hb (s + 3) (by omega)
    simp (disch := omega) only [lit, Nat.add_sub_cancel, Nat.not_lt_zero, ↓m1_mI, nI_add, pk_mul, nx_and, nx_or, and31, sh_r, sh_1, nx_nand, Nat.and_one_is_mod, nI_clamp, nI_leI, nI_ltI, nI_eq, tb_1, vp_t, up2_a, up2_b, up2_c, br_1, br_0, true_and, and_true, mI_ne, mI_ne', mI_lt, mI_le, mI_nle, mI_nlt, pk_sub, mI_sub, h8]
    refine ⟨fun g3 => ?_, fun g0 => ⟨_, rfl, no 3 (by decide) (by rw [wd]; exact g0)⟩⟩
    refine r_byte hp (by omega) (fun _ => ?_) (fun q => absurd (show s + 4 < tn by omega) q)
    have v0 := hb (s + 4) (by omega)
    simp (disch := omega) only [lit, Nat.add_sub_cancel, Nat.not_lt_zero, ↓m1_mI, nI_add, pk_mul, nx_and, nx_or, and31, sh_r, sh_1, nx_nand, Nat.and_one_is_mod, nI_clamp, nI_leI, nI_ltI, nI_eq, tb_1, vp_t, up2_a, up2_b, up2_c, br_1, br_0, true_and, and_true, mI_ne, mI_ne', mI_lt, mI_le, mI_nle, mI_nlt, pk_sub, mI_sub, h8]
    refine ⟨fun g4 => ?_, fun g0 => ⟨_, rfl, no 4 (by decide) (by rw [we]; exact g0)⟩⟩
    refine r_byte hp (by omega) (fun _ => ?_) (fun q => absurd (show s + 5 < tn by omega) q)
    have v0 := hb (s + 5) (by omega)
    simp (disch := omega) only [lit, Nat.add_sub_cancel, Nat.not_lt_zero, ↓m1_mI, nI_add, pk_mul, nx_and, nx_or, and31, sh_r, sh_1, nx_nand, Nat.and_one_is_mod, nI_clamp, nI_leI, nI_ltI, nI_eq, tb_1, vp_t, up2_a, up2_b, up2_c, br_1, br_0, true_and, and_true, mI_ne, mI_ne', mI_lt, mI_le, mI_nle, mI_nlt, pk_sub, mI_sub, h8]
    refine ⟨fun g5 => ?_, fun g0 => ⟨_, rfl, no 5 (by decide) (by rw [wf]; exact g0)⟩⟩
    refine r_byte hp (by omega) (fun _ => ?_) (fun q => absurd (show s + 6 < tn by omega) q)
    have v0 := hb (s + 6) (by omega)
    simp (disch := omega) only [lit, Nat.add_sub_cancel, Nat.not_lt_zero, ↓m1_mI, nI_add, pk_mul, nx_and, nx_or, and31, sh_r, sh_1, nx_nand, Nat.and_one_is_mod, nI_clamp, nI_leI, nI_ltI, nI_eq, tb_1, vp_t, up2_a, up2_b, up2_c, br_1, br_0, true_and, and_true, mI_ne, mI_ne', mI_lt, mI_le, mI_nle, mI_nlt, pk_sub, mI_sub, h8]
    refine ⟨fun g6 => ?_, fun g0 => ⟨_, rfl, no 6 (by decide) (by rw [wg]; exact g0)⟩⟩
    refine r_byte hp (by omega) (fun _ => ?_) (fun q => absurd (show s + 7 < tn by omega) q)
    have v0 := hb (s + 7) (by omega)
    simp (disch := omega) only [lit, Nat.add_sub_cancel, Nat.not_lt_zero, ↓m1_mI, nI_add, pk_mul, nx_and, nx_or, and31, sh_r, sh_1, nx_nand, Nat.and_one_is_mod, nI_clamp, nI_leI, nI_ltI, nI_eq, tb_1, vp_t, up2_a, up2_b, up2_c, br_1, br_0, true_and, and_true, mI_ne, mI_ne', mI_lt, mI_le, mI_nle, mI_nlt, pk_sub, mI_sub, h8]
    refine ⟨fun g7 => ⟨_, rfl, h1 ⟨fun i hi => ⟨by omega, ?_⟩, by omega⟩⟩, fun g0 => ⟨_, rfl, no 7 (by decide) (by rw [wh]; exact g0)⟩⟩
    rw [w0] at hi
    match i, hi with
    | 0, _ => exact g0.trans wa.symm
    | 1, _ => exact g1.trans wb.symm
    | 2, _ => exact g2.trans wc.symm
    | 3, _ => exact g3.trans wd.symm
    | 4, _ => exact g4.trans we.symm
    | 5, _ => exact g5.trans wf.symm
    | 6, _ => exact g6.trans wg.symm
    | 7, _ => exact g7.trans wh.symm
    | i + 8, hi => exact absurd hi (by omega)
  · simp (disch := omega) only [lit, Nat.add_sub_cancel, Nat.not_lt_zero, ↓m1_mI, nI_add, pk_mul, nx_and, nx_or, and31, sh_r, sh_1, nx_nand, Nat.and_one_is_mod, nI_clamp, nI_leI, nI_ltI, nI_eq, tb_1, vp_t, up2_a, up2_b, up2_c, br_1, br_0, true_and, and_true, mI_ne, mI_ne', mI_lt, mI_le, mI_nle, mI_nlt, pk_sub, mI_sub, eq_false g]
    exact ⟨_, rfl, h0 (fun k => g (by have := k.2; omega))⟩
theorem wc_e : wcode 1 = (102 * 256 + 101) * 256 + 101 ∧ wcode 12 = (119 * 256 + 104) * 256 + 111 := by decide
theorem r_nameOf (hp : rTp bt tn μ.1) (h : RT bt tn s μ) (h1 : 12 ≤ tT bt tn s → tT bt tn s ≤ 18 → Ψ (nI (tT bt tn s - 12)) μ) (h0 : ¬ (12 ≤ tT bt tn s ∧ tT bt tn s ≤ 18) → Ψ mI μ) : VI N 3 mX12_nameOf [.ref 130] μ Ψ := by
  have hb := hp.2.2.2
  have hlt := (tT_lt (s := s) hb).2
  refine tX12_nameOf_0 ?_
  rw [h.2.2.1]
  by_cases g : rTok bt tn s = 2
  · simp (disch := omega) only [lit, Nat.add_sub_cancel, Nat.not_lt_zero, ↓m1_mI, nI_add, pk_mul, nx_and, nx_or, and31, sh_r, sh_1, nx_nand, Nat.and_one_is_mod, nI_clamp, nI_leI, nI_ltI, nI_eq, tb_1, vp_t, up2_a, up2_b, up2_c, br_1, br_0, true_and, and_true, mI_ne, mI_ne', mI_lt, mI_le, mI_nle, mI_nlt, pk_sub, mI_sub, eq_true g]
    have q : ∀ X, 1 ≤ X → X ≤ 18 → X ≠ 14 → ∀ c, wcode X = c → (lg_cmp (μ.2 130 11) (lI c) = 0 ↔ tT bt tn s = X) := by
      intro X a1 a2 a3 c hc
      rw [lg_cmp_eq, ← hc, ← tok_w hb a1 a2 a3 h]
      exact ⟨fun q => ⟨g, q⟩, fun q => q.2⟩
    have yes : ∀ X, 12 ≤ X → X ≤ 18 → tT bt tn s = X → Ψ (nI (X - 12)) μ := by
      intro X a1 a2 a3
      have := h1 (by omega) (by omega)
      rwa [a3] at this
    refine j_w3 (by decide) (by decide) (by decide) ⟨fun k => ⟨_, rfl, yes 12 (by decide) (by decide) ((q 12 (by decide) (by decide) (by decide) _ (by decide)).mp k)⟩, fun k12 => ?_⟩
    refine j_w4 (by decide) (by decide) (by decide) (by decide) ⟨fun k => ⟨_, rfl, yes 13 (by decide) (by decide) ((q 13 (by decide) (by decide) (by decide) _ (by decide)).mp k)⟩, fun k13 => ?_⟩
    refine vi_b (fun Ψ => r_isStr hp h g) (fun k => ⟨_, rfl, yes 14 (by decide) (by decide) k⟩) (fun k14 => ?_)
    refine j_w4 (by decide) (by decide) (by decide) (by decide) ⟨fun k => ⟨_, rfl, yes 15 (by decide) (by decide) ((q 15 (by decide) (by decide) (by decide) _ (by decide)).mp k)⟩, fun k15 => ?_⟩
    refine j_w5 (by decide) (by decide) (by decide) (by decide) (by decide) ⟨fun k => ⟨_, rfl, yes 16 (by decide) (by decide) ((q 16 (by decide) (by decide) (by decide) _ (by decide)).mp k)⟩, fun k16 => ?_⟩
    refine j_w4 (by decide) (by decide) (by decide) (by decide) ⟨fun k => ⟨_, rfl, yes 17 (by decide) (by decide) ((q 17 (by decide) (by decide) (by decide) _ (by decide)).mp k)⟩, fun k17 => ?_⟩
    refine j_w4 (by decide) (by decide) (by decide) (by decide) ⟨fun k => ⟨_, rfl, yes 18 (by decide) (by decide) ((q 18 (by decide) (by decide) (by decide) _ (by decide)).mp k)⟩, fun k18 => ⟨_, rfl, h0 (fun w => ?_)⟩⟩
    have e12 : ¬ tT bt tn s = 12 := fun z => k12 ((q 12 (by decide) (by decide) (by decide) _ (by decide)).mpr z)
    have e13 : ¬ tT bt tn s = 13 := fun z => k13 ((q 13 (by decide) (by decide) (by decide) _ (by decide)).mpr z)
    have e15 : ¬ tT bt tn s = 15 := fun z => k15 ((q 15 (by decide) (by decide) (by decide) _ (by decide)).mpr z)
    have e16 : ¬ tT bt tn s = 16 := fun z => k16 ((q 16 (by decide) (by decide) (by decide) _ (by decide)).mpr z)
    have e17 : ¬ tT bt tn s = 17 := fun z => k17 ((q 17 (by decide) (by decide) (by decide) _ (by decide)).mpr z)
    have e18 : ¬ tT bt tn s = 18 := fun z => k18 ((q 18 (by decide) (by decide) (by decide) _ (by decide)).mpr z)
    omega
  · simp (disch := omega) only [lit, Nat.add_sub_cancel, Nat.not_lt_zero, ↓m1_mI, nI_add, pk_mul, nx_and, nx_or, and31, sh_r, sh_1, nx_nand, Nat.and_one_is_mod, nI_clamp, nI_leI, nI_ltI, nI_eq, tb_1, vp_t, up2_a, up2_b, up2_c, br_1, br_0, true_and, and_true, mI_ne, mI_ne', mI_lt, mI_le, mI_nle, mI_nlt, pk_sub, mI_sub, eq_false g]
    exact ⟨_, rfl, h0 (fun q => by rcases tok_cases (s := s) hb with k | k | k | k | k | k | k <;> omega)⟩
end RM
