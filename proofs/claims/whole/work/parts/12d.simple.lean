/-! tell, rise -/
section SF
variable {N : Nat} {μ : Me} {B B' R T tp : Nat → Nat} {tn : Nat} {ft fp : Int32} {I : Nat → Nat → Int32} {Ψ : Int32 → Me → Prop}
theorem CB_tell {a b c : Nat} (hC : CB B 3 I) (hW : WB B) (hl : B 6 < 20) : CB (ntB B a b c) 3 (up2 (up2 (up2 (up2 I 18 (B 6) (nI a)) 19 (B 6) (nI b)) 20 (B 6) (nI c)) 17 0 (nI (B 6 + 1))) := by
  have hn := hW.n
  obtain ⟨c1, c2, c3, c4, c5⟩ := hC
  unfold CB ntB
  simp (disch := omega) only [up2_ne]
  refine ⟨cHd_ub (cHd_ub (cHd_ub (cHd_ub c1 ?_) ?_) ?_) ?_, ?_, ?_, ?_, ?_⟩
  iterate 4 omega
  · refine cRoll_ub (cRoll_ub (cRoll_ub (cRoll_ub c2 ?_ ?_) ?_ ?_) ?_ ?_) ?_ ?_
    all_goals first | omega | (intro i hi; simp (disch := omega) only [ub_n] at hi; omega)
  · refine cRow_ub (cRow_ub (cRow_ub (cRow_ub c3 ?_ ?_) ?_ ?_) ?_ ?_) ?_ ?_
    all_goals first | omega | (intro i hi; simp (disch := omega) only [ub_n] at hi; omega)
  · refine cRow_ub (cRow_ub (cRow_ub (cRow_ub c4 ?_ ?_) ?_ ?_) ?_ ?_) ?_ ?_
    all_goals first | omega | (intro i hi; simp (disch := omega) only [ub_n] at hi; omega)
  · refine cRow_add c5 (by omega) up2_c (fun i => ?_) (fun i => ?_) (fun i => ?_) <;> (rw [up2_eq] <;> try simp (disch := omega) only [up2_a])
theorem WB_tell {a b c : Nat} (hW : WB B) (hl : B 6 < 20) (ha : a < B 0) (hb : b < 16) (hc : c ≤ 1) : WB (ntB B a b c) := by
  have hn := hW.n
  obtain ⟨⟨w0, _⟩, w1, w2, w3, w4, w5⟩ := hW
  unfold WB ntB
  rw [ub_e]
  (try simp (disch := omega) only [ub_n])
  refine ⟨⟨fun k => ?_, by omega⟩, fun i hi => ?_, fun i hi => ?_, fun i hi => ?_, fun i j hi hj => ?_, fun i hi => ?_⟩
  · have := w0 k
    unfold ub
    repeat' split
    all_goals omega
  · have := w1 i hi
    (try simp (disch := omega) only [ub_n])
    exact this
  · have := w2 i hi
    (try simp (disch := omega) only [ub_n])
    exact this
  · have := w3 i hi
    (try simp (disch := omega) only [ub_n])
    exact this
  · have := w4 i j hi hj
    (try simp (disch := omega) only [ub_n])
    exact this
  · by_cases e : i = B 6
    · subst e
      simp (disch := omega) only [ub_n, ub_e]
      omega
    · have := w5 i (by omega)
      (try simp (disch := omega) only [ub_n])
      exact this
theorem k_tell {x1 x2 x3 : Int32} {Φ : Int32 → Int32 → Me → Prop} (h : IV μ.1) (K : ∀ v (μ' : Me), IV μ'.1 → μ'.1 0 = μ.1 0 → Φ v v μ') : VI N 2 mX11_tell [.ref 2, .int x1, .int x2, .int x3] μ (fun v μ1 => μ1.1 0 = μ.1 0 ∧ VI N 3 mX12_tell [.ref 130, .int x1, .int x2, .int x3] μ1 (fun v' μ2 => Φ v v' μ2)) := by
  have h' := h
  obtain ⟨B, B', R, tp, tn, ft, fp, hw, hc, hr⟩ := h
  have hn := hw.1.n
  refine tX11_tell_0 (vi_b (fun Ψ => c_isW hc.1 hw.1) (fun g1 => ?_) (fun g => ⟨_, rfl, rfl, tX12_tell_0 (vi_b (fun Ψ => r_isW hr.1 hw.1) (fun g' => absurd g' g) (fun _ => ⟨_, rfl, K _ _ h' rfl⟩))⟩))
  refine vi_b (fun Ψ => c_isF) (fun g2 => ?_) (fun g => ⟨_, rfl, rfl, tX12_tell_0 (vi_b (fun Ψ => r_isW hr.1 hw.1) (fun _ => vi_b (fun Ψ => r_isF) (fun g' => absurd g' g) (fun _ => ⟨_, rfl, K _ _ h' rfl⟩)) (fun g' => absurd g1 g'))⟩)
  obtain ⟨w, hwl, rfl⟩ := g1
  obtain ⟨f, hf, rfl⟩ := g2
  refine tX9_add_0 ?_
  have rB := hr.1.1
  by_cases e : B 6 < 20
  · have ex : ∃ v : Nat, v ≤ 1 ∧ (x3 = 0 → v = 0) ∧ (¬ x3 = 0 → v = 1) := by
      by_cases e3 : x3 = 0
      · exact ⟨0, by omega, fun _ => rfl, fun h => absurd e3 h⟩
      · exact ⟨1, by omega, fun h => absurd h e3, fun _ => rfl⟩
    obtain ⟨v, hv, hv0, hv1⟩ := ex
    have fin : ∀ y : Int32, y = nI v → ((up2 (up2 (up2 (up2 μ.1 18 (B 6) (nI w)) 19 (B 6) (nI f)) 20 (B 6) y) 17 0 (nI (B 6 + 1)), μ.2) : Me).1 0 = μ.1 0 ∧ VI N 3 mX12_tell [.ref 130, .int (nI w), .int (nI f), .int x3] (up2 (up2 (up2 (up2 μ.1 18 (B 6) (nI w)) 19 (B 6) (nI f)) 20 (B 6) y) 17 0 (nI (B 6 + 1)), μ.2) (fun v' μ2 => Φ (nI (B 6 + 1)) v' μ2) := by
      intro y hy
      subst hy
      have hr1 : rowB B (((up2 (up2 (up2 (up2 μ.1 18 (B 6) (nI w)) 19 (B 6) (nI f)) 20 (B 6) (nI v)) 17 0 (nI (B 6 + 1)), μ.2) : Me).1 131) := by
        simp (disch := omega) only [up2_ne]
        exact hr.1
      have fin2 : ∀ z : Int32, z = nI v → Φ (nI (B 6 + 1)) (nI (B 6 + 1)) (up2 (up2 (up2 (up2 (up2 (up2 (up2 (up2 μ.1 18 (B 6) (nI w)) 19 (B 6) (nI f)) 20 (B 6) (nI v)) 17 0 (nI (B 6 + 1))) 131 (110 + 3 * B 6) (nI w)) 131 (110 + 3 * B 6 + 1) (nI f)) 131 (110 + 3 * B 6 + 2) z) 131 6 (nI (B 6 + 1)), μ.2) := by
        intro z hz
        subst hz
        refine K _ _ (IV.court (B2 := ntB B w f v) hw hc hr (WB_tell hw.1 e hwl hf hv) ?_ ?_ (CB_tell (a := w) (b := f) (c := v) hc.1 hw.1 e) ?_ (rowB_up (rowB_up (rowB_up (rowB_up hr1 (by omega)) (by omega)) (by omega)) (by omega))) ?_
        · unfold ntB
          (try simp (disch := omega) only [ub_n])
        · exact fun a _ ha => (by repeat (first | refine Ag.up ?_ (by decide) | exact Ag.rf) : Ag ktR μ.1 _) a ha
        · intro a _ ha
          simp only [up2_ne ha]
        · simp (disch := omega) only [up2_ne]
      try refine And.intro (by first | rfl | exact hA 0 (by decide) | exact b3 0 (by decide) | exact b2 0 (by decide) | exact a1 0 (by decide) | exact a1 0 (by omega) | exact a3 0 (by decide) (by decide) | simp (disch := omega) only [up2_ne]) ?_
      refine tX12_tell_0 (vi_b (fun Ψ => r_isW hr1 hw.1) (fun _ => vi_b (fun Ψ => r_isF) (fun _ => ?_) (fun g => absurd ⟨f, hf, rfl⟩ g)) (fun g => absurd ⟨w, hwl, rfl⟩ g))
      have e6 : ¬ B 6 = 20 := by omega
      simp (disch := omega) only [lit, Nat.add_sub_cancel, Nat.not_lt_zero, ↓m1_mI, nI_add, pk_mul, nx_and, nx_or, and31, sh_r, sh_1, nx_nand, Nat.and_one_is_mod, nI_clamp, nI_leI, nI_ltI, nI_eq, tb_1, vp_t, up2_a, up2_b, up2_c, br_1, br_0, true_and, and_true, mI_ne, mI_ne', mI_lt, mI_le, mI_nle, mI_nlt, pk_sub, mI_sub, rB, eq_false e6]
      refine ⟨fun e3 => ⟨_, rfl, fin2 _ ?_⟩, fun e3 => ⟨_, rfl, fin2 _ ?_⟩⟩
      · rw [hv0 e3]
      · rw [hv1 e3]
    simp (disch := omega) only [lit, Nat.add_sub_cancel, Nat.not_lt_zero, ↓m1_mI, nI_add, pk_mul, nx_and, nx_or, and31, sh_r, sh_1, nx_nand, Nat.and_one_is_mod, nI_clamp, nI_leI, nI_ltI, nI_eq, tb_1, vp_t, up2_a, up2_b, up2_c, br_1, br_0, true_and, and_true, mI_ne, mI_ne', mI_lt, mI_le, mI_nle, mI_nlt, pk_sub, mI_sub, hc.1.k14, eq_true e]
    refine ⟨fun e3 => ⟨_, rfl, _, rfl, fin _ ?_⟩, fun e3 => ⟨_, rfl, _, rfl, fin _ ?_⟩⟩
    · rw [hv0 e3]
    · rw [hv1 e3]
  · simp (disch := omega) only [lit, Nat.add_sub_cancel, Nat.not_lt_zero, ↓m1_mI, nI_add, pk_mul, nx_and, nx_or, and31, sh_r, sh_1, nx_nand, Nat.and_one_is_mod, nI_clamp, nI_leI, nI_ltI, nI_eq, tb_1, vp_t, up2_a, up2_b, up2_c, br_1, br_0, true_and, and_true, mI_ne, mI_ne', mI_lt, mI_le, mI_nle, mI_nlt, pk_sub, mI_sub, hc.1.k14, eq_false e]
    refine ⟨_, rfl, _, rfl, ?_⟩
    try refine And.intro (by first | rfl | exact hA 0 (by decide) | exact b3 0 (by decide) | exact b2 0 (by decide) | exact a1 0 (by decide) | exact a1 0 (by omega) | exact a3 0 (by decide) (by decide) | simp (disch := omega) only [up2_ne]) ?_
    refine tX12_tell_0 (vi_b (fun Ψ => r_isW hr.1 hw.1) (fun _ => vi_b (fun Ψ => r_isF) (fun _ => ?_) (fun g => absurd ⟨f, hf, rfl⟩ g)) (fun g => absurd ⟨w, hwl, rfl⟩ g))
    have e6 : B 6 = 20 := by omega
    simp (disch := omega) only [lit, Nat.add_sub_cancel, Nat.not_lt_zero, ↓m1_mI, nI_add, pk_mul, nx_and, nx_or, and31, sh_r, sh_1, nx_nand, Nat.and_one_is_mod, nI_clamp, nI_leI, nI_ltI, nI_eq, tb_1, vp_t, up2_a, up2_b, up2_c, br_1, br_0, true_and, and_true, mI_ne, mI_ne', mI_lt, mI_le, mI_nle, mI_nlt, pk_sub, mI_sub, rB, eq_true e6, e6]
    exact ⟨_, rfl, K _ _ h' rfl⟩
/-! rise -/
theorem CB_rise (hC : CB B 3 I) (hW : WB B) : CB (ub B 5 0) 3 (up2 I 13 0 (nI 0)) := by
  have hn := hW.n
  obtain ⟨c1, c2, c3, c4, c5⟩ := hC
  unfold CB
  simp (disch := omega) only [up2_ne]
  refine ⟨cHd_ub c1 (by omega), cRoll_ub c2 (by decide) (fun i hi => by omega), cRow_ub c3 (by decide) (fun i hi => by omega), ?_, cRow_ub c5 (by decide) (fun i hi => by omega)⟩
  unfold cRow
  rw [ub_e]
  exact ⟨up2_c, fun i hi => absurd hi (Nat.not_lt_zero _)⟩
theorem WB_rise (hW : WB B) : WB (ub B 5 0) := by
  have hn := hW.n
  obtain ⟨⟨w0, _⟩, w1, w2, w3, w4, w5⟩ := hW
  unfold WB
  rw [ub_e]
  (try simp (disch := omega) only [ub_n])
  refine ⟨⟨fun k => ?_, by omega⟩, fun i hi => ?_, fun i hi => ?_, fun i hi => by omega, fun i j hi hj => by omega, fun i hi => ?_⟩
  · have := w0 k
    unfold ub
    split <;> omega
  · (try simp (disch := omega) only [ub_n]); exact w1 i hi
  · (try simp (disch := omega) only [ub_n]); exact w2 i hi
  · (try simp (disch := omega) only [ub_n]); exact w5 i hi
theorem c_paid (hC : CB B 3 μ.1) (hW : WB B) (h : Ψ (nI (sumf (B 5) (fun i => B (80 + 3 * i + 2)))) μ) : VI N 1 mX7_paid [.ref 13] μ Ψ := by
  have hn := hW.n
  refine tX7_paid_0 ?_
  refine vb_up (fun i => [.ref 13, .int (nI (sumf i (fun i => B (80 + 3 * i + 2)))), .int (nI i)]) (fun _ => μ) (B 5) (fun i hi K => ?_) ?_
  · refine tX7_paid_4 ?_
    have e : ¬ B 5 ≤ i := by omega
    simp (disch := omega) only [lit, Nat.add_sub_cancel, Nat.not_lt_zero, ↓m1_mI, nI_add, pk_mul, nx_and, nx_or, and31, sh_r, sh_1, nx_nand, Nat.and_one_is_mod, nI_clamp, nI_leI, nI_ltI, nI_eq, tb_1, vp_t, up2_a, up2_b, up2_c, br_1, br_0, true_and, and_true, mI_ne, mI_ne', mI_lt, mI_le, mI_nle, mI_nlt, pk_sub, mI_sub, hC.k10, hC.k13, eq_false e]
    exact K
  · refine tX7_paid_4 ?_
    simp (disch := omega) only [lit, Nat.add_sub_cancel, Nat.not_lt_zero, ↓m1_mI, nI_add, pk_mul, nx_and, nx_or, and31, sh_r, sh_1, nx_nand, Nat.and_one_is_mod, nI_clamp, nI_leI, nI_ltI, nI_eq, tb_1, vp_t, up2_a, up2_b, up2_c, br_1, br_0, true_and, and_true, mI_ne, mI_ne', mI_lt, mI_le, mI_nle, mI_nlt, pk_sub, mI_sub, hC.k10, Nat.le_refl]
    exact ⟨_, rfl, h⟩
theorem r_rise (hB : rowB B (μ.1 131)) (hW : WB B) (h : Ψ (nI (sumf (B 5) (fun i => B (80 + 3 * i + 2)))) (up2 μ.1 131 5 (nI 0), μ.2)) : VI N 1 mX12_rise [.ref 130] μ Ψ := by
  have hn := hW.n
  have rB := hB.1
  refine tX12_rise_0 ?_
  refine vb_up (fun i => [.ref 130, .int (nI (sumf i (fun i => B (80 + 3 * i + 2)))), .int (nI i)]) (fun _ => μ) (B 5) (fun i hi K => ?_) ?_
  · refine tX12_rise_4 ?_
    have e : ¬ B 5 ≤ i := by omega
    simp (disch := omega) only [lit, Nat.add_sub_cancel, Nat.not_lt_zero, ↓m1_mI, nI_add, pk_mul, nx_and, nx_or, and31, sh_r, sh_1, nx_nand, Nat.and_one_is_mod, nI_clamp, nI_leI, nI_ltI, nI_eq, tb_1, vp_t, up2_a, up2_b, up2_c, br_1, br_0, true_and, and_true, mI_ne, mI_ne', mI_lt, mI_le, mI_nle, mI_nlt, pk_sub, mI_sub, rB, eq_false e]
    exact K
  · refine tX12_rise_4 ?_
    simp (disch := omega) only [lit, Nat.add_sub_cancel, Nat.not_lt_zero, ↓m1_mI, nI_add, pk_mul, nx_and, nx_or, and31, sh_r, sh_1, nx_nand, Nat.and_one_is_mod, nI_clamp, nI_leI, nI_ltI, nI_eq, tb_1, vp_t, up2_a, up2_b, up2_c, br_1, br_0, true_and, and_true, mI_ne, mI_ne', mI_lt, mI_le, mI_nle, mI_nlt, pk_sub, mI_sub, rB, Nat.le_refl]
    exact ⟨_, rfl, h⟩
theorem k_rise {Φ : Int32 → Int32 → Me → Prop} (h : IV μ.1) (K : ∀ v (μ' : Me), IV μ'.1 → μ'.1 0 = μ.1 0 → Φ v v μ') : VI N 2 mX11_rise [.ref 2] μ (fun v μ1 => μ1.1 0 = μ.1 0 ∧ VI N 1 mX12_rise [.ref 130] μ1 (fun v' μ2 => Φ v v' μ2)) := by
  obtain ⟨B, B', R, tp, tn, ft, fp, hw, hc, hr⟩ := h
  refine tX11_rise_0 (c_paid hc.1 hw.1 ⟨_, rfl, ?_⟩)
  have hr1 : rowB B (((up2 μ.1 13 0 0, μ.2) : Me).1 131) := by
    simp (disch := omega) only [up2_ne]
    exact hr.1
  try refine And.intro (by first | rfl | exact hA 0 (by decide) | exact b3 0 (by decide) | exact b2 0 (by decide) | exact a1 0 (by decide) | exact a1 0 (by omega) | exact a3 0 (by decide) (by decide) | simp (disch := omega) only [up2_ne]) ?_
  refine r_rise hr1 hw.1 ?_
  refine K _ _ (IV.court (B2 := ub B 5 0) (I1 := up2 μ.1 13 0 (nI 0)) hw hc hr (WB_rise hw.1) (ub_n (by decide)) (fun a _ ha => up2_ne (fun e => ha (e ▸ by decide))) (CB_rise hc.1 hw.1) (fun a _ ha => up2_ne ha) (rowB_up hr1 (by decide))) ?_
  simp (disch := omega) only [up2_ne]
end SF
