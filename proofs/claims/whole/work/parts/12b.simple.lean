/-! verdict, hour, strike, by, tell, rise -/
section SD
variable {N : Nat} {μ : Me} {B B' R T tp : Nat → Nat} {tn : Nat} {ft fp : Int32} {I : Nat → Nat → Int32} {Ψ : Int32 → Me → Prop}
theorem CB_verdict {a b c : Nat} (hC : CB B 3 I) (hW : WB B) (hl : B 1 < 6) : CB (nvB B a b c) 3 (up2 (up2 (up2 (up2 I 10 (B 1) (nI a)) 11 (B 1) (nI b)) 12 (B 1) (nI c)) 9 0 (nI (B 1 + 1))) := by
  have hn := hW.n
  obtain ⟨c1, c2, c3, c4, c5⟩ := hC
  unfold CB nvB
  simp (disch := omega) only [up2_ne]
  refine ⟨cHd_ub (cHd_ub (cHd_ub (cHd_ub c1 ?_) ?_) ?_) ?_, ?_, ?_, ?_, ?_⟩
  iterate 4 omega
  · refine cRoll_ub (cRoll_ub (cRoll_ub (cRoll_ub c2 ?_ ?_) ?_ ?_) ?_ ?_) ?_ ?_
    all_goals first | omega | (intro i hi; simp (disch := omega) only [ub_n] at hi; omega)
  · refine cRow_add c3 (by omega) up2_c (fun i => ?_) (fun i => ?_) (fun i => ?_) <;> (rw [up2_eq] <;> try simp (disch := omega) only [up2_a])
  · refine cRow_ub (cRow_ub (cRow_ub (cRow_ub c4 ?_ ?_) ?_ ?_) ?_ ?_) ?_ ?_
    all_goals first | omega | (intro i hi; simp (disch := omega) only [ub_n] at hi; omega)
  · refine cRow_ub (cRow_ub (cRow_ub (cRow_ub c5 ?_ ?_) ?_ ?_) ?_ ?_) ?_ ?_
    all_goals first | omega | (intro i hi; simp (disch := omega) only [ub_n] at hi; omega)
theorem WB_verdict {a b c : Nat} (hW : WB B) (hl : B 1 < 6) (ha : a < 16) (hb : 1 ≤ b) (hb9 : b ≤ 9) (hc : c ≤ 99) : WB (nvB B a b c) := by
  have hn := hW.n
  obtain ⟨⟨w0, _⟩, w1, w2, w3, w4, w5⟩ := hW
  unfold WB nvB
  rw [ub_e]
  (try simp (disch := omega) only [ub_n])
  refine ⟨⟨fun k => ?_, by omega⟩, fun i hi => ?_, fun i hi => ?_, fun i hi => ?_, fun i j hi hj => ?_, fun i hi => ?_⟩
  · have := w0 k
    unfold ub
    repeat' split
    all_goals omega
  · have := w1 i hi
    (try simp (disch := omega) only [ub_n])
    exact this
  · by_cases e : i = B 1
    · subst e
      simp (disch := omega) only [ub_n, ub_e]
      omega
    · have := w2 i (by omega)
      (try simp (disch := omega) only [ub_n])
      exact this
  · have := w3 i hi
    (try simp (disch := omega) only [ub_n])
    exact this
  · have := w4 i j hi hj
    (try simp (disch := omega) only [ub_n])
    exact this
  · have := w5 i hi
    (try simp (disch := omega) only [ub_n])
    exact this
theorem r_verdict {x1 x2 x3 : Int32} (hB : rowB B (μ.1 131)) (hW : WB B)
    (h0 : ¬ (rgI 0 15 x1 ∧ rgI 1 9 x2 ∧ rgI 0 99 x3 ∧ B 1 < 6) → Ψ (-1) μ)
    (h1 : ∀ a b c, x1 = nI a → x2 = nI b → x3 = nI c → a ≤ 15 → 1 ≤ b → b ≤ 9 → c ≤ 99 → B 1 < 6 → ∀ μ' : Me, Ag [131] μ.1 μ'.1 → rowB (nvB B a b c) (μ'.1 131) → Ψ (nI (B 1)) μ') :
    VI N 2 mX12_verdict [.ref 130, .int x1, .int x2, .int x3] μ Ψ := by
  have hn := hW.n
  have rB := hB.1
  refine tX12_verdict_0 (vi_b (fun Ψ => r_in 0 15 (by decide) (by decide)) (fun g1 => ?_) (fun g1 => ⟨_, rfl, h0 (fun k => g1 k.1)⟩))
  refine vi_b (fun Ψ => r_in 1 9 (by decide) (by decide)) (fun g2 => ?_) (fun g => ⟨_, rfl, h0 (fun k => g k.2.1)⟩)
  refine vi_b (fun Ψ => r_in 0 99 (by decide) (by decide)) (fun g3 => ?_) (fun g => ⟨_, rfl, h0 (fun k => g k.2.2.1)⟩)
  obtain ⟨a, -, ha, rfl⟩ := g1
  obtain ⟨b, hb0, hb, rfl⟩ := g2
  obtain ⟨c, -, hc, rfl⟩ := g3
  by_cases e : B 1 = 6
  · simp (disch := omega) only [lit, Nat.add_sub_cancel, Nat.not_lt_zero, ↓m1_mI, nI_add, pk_mul, nx_and, nx_or, and31, sh_r, sh_1, nx_nand, Nat.and_one_is_mod, nI_clamp, nI_leI, nI_ltI, nI_eq, tb_1, vp_t, up2_a, up2_b, up2_c, br_1, br_0, true_and, and_true, mI_ne, mI_ne', mI_lt, mI_le, mI_nle, mI_nlt, pk_sub, mI_sub, rB, e]
    exact ⟨_, rfl, h0 (fun k => by omega)⟩
  · simp (disch := omega) only [lit, Nat.add_sub_cancel, Nat.not_lt_zero, ↓m1_mI, nI_add, pk_mul, nx_and, nx_or, and31, sh_r, sh_1, nx_nand, Nat.and_one_is_mod, nI_clamp, nI_leI, nI_ltI, nI_eq, tb_1, vp_t, up2_a, up2_b, up2_c, br_1, br_0, true_and, and_true, mI_ne, mI_ne', mI_lt, mI_le, mI_nle, mI_nlt, pk_sub, mI_sub, rB, eq_false e]
    exact ⟨_, rfl, h1 a b c rfl rfl rfl ha hb0 hb hc (by omega) _ (by repeat (first | refine Ag.up ?_ (by decide) | exact Ag.rf)) (rowB_up (rowB_up (rowB_up (rowB_up hB (by omega)) (by omega)) (by omega)) (by omega))⟩
theorem c_ver32 {x1 x2 x3 : Int32} (h : Ψ (-1) μ) : VB N 2 mX11_verdict 32 [.ref 2, .int x1, .int x2, .int x3] [] μ (fun r μ' => ∃ v, r = some (.int v) ∧ Ψ v μ') := tX11_verdict_32 (tX11_verdict_33 ⟨fun _ => ⟨_, rfl, h⟩, fun e => absurd rfl e⟩)
theorem c_verdict {x1 x2 x3 : Int32} (hC : CB B 3 μ.1) (hW : WB B)
    (h0 : ¬ (rgI 0 15 x1 ∧ rgI 1 9 x2 ∧ rgI 0 99 x3 ∧ B 1 < 6) → Ψ (-1) μ)
    (h1 : ∀ a b c, x1 = nI a → x2 = nI b → x3 = nI c → a ≤ 15 → 1 ≤ b → b ≤ 9 → c ≤ 99 → B 1 < 6 → ∀ μ' : Me, Ag ktR μ.1 μ'.1 → CB (nvB B a b c) 3 μ'.1 → Ψ (nI (B 1)) μ') :
    VI N 2 mX11_verdict [.ref 2, .int x1, .int x2, .int x3] μ Ψ := by
  have hn := hW.n
  refine tX11_verdict_0 (vi_b (fun Ψ => c_isF) (fun g1 => ?_) (fun g => c_ver32 (h0 (fun k => g ?_))))
  · refine ⟨fun e => c_ver32 (h0 (fun k => rg_lt (lo := 1) (hi := 9) (by decide) (by decide) e k.2.1)), fun e3 => ?_⟩
    refine ⟨fun e => c_ver32 (h0 (fun k => rg_gt (lo := 1) (hi := 9) (by decide) (by decide) e k.2.1)), fun e4 => ?_⟩
    refine ⟨fun e => c_ver32 (h0 (fun k => rg_lt (lo := 0) (hi := 99) (by decide) (by decide) e k.2.2.1)), fun e5 => ?_⟩
    refine ⟨fun e => c_ver32 (h0 (fun k => rg_gt (lo := 0) (hi := 99) (by decide) (by decide) e k.2.2.1)), fun e6 => ?_⟩
    obtain ⟨a, ha, rfl⟩ := g1
    obtain ⟨b, hb0, hb, rfl⟩ := rg_mk (lo := 1) (hi := 9) (by decide) (by decide) e3 e4
    obtain ⟨c, -, hc, rfl⟩ := rg_mk (lo := 0) (hi := 99) (by decide) (by decide) e5 e6
    refine tX11_verdict_33 ⟨fun e => absurd e (by decide), fun _ => ?_⟩
    refine tX3_add_0 ?_
    by_cases e : B 1 < 6
    · simp (disch := omega) only [lit, Nat.add_sub_cancel, Nat.not_lt_zero, ↓m1_mI, nI_add, pk_mul, nx_and, nx_or, and31, sh_r, sh_1, nx_nand, Nat.and_one_is_mod, nI_clamp, nI_leI, nI_ltI, nI_eq, tb_1, vp_t, up2_a, up2_b, up2_c, br_1, br_0, true_and, and_true, mI_ne, mI_ne', mI_lt, mI_le, mI_nle, mI_nlt, pk_sub, mI_sub, hC.k6, eq_true e]
      exact ⟨_, rfl, _, rfl, h1 a b c rfl rfl rfl (by omega) hb0 hb hc e _ (by repeat (first | refine Ag.up ?_ (by decide) | exact Ag.rf)) (CB_verdict hC hW e)⟩
    · simp (disch := omega) only [lit, Nat.add_sub_cancel, Nat.not_lt_zero, ↓m1_mI, nI_add, pk_mul, nx_and, nx_or, and31, sh_r, sh_1, nx_nand, Nat.and_one_is_mod, nI_clamp, nI_leI, nI_ltI, nI_eq, tb_1, vp_t, up2_a, up2_b, up2_c, br_1, br_0, true_and, and_true, mI_ne, mI_ne', mI_lt, mI_le, mI_nle, mI_nlt, pk_sub, mI_sub, hC.k6, eq_false e]
      exact ⟨_, rfl, _, rfl, h0 (fun k => e k.2.2.2)⟩
  · obtain ⟨n, _, h2, h3⟩ := k.1
    exact ⟨n, by omega, h3⟩
theorem k_verdict {x1 x2 x3 : Int32} {Φ : Int32 → Int32 → Me → Prop} (h : IV μ.1) (K : ∀ v (μ' : Me), IV μ'.1 → μ'.1 0 = μ.1 0 → Φ v v μ') : VI N 2 mX11_verdict [.ref 2, .int x1, .int x2, .int x3] μ (fun v μ1 => μ1.1 0 = μ.1 0 ∧ VI N 2 mX12_verdict [.ref 130, .int x1, .int x2, .int x3] μ1 (fun v' μ2 => Φ v v' μ2)) := by
  obtain ⟨B, B', R, tp, tn, ft, fp, hw, hc, hr⟩ := h
  refine c_verdict hc.1 hw.1 (fun g => ?_) (fun a b c e1 e2 e3 l1 l2 l3 l4 l5 μ1 hA hC1 => ?_)
  · refine And.intro (by first | rfl | exact hA 0 (by decide) | exact b3 0 (by decide) | exact b2 0 (by decide) | exact a1 0 (by decide) | exact a1 0 (by omega) | exact a3 0 (by decide) (by decide) | simp (disch := omega) only [up2_ne]) ?_
    refine r_verdict hr.1 hw.1 (fun _ => K _ _ ⟨B, B', R, tp, tn, ft, fp, hw, hc, hr⟩ rfl) (fun a b c e1 e2 e3 l1 l2 l3 l4 l5 μ1 _ _ => absurd ⟨⟨a, by omega, l1, e1⟩, ⟨b, l2, l3, e2⟩, ⟨c, by omega, l4, e3⟩, l5⟩ g)
  · have hr1 : rowB B (μ1.1 131) := by rw [hA 131 (ktR_ge (by decide))]; exact hr.1
    try refine And.intro (by first | rfl | exact hA 0 (by decide) | exact b3 0 (by decide) | exact b2 0 (by decide) | exact a1 0 (by decide) | exact a1 0 (by omega) | exact a3 0 (by decide) (by decide) | simp (disch := omega) only [up2_ne]) ?_
    refine r_verdict hr1 hw.1 (fun g => absurd ⟨⟨a, by omega, l1, e1⟩, ⟨b, l2, l3, e2⟩, ⟨c, by omega, l4, e3⟩, l5⟩ g) (fun a' b' c' f1 f2 f3 m1 m2 m3 m4 _ μ2 hA2 hb => ?_)
    obtain rfl := nI_inj (e1.symm.trans f1) (by omega) (by omega)
    obtain rfl := nI_inj (e2.symm.trans f2) (by omega) (by omega)
    obtain rfl := nI_inj (e3.symm.trans f3) (by omega) (by omega)
    refine K _ _ (IV.court hw hc hr (WB_verdict hw.1 l5 (by omega) l2 l3 l4) ?_ (fun a _ h => hA a h) hC1 (fun a _ h => hA2 a (by simpa using h)) hb) ((hA2 0 (by decide)).trans (hA 0 (by decide)))
    unfold nvB
    (try simp (disch := omega) only [ub_n])
/-! hour -/
theorem WB_hour {h : Nat} (hW : WB B) (hh : h < 24) : WB (ub B 2 h) := by
  have hn := hW.n
  obtain ⟨⟨w0, _⟩, w1, w2, w3, w4, w5⟩ := hW
  unfold WB
  rw [ub_e]
  (try simp (disch := omega) only [ub_n])
  refine ⟨⟨fun k => ?_, by omega⟩, fun i hi => ?_, fun i hi => ?_, fun i hi => ?_, fun i j hi hj => ?_, fun i hi => ?_⟩
  · have := w0 k
    unfold ub
    split <;> omega
  · (try simp (disch := omega) only [ub_n]); exact w1 i hi
  · (try simp (disch := omega) only [ub_n]); exact w2 i hi
  · (try simp (disch := omega) only [ub_n]); exact w3 i hi
  · (try simp (disch := omega) only [ub_n]); exact w4 i j hi hj
  · (try simp (disch := omega) only [ub_n]); exact w5 i hi
theorem k_hour {x1 : Int32} {Φ : Int32 → Int32 → Me → Prop} (h : IV μ.1) (K : ∀ v (μ' : Me), IV μ'.1 → μ'.1 0 = μ.1 0 → Φ v v μ') : VI N 1 mX11_hour [.ref 2, .int x1] μ (fun v μ1 => μ1.1 0 = μ.1 0 ∧ VI N 2 mX12_hour [.ref 130, .int x1] μ1 (fun v' μ2 => Φ v v' μ2)) := by
  have h' := h
  obtain ⟨B, B', R, tp, tn, ft, fp, hw, hc, hr⟩ := h
  have hn := hw.1.n
  have K0 : ¬ (0 ≤ x1 ∧ x1 ≤ 23) → μ.1 0 = μ.1 0 ∧ VI N 2 mX12_hour [.ref 130, .int x1] μ (fun v' μ2 => Φ 0 v' μ2) := fun g => ⟨rfl, c_hour (fun h1 h2 => absurd ⟨h1, h2⟩ g) (fun _ => K _ _ h' rfl)⟩
  refine tX11_hour_0 ⟨fun e => ⟨_, rfl, K0 (fun g => absurd e (i_nlt.mpr g.1))⟩, fun e1 => ⟨fun e2 => ⟨_, rfl, ?_⟩, fun e => ⟨_, rfl, K0 (fun g => ?_)⟩⟩⟩
  · obtain ⟨m, -, hm, rfl⟩ := rg_mk' (lo := 0) (hi := 23) (by decide) (by decide) e1 (i_nle.mpr e2)
    try refine And.intro (by first | rfl | exact hA 0 (by decide) | exact b3 0 (by decide) | exact b2 0 (by decide) | exact a1 0 (by decide) | exact a1 0 (by omega) | exact a3 0 (by decide) (by decide) | simp (disch := omega) only [up2_ne]) ?_
    refine c_hour (fun h1 h2 => ?_) (fun g => absurd ⟨i_nlt.mp e1, nI_le (b := 23) hm (by decide)⟩ g)
    refine K _ _ (IV.court (B2 := ub B 2 m) (I1 := up2 μ.1 3 4 (nI m)) hw hc hr (WB_hour hw.1 (by omega)) (ub_n (by decide)) (fun a _ ha => up2_ne (fun e => ha (e ▸ by decide))) ?_ (fun a _ ha => up2_ne ha) ?_) ?_
    · obtain ⟨c1, c2, c3, c4, c5⟩ := hc.1
      unfold CB
      simp (disch := omega) only [up2_ne]
      refine ⟨?_, cRoll_ub c2 (by decide) (fun i hi => by omega), cRow_ub c3 (by decide) (fun i hi => by omega), cRow_ub c4 (by decide) (fun i hi => by omega), cRow_ub c5 (by decide) (fun i hi => by omega)⟩
      unfold cHd at *
      rw [ub_e, ub_n (by decide), ub_n (by decide), up2_c, up2_b (by decide), up2_b (by decide)]
      exact ⟨rfl, c1.2⟩
    · refine rowB_up ?_ (by decide)
      simp (disch := omega) only [up2_ne]
      exact hr.1
    · simp (disch := omega) only [up2_ne]
  · obtain ⟨m, hm, rfl⟩ := rng (b := 23) (by decide) e1 g.2
    exact e (nI_lt (b := 24) (by omega) (by decide))
end SD
