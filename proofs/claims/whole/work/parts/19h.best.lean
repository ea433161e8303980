/-! best -/
section BE
variable {N : Nat} {μ : Me} {B B' R T tp : Nat → Nat} {tn : Nat} {ft fp : Int32} {v H k p : Nat}
theorem hcn_0 : hcn 0 = 0 := by decide
theorem stl_10 (hH : 1 ≤ H) : stl B T v H 0 0 0 k p 10 ↔ gA B T v (H - 1) 0 0 k p := by
  have e : (2 * H - 1 - 1) / 2 = H - 1 := by omega
  unfold stl win mH mT mK mP
  rw [if_neg (by decide), if_pos (Or.inl rfl), if_pos (Or.inl rfl), if_pos (Or.inl rfl), if_pos (Or.inl rfl), e]
  exact ⟨fun q => q.2.1 rfl, fun q => ⟨Or.inl rfl, fun _ => q, fun z => absurd z (by decide)⟩⟩
theorem stl_w {w : Nat} (hH : 1 ≤ H) (h10 : w ≠ 10) : stl B T v H 0 0 0 k p w ↔ frW B 0 0 w ∧ feeP B T w 0 ≤ p ∧ gA B T v (H - 1) (0 ||| 2 ^ w) 0 k (p - feeP B T w 0) := by
  have e : (2 * H - 1 - 1) / 2 = H - 1 := by omega
  unfold stl win mH mT mK mP okM
  rw [if_neg (by decide), if_neg (by omega), if_pos (Or.inr rfl), if_pos (Or.inr rfl), if_neg (by omega), e, hcn_0]
  constructor
  · rintro ⟨q1, q2, _⟩
    obtain ⟨z1, z2, _⟩ := q1.resolve_left h10
    exact ⟨z1, z2 rfl, q2 rfl⟩
  · rintro ⟨q1, q2, q3⟩
    exact ⟨Or.inr ⟨q1, fun _ => q2, fun z => absurd z (by decide)⟩, fun _ => q3, fun z => absurd z (by decide)⟩
theorem k_best {x1 x2 x3 x4 : Int32} {Φ : Int32 → Int32 → Me → Prop} (h : IV μ.1) (Kk : ∀ v (μ' : Me), IV μ'.1 → μ'.1 0 = μ.1 0 → Φ v v μ') : VI N 7 mX11_best [.ref 2, .int x1, .int x2, .int x3, .int x4] μ (fun v μ1 => μ1.1 0 = μ.1 0 ∧ VI N 8 mX12_best [.ref 130, .int x1, .int x2, .int x3, .int x4] μ1 (fun v' μ2 => Φ v v' μ2)) := by
  have h' := h
  obtain ⟨B, B', R, tp, tn, ft, fp, hw, hc, hr⟩ := h
  have wT := hw.ruT
  have hn := hw.1.n
  refine tX11_best_0 (vi_b (fun Ψ => c_isDay hc.1 hw.1) (fun g => ?_) (fun g => ⟨_, rfl, rfl, tX12_best_0 (vi_b (fun Ψ => r_isDay hr.1 hw.1) (fun q => absurd q g) (fun _ => ⟨_, rfl, Kk _ _ h' rfl⟩))⟩))
  have g0 := g
  obtain ⟨⟨v, hv, rfl⟩, h6, ⟨n, -, hn6, rfl⟩, ⟨k, -, hk, rfl⟩, ⟨p, -, hp, rfl⟩⟩ := g
  refine ⟨fun e => ⟨_, rfl, rfl, tX12_best_0 (vi_b (fun Ψ => r_isDay hr.1 hw.1) (fun _ => ⟨fun _ => ⟨_, rfl, Kk _ _ h' rfl⟩, fun q => absurd (by rw [e]; decide) q⟩) (fun q => absurd g0 q))⟩, fun e => ?_⟩
  have hn1 : 1 ≤ n := by
    rcases Nat.eq_zero_or_pos n with z | z
    · subst z; exact absurd rfl e
    · exact z
  have hpw : 2 ^ nfr B ≤ 2 ^ 6 := Nat.pow_le_pow_right (by decide) h6
  refine c_playDay (K := k) hc.1 hw.1 (hc.ruL hw) wT hc.2.2.1.2.2 h6 hv hn6 hk (fun μ2 b2 seat _ q81 => ?_)
  have r81 := q81 (n - 1) (by omega)
  have hB2 : rowB B (μ2.1 131) := by rw [b2 131 (by decide)]; exact hr.1
  have hT2 := hr.ruT.fr (b2 133 (by decide))
  have h78 : ∀ b, b < 64 → μ2.1 78 b = nI (sprN 6 b) := by rw [b2 78 (by decide)]; exact hc.2.2.1.2.2
  have cl6 : ∀ h t, clP (nfr B) k (ndD (nfr B) k (feS B (txB B R)) (laS B (txB B R) v) (n - 1)) h t ≤ 1000000 := fun h t => clP_6 (ndD_6 laS_6 (n - 1))
  have IHn := nd_gC (T := txB B R) (v := v) (K := k) hw.1 h6 (n - 1)
  have k10 : stl B (txB B R) v n 0 0 0 k p 10 ↔ clP (nfr B) k (ndD (nfr B) k (feS B (txB B R)) (laS B (txB B R) v) (n - 1)) 0 0 ≤ p := by
    have := cl_gA (T := txB B R) (v := v) (K := k) (n := n - 1) (h := 0) (t := 0) (p := p) hw.1 h6 IHn (Nat.two_pow_pos _) (Nat.two_pow_pos _) rfl (by rw [cn_0]; omega) hp
    rw [stl_10 hn1, this, wS_0, cn_0, Nat.sub_zero]
  have kw : ∀ i, i < nfr B → (stl B (txB B R) v n 0 0 0 k p (wh B i) ↔ feS B (txB B R) i 0 + clP (nfr B) k (ndD (nfr B) k (feS B (txB B R)) (laS B (txB B R) v) (n - 1)) (2 ^ i) 0 ≤ p) := by
    intro i hi
    obtain ⟨w1, w2, w3⟩ := wh_sp hi
    have ef : feS B (txB B R) i 0 = feeP B (txB B R) (wh B i) 0 := by unfold feS; rw [if_pos w1]
    have e3 : wS B (2 ^ i) = 2 ^ wh B i := by
      have := wS_or (t := 0) w1 w2
      rw [w3, Nat.zero_or, wS_0, Nat.zero_or] at this
      exact this
    have e4 := cl_gA (T := txB B R) (v := v) (K := k) (n := n - 1) (h := 2 ^ i) (t := 0) (p := p - feeP B (txB B R) (wh B i) 0) hw.1 h6 IHn (p2_lt hi) (Nat.two_pow_pos _) (Nat.and_zero _) (by rw [cn_0]; omega) (by omega)
    rw [wS_0, cn_0, Nat.sub_zero, e3] at e4
    rw [stl_w hn1 (by omega), ef, Nat.zero_or, ← e4]
    have fr : frW B 0 0 (wh B i) := ⟨w1, w2, by rw [Nat.or_zero, Nat.zero_testBit]; decide⟩
    constructor
    · rintro ⟨_, q1, q2⟩
      omega
    · intro q
      exact ⟨fr, by omega, by omega⟩
  have fin : ∀ (x : Int32), (∀ m, m ≤ 10 → stl B (txB B R) v n 0 0 0 k p m → (∀ m', m' < m → ¬ stl B (txB B R) v n 0 0 0 k p m') → x = nI m) → ((∀ m, m ≤ 10 → ¬ stl B (txB B R) v n 0 0 0 k p m) → x = -1) → μ2.1 0 = μ.1 0 ∧ VI N 8 mX12_best [.ref 130, .int (nI v), .int (nI n), .int (nI k), .int (nI p)] μ2 (fun v' μ2 => Φ x v' μ2) := by
    intro x hx1 hx0
    try refine And.intro (by first | rfl | exact hA 0 (by decide) | exact b3 0 (by decide) | exact b2 0 (by decide) | exact a1 0 (by decide) | exact a1 0 (by omega) | exact a3 0 (by decide) (by decide) | simp (disch := omega) only [up2_ne]) ?_
    refine tX12_best_0 (vi_b (fun Ψ => r_isDay hB2 hw.1) (fun _ => ?_) (fun q => absurd g0 q))
    refine ⟨fun q => absurd q (nI_nle hn1 (by omega)), fun _ => ?_⟩
    refine r_findBest hB2 hw.1 hT2 wT hv hn6 hn1 hk hp (fun m hm hst hno ν2 c2 => ⟨_, rfl, ?_⟩) (fun hno ν2 c2 => ⟨_, rfl, ?_⟩)
    · rw [hx1 m hm hst hno]
      exact Kk _ _ (IV.sameD hw hc hr (b2.mono (by decide)) c2) (by rw [c2.1 0 (by decide) (by decide), b2 0 (by decide)])
    · rw [hx0 hno]
      exact Kk _ _ (IV.sameD hw hc hr (b2.mono (by decide)) c2) (by rw [c2.1 0 (by decide) (by decide), b2 0 (by decide)])
  have r75 : μ2.1 75 0 = nI (nfr B) := seat.1
  have noseat : ∀ i, (∀ j, j < i → ¬ feS B (txB B R) j 0 + clP (nfr B) k (ndD (nfr B) k (feS B (txB B R)) (laS B (txB B R) v) (n - 1)) (2 ^ j) 0 ≤ p) → ∀ m, m ≠ 10 → (m < B 0 → sq B m < i) → ¬ stl B (txB B R) v n 0 0 0 k p m := by
    intro i hno m h10 hm q
    obtain ⟨z1, z2, _⟩ := (stl_w hn1 h10).mp q |>.1
    obtain ⟨y1, y2⟩ := wh_sq z1 z2
    have := hno (sq B m) (hm z1)
    rw [← kw _ y1, y2] at this
    exact this q
  refine tX2_firstCall_0 ?_
  refine vb_wf (N := N) (d := 2) (M := mX2_firstCall) (hd := 2) (τ := Nat) (fun i => [.ref 75, .int (nI p), .int (nI i)]) (fun _ => μ2) (fun i => nfr B - i) (fun i => i ≤ nfr B ∧ ∀ j, j < i → ¬ feS B (txB B R) j 0 + clP (nfr B) k (ndD (nfr B) k (feS B (txB B R)) (laS B (txB B R) v) (n - 1)) (2 ^ j) 0 ≤ p) ?_ 0 ⟨Nat.zero_le _, fun j hj => by omega⟩
  rintro i ⟨hi, hno⟩ K'
  refine tX2_firstCall_2 ?_
  by_cases ei : i = nfr B
  · subst ei
    have r0 := r81 0 0 (Nat.two_pow_pos _) (Nat.two_pow_pos _) rfl (by rw [cn_0]; omega)
    rw [ro_00] at r0
    have b0 := cl6 0 0
    have nost : ∀ m, m ≠ 10 → ¬ stl B (txB B R) v n 0 0 0 k p m := by
      intro m h10 q
      obtain ⟨z1, z2, _⟩ := (stl_w hn1 h10).mp q |>.1
      exact noseat _ hno m h10 (fun _ => (wh_sq z1 z2).1) q
    simp (disch := omega) only [lit, Nat.add_sub_cancel, Nat.not_lt_zero, ↓m1_mI, nI_add, pk_mul, nx_and, nx_or, and31, sh_r, sh_1, nx_nand, Nat.and_one_is_mod, nI_clamp, nI_leI, nI_ltI, nI_eq, tb_1, vp_t, up2_a, up2_b, up2_c, br_1, br_0, true_and, and_true, mI_ne, mI_ne', mI_lt, mI_le, mI_nle, mI_nlt, pk_sub, mI_sub, r75, Nat.le_refl]
    refine tX2_firstCall_53 ?_
    simp (disch := omega) only [lit, Nat.add_sub_cancel, Nat.not_lt_zero, ↓m1_mI, nI_add, pk_mul, nx_and, nx_or, and31, sh_r, sh_1, nx_nand, Nat.and_one_is_mod, nI_clamp, nI_leI, nI_ltI, nI_eq, tb_1, vp_t, up2_a, up2_b, up2_c, br_1, br_0, true_and, and_true, mI_ne, mI_ne', mI_lt, mI_le, mI_nle, mI_nlt, pk_sub, mI_sub, r0]
    refine ⟨fun z => ⟨_, rfl, _, rfl, fin _ (fun m hm hst _ => ?_) (fun _ => rfl)⟩, fun z => ⟨_, rfl, _, rfl, fin _ (fun m hm hst _ => ?_) (fun q => absurd (k10.mpr (by omega)) (q 10 (by omega)))⟩⟩
    · exfalso
      by_cases e10 : m = 10
      · subst e10
        have := k10.mp hst
        omega
      · exact nost m e10 hst
    · have : m = 10 := Classical.byContradiction (fun q => nost m q hst)
      rw [this]
  · have hi' : i < nfr B := by omega
    have g1 : ¬ nfr B ≤ i := by omega
    have g2 : ¬ 6 ≤ i := by omega
    obtain ⟨w1, w2, w3⟩ := wh_sp hi'
    have r76 := (seat.2 _ w1 w2).1
    rw [w3] at r76
    have r1 := r81 (2 ^ i) 0 (p2_lt hi') (Nat.two_pow_pos _) (Nat.and_zero _) (by rw [cn_0]; omega)
    have b1 := cl6 (2 ^ i) 0
    have hpi : 2 ^ i < 64 := p2_lt (m := 6) (by omega)
    have hro := ro_lt hpi (show 0 < 64 by omega)
    have f1 := feS_le (T := txB B R) hw.1 i 0
    simp (disch := omega) only [lit, Nat.add_sub_cancel, Nat.not_lt_zero, ↓m1_mI, nI_add, pk_mul, nx_and, nx_or, and31, sh_r, sh_1, nx_nand, Nat.and_one_is_mod, nI_clamp, nI_leI, nI_ltI, nI_eq, tb_1, vp_t, up2_a, up2_b, up2_c, br_1, br_0, true_and, and_true, mI_ne, mI_ne', mI_lt, mI_le, mI_nle, mI_nlt, pk_sub, mI_sub, r75, eq_false g1, eq_false g2]
    refine c_feeAt (m := nfr B) (fe := feS B (txB B R)) (fun i hi mn hmn => ?_) h6 hi' (by omega) ?_
    · obtain ⟨w1, w2, w3⟩ := wh_sp hi
      have := (seat.2 _ w1 w2).2 mn hmn
      rw [w3] at this
      rw [this]
      unfold feS
      rw [if_pos w1]
    refine c_rowOf h78 hpi (by decide) ?_
    simp (disch := omega) only [lit, Nat.add_sub_cancel, Nat.not_lt_zero, ↓m1_mI, nI_add, pk_mul, nx_and, nx_or, and31, sh_r, sh_1, nx_nand, Nat.and_one_is_mod, nI_clamp, nI_leI, nI_ltI, nI_eq, tb_1, vp_t, up2_a, up2_b, up2_c, br_1, br_0, true_and, and_true, mI_ne, mI_ne', mI_lt, mI_le, mI_nle, mI_nlt, pk_sub, mI_sub, r1]
    refine ⟨fun z => K' (i + 1) ⟨by omega, fun j hj => ?_⟩ (by omega), fun z => ?_⟩
    · by_cases ej : j = i
      · subst ej; omega
      · exact hno j (by omega)
    · have hst := (kw i hi').mpr (by omega)
      simp (disch := omega) only [lit, Nat.add_sub_cancel, Nat.not_lt_zero, ↓m1_mI, nI_add, pk_mul, nx_and, nx_or, and31, sh_r, sh_1, nx_nand, Nat.and_one_is_mod, nI_clamp, nI_leI, nI_ltI, nI_eq, tb_1, vp_t, up2_a, up2_b, up2_c, br_1, br_0, true_and, and_true, mI_ne, mI_ne', mI_lt, mI_le, mI_nle, mI_nlt, pk_sub, mI_sub, r76]
      have before : ∀ m', m' < wh B i → ¬ stl B (txB B R) v n 0 0 0 k p m' := by
        intro m' hm' q
        have h10 : m' ≠ 10 := by omega
        obtain ⟨z1, z2, _⟩ := (stl_w hn1 h10).mp q |>.1
        refine noseat i hno m' h10 (fun _ => ?_) q
        have := sq_mono B (show m' + 1 ≤ wh B i from hm')
        rw [sq_t z2, w3] at this
        omega
      refine ⟨_, rfl, _, rfl, fin _ (fun m hm hst' hno' => ?_) (fun q => absurd hst (q _ (by omega)))⟩
      rcases Nat.lt_trichotomy m (wh B i) with q | q | q
      · exact absurd hst' (before m q)
      · rw [q]
      · exact absurd hst (hno' _ q)
end BE
