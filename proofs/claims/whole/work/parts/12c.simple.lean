/-! strike, by, tell, rise -/
section SE
variable {N : Nat} {μ : Me} {B B' R T tp : Nat → Nat} {tn : Nat} {ft fp : Int32} {I : Nat → Nat → Int32} {Ψ : Int32 → Me → Prop}
theorem sb_1 {w : Nat} (hw : w < B 0) : sb (ub B (10 + 5 * w + 4) 1) = sb B ||| 2 ^ w := by
  unfold sb
  rw [ub_n (by omega)]
  apply Nat.eq_of_testBit_eq
  intro i
  rw [Nat.testBit_or, bits_tb, bits_tb, Nat.testBit_two_pow]
  by_cases e : i = w
  · subst e
    rw [ub_e]
    simp [hw]
  · rw [ub_n (by omega)]
    have : ¬ w = i := fun h => e h.symm
    simp [this]
theorem sb_0 {w : Nat} (hw : w < B 0) : sb (ub B (10 + 5 * w + 4) 0) = ndN (sb B) (2 ^ w) := by
  unfold sb
  rw [ub_n (by omega)]
  apply Nat.eq_of_testBit_eq
  intro i
  rw [ndN_tb, bits_tb, bits_tb, Nat.testBit_two_pow]
  by_cases e : i = w
  · subst e
    rw [ub_e]
    simp
  · rw [ub_n (by omega)]
    have : ¬ w = i := fun h => e h.symm
    simp [this]
theorem CB_strike {w v : Nat} {x : Int32} (hC : CB B 3 I) (hW : WB B) (hw : w < B 0) (hx : x = nI (sb (ub B (10 + 5 * w + 4) v))) : CB (ub B (10 + 5 * w + 4) v) 3 (up2 I 4 1 x) := by
  have hn := hW.n
  obtain ⟨c1, c2, c3, c4, c5⟩ := hC
  unfold CB
  simp (disch := omega) only [up2_ne]
  refine ⟨cHd_ub c1 (by omega), ?_, cRow_ub c3 (by omega) (fun i hi => by omega), cRow_ub c4 (by omega) (fun i hi => by omega), cRow_ub c5 (by omega) (fun i hi => by omega)⟩
  unfold cRoll at *
  rw [ub_n (by omega)]
  refine ⟨?_, ?_, fun i hi => ?_⟩
  · rw [up2_b (by decide)]; exact c2.1
  · rw [up2_c]; exact hx
  · have := c2.2.2 i hi
    (try simp (disch := omega) only [ub_n])
    exact this
theorem WB_strike {w v : Nat} (hW : WB B) (hw : w < B 0) (hv : v ≤ 1) : WB (ub B (10 + 5 * w + 4) v) := by
  have hn := hW.n
  obtain ⟨⟨w0, _⟩, w1, w2, w3, w4, w5⟩ := hW
  unfold WB
  (try simp (disch := omega) only [ub_n])
  refine ⟨⟨fun k => ?_, by omega⟩, fun i hi => ?_, fun i hi => ?_, fun i hi => ?_, fun i j hi hj => ?_, fun i hi => ?_⟩
  · have := w0 k
    unfold ub
    split <;> omega
  · have := w1 i hi
    by_cases e : i = w
    · subst e
      rw [ub_e]
      (try simp (disch := omega) only [ub_n])
      omega
    · (try simp (disch := omega) only [ub_n])
      exact this
  · (try simp (disch := omega) only [ub_n]); exact w2 i hi
  · (try simp (disch := omega) only [ub_n]); exact w3 i hi
  · (try simp (disch := omega) only [ub_n]); exact w4 i j hi hj
  · (try simp (disch := omega) only [ub_n]); exact w5 i hi
theorem k_strike {x1 x2 : Int32} {Φ : Int32 → Int32 → Me → Prop} (h : IV μ.1) (K : ∀ v (μ' : Me), IV μ'.1 → μ'.1 0 = μ.1 0 → Φ v v μ') : VI N 2 mX11_strike [.ref 2, .int x1, .int x2] μ (fun v μ1 => μ1.1 0 = μ.1 0 ∧ VI N 3 mX12_strike [.ref 130, .int x1, .int x2] μ1 (fun v' μ2 => Φ v v' μ2)) := by
  have h' := h
  obtain ⟨B, B', R, tp, tn, ft, fp, hw, hc, hr⟩ := h
  have hn := hw.1.n
  have hs := sb_lt hw.1
  refine tX11_strike_0 (vi_b (fun Ψ => c_isW hc.1 hw.1) (fun g => ?_) (fun g => ⟨_, rfl, rfl, tX12_strike_0 (vi_b (fun Ψ => r_isW hr.1 hw.1) (fun g' => absurd g' g) (fun _ => ⟨_, rfl, K _ _ h' rfl⟩))⟩))
  obtain ⟨w, hwl, rfl⟩ := g
  have fin : ∀ (v : Nat) (x y : Int32), v ≤ 1 → y = nI v → x = nI (sb (ub B (10 + 5 * w + 4) v)) → Φ 1 1 (up2 (up2 μ.1 4 1 x) 131 (10 + 5 * w + 4) y, μ.2) := by
    intro v x y hv hy hx
    subst hy
    refine K _ _ (IV.court (B2 := ub B (10 + 5 * w + 4) v) (I1 := up2 μ.1 4 1 x) hw hc hr (WB_strike hw.1 hwl hv) (ub_n (by omega)) (fun a _ ha => up2_ne (fun e => ha (e ▸ by decide))) (CB_strike hc.1 hw.1 hwl hx) (fun a _ ha => up2_ne ha) ?_) ?_
    · refine rowB_up ?_ (by omega)
      simp (disch := omega) only [up2_ne]
      exact hr.1
    · simp (disch := omega) only [up2_ne]
  have hr1 : ∀ x, rowB B (((up2 μ.1 4 1 x, μ.2) : Me).1 131) := by
    intro x
    show rowB B (up2 μ.1 4 1 x 131)
    rw [up2_ne (by decide)]
    exact hr.1
  refine ⟨fun e => ⟨_, rfl, ?_⟩, fun e => ⟨_, rfl, ?_⟩⟩
  · refine And.intro (by first | rfl | exact hA 0 (by decide) | exact b3 0 (by decide) | exact b2 0 (by decide) | exact a1 0 (by decide) | exact a1 0 (by omega) | exact a3 0 (by decide) (by decide) | simp (disch := omega) only [up2_ne]) ?_
    refine tX12_strike_0 (vi_b (fun Ψ => r_isW (hr1 _) hw.1) (fun _ => ⟨fun _ => ?_, fun e2 => absurd e e2⟩) (fun g => absurd ⟨w, hwl, rfl⟩ g))
    simp (disch := omega) only [lit, Nat.add_sub_cancel, Nat.not_lt_zero, ↓m1_mI, nI_add, pk_mul, nx_and, nx_or, and31, sh_r, sh_1, nx_nand, Nat.and_one_is_mod, nI_clamp, nI_leI, nI_ltI, nI_eq, tb_1, vp_t, up2_a, up2_b, up2_c, br_1, br_0, true_and, and_true, mI_ne, mI_ne', mI_lt, mI_le, mI_nle, mI_nlt, pk_sub, mI_sub, hc.1.k1]
    exact ⟨_, rfl, fin 0 _ _ (by omega) rfl (by rw [sb_0 hwl])⟩
  · refine And.intro (by first | rfl | exact hA 0 (by decide) | exact b3 0 (by decide) | exact b2 0 (by decide) | exact a1 0 (by decide) | exact a1 0 (by omega) | exact a3 0 (by decide) (by decide) | simp (disch := omega) only [up2_ne]) ?_
    refine tX12_strike_0 (vi_b (fun Ψ => r_isW (hr1 _) hw.1) (fun _ => ⟨fun e2 => absurd e2 e, fun _ => ?_⟩) (fun g => absurd ⟨w, hwl, rfl⟩ g))
    simp (disch := omega) only [lit, Nat.add_sub_cancel, Nat.not_lt_zero, ↓m1_mI, nI_add, pk_mul, nx_and, nx_or, and31, sh_r, sh_1, nx_nand, Nat.and_one_is_mod, nI_clamp, nI_leI, nI_ltI, nI_eq, tb_1, vp_t, up2_a, up2_b, up2_c, br_1, br_0, true_and, and_true, mI_ne, mI_ne', mI_lt, mI_le, mI_nle, mI_nlt, pk_sub, mI_sub, hc.1.k1]
    exact ⟨_, rfl, fin 1 _ _ (by omega) rfl (by rw [sb_1 hwl])⟩
/-! by -/
theorem by_iff {x : Int32} {m : Nat} (hm : m < 2 ^ 31) : (-1 ≤ x ∧ x ≤ nI m - 1) ↔ ∃ n, n ≤ m ∧ x = nI n - nI 1 := by
  have e1 : ∀ n, n ≤ m → (nI n - nI 1).toInt = (n : Int) - 1 := by
    intro n hn
    rcases Nat.eq_zero_or_pos n with rfl | h0
    · decide
    · rw [pk_sub h0, nI_toInt (by omega)]; omega
  show (-1 ≤ x ∧ x ≤ nI m - nI 1) ↔ _
  constructor
  · intro ⟨h1, h2⟩
    rw [i_le, show (-1 : Int32).toInt = -1 from by decide] at h1
    rw [i_le, e1 m (Nat.le_refl _)] at h2
    refine ⟨(x.toInt + 1).toNat, by omega, i_eq.mpr ?_⟩
    rw [e1 _ (by omega)]
    omega
  · rintro ⟨n, hn, rfl⟩
    rw [i_le, i_le, e1 n hn, e1 m (Nat.le_refl _), show (-1 : Int32).toInt = -1 from by decide]
    omega
theorem WB_by {n : Nat} (hW : WB B) (hn1 : n ≤ B 3) : WB (ub B 4 n) := by
  have hn := hW.n
  obtain ⟨⟨w0, _⟩, w1, w2, w3, w4, w5⟩ := hW
  unfold WB
  rw [ub_e]
  (try simp (disch := omega) only [ub_n])
  refine ⟨⟨fun k => ?_, by omega⟩, fun i hi => ?_, fun i hi => ?_, fun i hi => ?_, fun i j hi hj => ?_, fun i hi => ?_⟩
  · have := w0 k
    unfold ub
    split <;> omega
  · (try simp (disch := omega) only [ub_n]); exact w1 i hi
  · (try simp (disch := omega) only [ub_n]); exact w2 i hi
  · (try simp (disch := omega) only [ub_n]); exact w3 i hi
  · (try simp (disch := omega) only [ub_n]); exact w4 i j hi hj
  · (try simp (disch := omega) only [ub_n]); exact w5 i hi
theorem k_by {x1 : Int32} {Φ : Int32 → Int32 → Me → Prop} (h : IV μ.1) (K : ∀ v (μ' : Me), IV μ'.1 → μ'.1 0 = μ.1 0 → Φ v v μ') : VI N 1 mX11_by [.ref 2, .int x1] μ (fun v μ1 => μ1.1 0 = μ.1 0 ∧ VI N 2 mX12_by [.ref 130, .int x1] μ1 (fun v' μ2 => Φ v v' μ2)) := by
  have h' := h
  obtain ⟨B, B', R, tp, tn, ft, fp, hw, hc, hr⟩ := h
  have hn := hw.1.n
  have hi := by_iff (x := x1) (show B 3 < 2 ^ 31 by omega)
  have K0 : ¬ (∃ n, n ≤ B 3 ∧ x1 = nI n - nI 1) → μ.1 0 = μ.1 0 ∧ VI N 2 mX12_by [.ref 130, .int x1] μ (fun v' μ2 => Φ 0 v' μ2) := fun g => ⟨rfl, c_by (fun h1 h2 => by rw [hr.1.1 3 (by decide)] at h2; exact absurd (hi.mp ⟨h1, h2⟩) g) (fun _ => K _ _ h' rfl)⟩
  have K1 : (∃ n, n ≤ B 3 ∧ x1 = nI n - nI 1) → ((up2 μ.1 3 6 x1, μ.2) : Me).1 0 = μ.1 0 ∧ VI N 2 mX12_by [.ref 130, .int x1] (up2 μ.1 3 6 x1, μ.2) (fun v' μ2 => Φ 1 v' μ2) := by
    intro g
    have e3 : up2 μ.1 3 6 x1 131 3 = nI (B 3) := by rw [up2_a (by decide)]; exact hr.1.1 3 (by decide)
    try refine And.intro (by first | rfl | exact hA 0 (by decide) | exact b3 0 (by decide) | exact b2 0 (by decide) | exact a1 0 (by decide) | exact a1 0 (by omega) | exact a3 0 (by decide) (by decide) | simp (disch := omega) only [up2_ne]) ?_
    refine c_by (fun _ _ => ?_) (fun k => ?_)
    · obtain ⟨n, hn1, he⟩ := g
      refine K _ _ (IV.court (B2 := ub B 4 n) (I1 := up2 μ.1 3 6 x1) hw hc hr (WB_by hw.1 hn1) (ub_n (by omega)) (fun a _ ha => up2_ne (fun e => ha (e ▸ by decide))) ?_ (fun a _ ha => up2_ne ha) ?_) ?_
      · obtain ⟨c1, c2, c3, c4, c5⟩ := hc.1
        unfold CB
        simp (disch := omega) only [up2_ne]
        refine ⟨?_, cRoll_ub c2 (by decide) (fun i hi => by omega), cRow_ub c3 (by decide) (fun i hi => by omega), cRow_ub c4 (by decide) (fun i hi => by omega), cRow_ub c5 (by decide) (fun i hi => by omega)⟩
        unfold cHd at *
        rw [ub_e, ub_n (by decide), ub_n (by decide), up2_c, up2_b (by decide), up2_b (by decide)]
        exact ⟨c1.1, c1.2.1, he⟩
      · refine rowB_4 ?_ he
        simp (disch := omega) only [up2_ne]
        exact hr.1
      · simp (disch := omega) only [up2_ne]
    · exfalso
      apply k
      show _ ∧ _ ≤ up2 μ.1 3 6 x1 131 3 - 1
      rw [e3]
      exact hi.mpr g
  have ht := hc.1.t1
  refine tX11_by_0 ⟨fun e => ⟨_, rfl, K1 ⟨0, by omega, e⟩⟩, fun e1 => ⟨fun e => ⟨_, rfl, K0 ?_⟩, fun e2 => ⟨fun e3 => ⟨_, rfl, K1 ?_⟩, fun e3 => ⟨_, rfl, K0 ?_⟩⟩⟩⟩
  · rintro ⟨n, hn1, rfl⟩
    rcases Nat.eq_zero_or_pos n with rfl | h0
    · exact e1 rfl
    · rw [pk_sub h0] at e
      exact nI_pos (by omega) e
  · rw [ht] at e3
    obtain ⟨j, hj, rfl⟩ := nI_of e2
    rw [nI_ltI hj (by omega)] at e3
    exact ⟨j + 1, by omega, by rw [pk_sub (by omega), Nat.add_sub_cancel]⟩
  · rintro ⟨n, hn1, rfl⟩
    rcases Nat.eq_zero_or_pos n with rfl | h0
    · exact e1 rfl
    · rw [ht, pk_sub h0] at e3
      exact e3 (nI_lt (by omega) (by omega))
end SE
