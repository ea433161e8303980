/-! the class's reader: its small calls -/
section CP
variable {N : Nat} {bt : Nat → Nat} {tn m : Nat} {μ : Me} {Ψ : Int32 → Me → Prop} {Φ : Me → Prop} {k f : Nat} {L : Cd}
theorem c_pass {x : Nat} (hx : x < 132) (hx2 : x ≠ 21) (h : CKt bt tn m k L μ.1) (h1 : kT bt tn k = x → ∀ I, CFr μ.1 I → CKt bt tn m (k + 1) L I → Φ (I, μ.2)) (h0 : ¬ kT bt tn k = x → ∀ I, CFr μ.1 I → CF bt tn m 1 k I → Φ (I, μ.2)) : VU N 2 mX6_pass [.ref 51, .int (nI x)] μ Φ := by
  have hb := kT_lt h.1.2.2.1 k
  refine tX6_pass_0 (c_sort h ?_)
  rw [h.2.2.1]
  simp (disch := omega) only [lit, Nat.add_sub_cancel, Nat.not_lt_zero, ↓m1_mI, nI_add, pk_mul, nx_and, nx_or, and31, sh_r, sh_1, nx_nand, Nat.and_one_is_mod, nI_clamp, nI_leI, nI_ltI, nI_eq, tb_1, vp_t, up2_a, up2_b, up2_c, br_1, br_0, true_and, and_true, mI_ne, mI_ne', mI_lt, mI_le, mI_nle, mI_nlt, pk_sub, mI_sub]
  refine ⟨fun g => ?_, fun g => ?_⟩
  · exact h1 g _ (CFr.at (by omega)) (h.nx (by omega))
  · exact c_fail (f := 1) h (by decide) (by decide) (fun I q1 q2 => h0 g I q1 q2)
theorem c_passF {x : Nat} (hx : x < 132) (hx2 : x ≠ 21) (h : CF bt tn m f k μ.1) (K : Φ μ) : VU N 2 mX6_pass [.ref 51, .int (nI x)] μ Φ := by
  refine tX6_pass_0 (c_sortF h ?_)
  simp (disch := omega) only [lit, Nat.add_sub_cancel, Nat.not_lt_zero, ↓m1_mI, nI_add, pk_mul, nx_and, nx_or, and31, sh_r, sh_1, nx_nand, Nat.and_one_is_mod, nI_clamp, nI_leI, nI_ltI, nI_eq, tb_1, vp_t, up2_a, up2_b, up2_c, br_1, br_0, true_and, and_true, mI_ne, mI_ne', mI_lt, mI_le, mI_nle, mI_nlt, pk_sub, mI_sub, eq_false (show ¬ 21 = x by omega)]
  exact c_failF h K
/-- number: in range, else a fault -/
theorem c_number {lo : Nat} {hi : Int32} (hlo : lo < 2 ^ 31) (h : CKt bt tn m k L μ.1) (h1 : kT bt tn k = 20 → lo ≤ kV bt tn k → nI (kV bt tn k) ≤ hi → ∀ I, CFr μ.1 I → CKt bt tn m (k + 1) L I → Ψ (nI (kV bt tn k)) (I, μ.2)) (h2 : kT bt tn k = 20 → ¬ (lo ≤ kV bt tn k ∧ nI (kV bt tn k) ≤ hi) → ∀ I, CFr μ.1 I → CF bt tn m 2 k I → Ψ (nI lo) (I, μ.2)) (h0 : ¬ kT bt tn k = 20 → ∀ I, CFr μ.1 I → CF bt tn m 1 k I → Ψ (nI lo) (I, μ.2)) : VI N 2 mX6_number [.ref 51, .int (nI lo), .int hi] μ Ψ := by
  have hb := kT_lt h.1.2.2.1 k
  have hv := kV_le (bt := bt) (tn := tn) k
  refine tX6_number_0 (c_valt h (fun v ev => c_sort h ?_))
  by_cases g : kT bt tn k = 20
  · rw [ev (by omega), h.2.2.1]
    simp (disch := omega) only [lit, Nat.add_sub_cancel, Nat.not_lt_zero, ↓m1_mI, nI_add, pk_mul, nx_and, nx_or, and31, sh_r, sh_1, nx_nand, Nat.and_one_is_mod, nI_clamp, nI_leI, nI_ltI, nI_eq, tb_1, vp_t, up2_a, up2_b, up2_c, br_1, br_0, true_and, and_true, mI_ne, mI_ne', mI_lt, mI_le, mI_nle, mI_nlt, pk_sub, mI_sub, eq_true g]
    refine ⟨fun g1 => ?_, fun g1 => ⟨fun g2 => ?_, fun g2 => ?_⟩⟩
    · exact c_fail (f := 2) h (by decide) (by decide) (fun I q1 q2 => ⟨_, rfl, h2 g (fun q => by omega) I q1 q2⟩)
    · exact ⟨_, rfl, h1 g (by omega) g2 _ (CFr.at (by omega)) (h.nx (by omega))⟩
    · exact c_fail (f := 2) h (by decide) (by decide) (fun I q1 q2 => ⟨_, rfl, h2 g (fun q => g2 q.2) I q1 q2⟩)
  · simp (disch := omega) only [lit, Nat.add_sub_cancel, Nat.not_lt_zero, ↓m1_mI, nI_add, pk_mul, nx_and, nx_or, and31, sh_r, sh_1, nx_nand, Nat.and_one_is_mod, nI_clamp, nI_leI, nI_ltI, nI_eq, tb_1, vp_t, up2_a, up2_b, up2_c, br_1, br_0, true_and, and_true, mI_ne, mI_ne', mI_lt, mI_le, mI_nle, mI_nlt, pk_sub, mI_sub, eq_false g]
    exact c_fail (f := 1) h (by decide) (by decide) (fun I q1 q2 => ⟨_, rfl, h0 g I q1 q2⟩)
theorem c_numberF {lo hi : Int32} (h : CF bt tn m f k μ.1) (K : Ψ lo μ) : VI N 2 mX6_number [.ref 51, .int lo, .int hi] μ Ψ := by
  refine tX6_number_0 (c_valtF h (fun v => c_sortF h ?_))
  simp (disch := omega) only [lit, Nat.add_sub_cancel, Nat.not_lt_zero, ↓m1_mI, nI_add, pk_mul, nx_and, nx_or, and31, sh_r, sh_1, nx_nand, Nat.and_one_is_mod, nI_clamp, nI_leI, nI_ltI, nI_eq, tb_1, vp_t, up2_a, up2_b, up2_c, br_1, br_0, true_and, and_true, mI_ne, mI_ne', mI_lt, mI_le, mI_nle, mI_nlt, pk_sub, mI_sub, eq_false (show ¬ (21 : Nat) = 20 by decide)]
  exact c_failF h ⟨_, rfl, K⟩
theorem c_emit {o v : Nat} (h : CKt bt tn m k L μ.1) (hl : L.length < 300) (K : ∀ I, CFr μ.1 I → CKt bt tn m k (L ++ [(o, v)]) I → Φ (I, μ.2)) : VU N 1 mX5_emit [.ref 57, .int (nI (cit o v))] μ Φ := by
  obtain ⟨tm, hk, h5, h3, hc1, hc2, hc3, hc4⟩ := h
  refine tX5_emit_0 ?_
  rw [hc2]
  simp (disch := omega) only [lit, Nat.add_sub_cancel, Nat.not_lt_zero, ↓m1_mI, nI_add, pk_mul, nx_and, nx_or, and31, sh_r, sh_1, nx_nand, Nat.and_one_is_mod, nI_clamp, nI_leI, nI_ltI, nI_eq, tb_1, vp_t, up2_a, up2_b, up2_c, br_1, br_0, true_and, and_true, mI_ne, mI_ne', mI_lt, mI_le, mI_nle, mI_nlt, pk_sub, mI_sub, eq_false (show ¬ 300 ≤ L.length by omega)]
  have fr : CFr μ.1 (up2 (up2 μ.1 58 L.length (nI (cit o v))) 57 0 (nI (L.length + 1))) := CFr.em
  refine K _ fr ⟨tm.cf fr, hk, ?_, ?_, ?_, ?_, fun i hi => ?_, ?_⟩
  · rw [up2_a (by decide), up2_a (by decide)]; exact h5
  · rw [up2_a (by decide), up2_a (by decide)]; exact h3
  · rw [List.length_append]; exact hl
  · rw [up2_c, List.length_append]; rfl
  · rw [List.length_append] at hi
    have hi : i < L.length + 1 := hi
    rw [up2_a (by decide)]
    by_cases e : i = L.length
    · subst e
      rw [up2_c, itm_eq]
    · rw [up2_b e, itm_lt (by omega)]
      exact hc3 i (by omega)
  · rw [up2_a (by decide), up2_a (by decide)]; exact hc4
theorem c_emitF {x : Int32} (h : CF bt tn m f k μ.1) (K : ∀ I, CFr μ.1 I → CF bt tn m f k I → Φ (I, μ.2)) : VU N 1 mX5_emit [.ref 57, .int x] μ Φ := by
  obtain ⟨tm, hk, f1, f6, h5, h3, h4, n, hn, h0⟩ := h
  refine tX5_emit_0 ?_
  rw [h0]
  by_cases g : n < 300
  · simp (disch := omega) only [lit, Nat.add_sub_cancel, Nat.not_lt_zero, ↓m1_mI, nI_add, pk_mul, nx_and, nx_or, and31, sh_r, sh_1, nx_nand, Nat.and_one_is_mod, nI_clamp, nI_leI, nI_ltI, nI_eq, tb_1, vp_t, up2_a, up2_b, up2_c, br_1, br_0, true_and, and_true, mI_ne, mI_ne', mI_lt, mI_le, mI_nle, mI_nlt, pk_sub, mI_sub, eq_false (show ¬ 300 ≤ n by omega)]
    have fr : CFr μ.1 (up2 (up2 μ.1 58 n x) 57 0 (nI (n + 1))) := CFr.em
    refine K _ fr ⟨tm.cf fr, hk, f1, f6, ?_, ?_, ?_, n + 1, by omega, up2_c⟩
    · rw [up2_a (by decide), up2_a (by decide)]; exact h5
    · rw [up2_a (by decide), up2_a (by decide)]; exact h3
    · rw [up2_a (by decide), up2_a (by decide)]; exact h4
  · simp (disch := omega) only [lit, Nat.add_sub_cancel, Nat.not_lt_zero, ↓m1_mI, nI_add, pk_mul, nx_and, nx_or, and31, sh_r, sh_1, nx_nand, Nat.and_one_is_mod, nI_clamp, nI_leI, nI_ltI, nI_eq, tb_1, vp_t, up2_a, up2_b, up2_c, br_1, br_0, true_and, and_true, mI_ne, mI_ne', mI_lt, mI_le, mI_nle, mI_nlt, pk_sub, mI_sub, eq_true (show 300 ≤ n by omega)]
    exact K _ CFr.rf ⟨tm, hk, f1, f6, h5, h3, h4, n, hn, h0⟩
theorem c_comp {x : Nat} (hx : x < 132) {Ψ : Int32 → Me → Prop} (h1 : (x = 60 ∨ x = 62 ∨ x = 61 ∨ x = 35 ∨ x = 130 ∨ x = 131) → Ψ 1 μ) (h0 : ¬ (x = 60 ∨ x = 62 ∨ x = 61 ∨ x = 35 ∨ x = 130 ∨ x = 131) → Ψ 0 μ) : VI N 1 mX6_compares [.int (nI x)] μ Ψ := by
  refine tX6_compares_0 ?_
  simp (disch := omega) only [lit, Nat.add_sub_cancel, Nat.not_lt_zero, ↓m1_mI, nI_add, pk_mul, nx_and, nx_or, and31, sh_r, sh_1, nx_nand, Nat.and_one_is_mod, nI_clamp, nI_leI, nI_ltI, nI_eq, tb_1, vp_t, up2_a, up2_b, up2_c, br_1, br_0, true_and, and_true, mI_ne, mI_ne', mI_lt, mI_le, mI_nle, mI_nlt, pk_sub, mI_sub]
  refine ⟨fun g => ⟨_, rfl, h1 (by omega)⟩, fun g1 => ⟨fun g => ⟨_, rfl, h1 (by omega)⟩, fun g2 => ⟨fun g => ⟨_, rfl, h1 (by omega)⟩, fun g3 => ⟨fun g => ⟨_, rfl, h1 (by omega)⟩, fun g4 => ⟨fun g => ⟨_, rfl, h1 (by omega)⟩, fun g5 => ⟨fun g => ⟨_, rfl, h1 (by omega)⟩, fun g6 => ⟨_, rfl, h0 (by omega)⟩⟩⟩⟩⟩⟩⟩
theorem c_forg {x fee : Nat} (hx : x < 132) (hf : fee ≤ 1) (hI : μ.1 51 6 = nI fee) {Ψ : Int32 → Me → Prop} (h1 : fgn fee x → Ψ 1 μ) (h0 : ¬ fgn fee x → Ψ 0 μ) : VI N 1 mX6_isForeign [.ref 51, .int (nI x)] μ Ψ := by
  unfold fgn at h1 h0
  have e17 : ∀ b : Nat, b ≤ 1 → (b = 1 ↔ (x = 16 ∨ x = 17)) → VB N 1 mX6_isForeign 17 [.ref 51, .int (nI x)] [.int (nI b)] μ (fun r μ' => ∃ v, r = some (.int v) ∧ Ψ v μ') := by
    intro b hb1 hb
    refine tX6_isForeign_17 ?_
    rw [hI]
    by_cases g : fee = 1
    · rw [if_pos g] at h1 h0
      simp (disch := omega) only [lit, Nat.add_sub_cancel, Nat.not_lt_zero, ↓m1_mI, nI_add, pk_mul, nx_and, nx_or, and31, sh_r, sh_1, nx_nand, Nat.and_one_is_mod, nI_clamp, nI_leI, nI_ltI, nI_eq, tb_1, vp_t, up2_a, up2_b, up2_c, br_1, br_0, true_and, and_true, mI_ne, mI_ne', mI_lt, mI_le, mI_nle, mI_nlt, pk_sub, mI_sub, eq_false (show ¬ fee = 0 by omega)]
      exact ⟨fun q => ⟨_, rfl, h1 q⟩, fun q => ⟨_, rfl, h0 q⟩⟩
    · rw [if_neg g] at h1 h0
      simp (disch := omega) only [lit, Nat.add_sub_cancel, Nat.not_lt_zero, ↓m1_mI, nI_add, pk_mul, nx_and, nx_or, and31, sh_r, sh_1, nx_nand, Nat.and_one_is_mod, nI_clamp, nI_leI, nI_ltI, nI_eq, tb_1, vp_t, up2_a, up2_b, up2_c, br_1, br_0, true_and, and_true, mI_ne, mI_ne', mI_lt, mI_le, mI_nle, mI_nlt, pk_sub, mI_sub, eq_true (show fee = 0 by omega)]
      have hcase : b = 0 ∨ b = 1 := by omega
      rcases hcase with e | e
      · subst e
        exact ⟨Or.inl rfl, _, rfl, h0 (fun q => absurd (hb.mpr q) (by decide))⟩
      · subst e
        exact ⟨Or.inr rfl, _, rfl, h1 (hb.mp rfl)⟩
  refine tX6_isForeign_0 ?_
  simp (disch := omega) only [lit, Nat.add_sub_cancel, Nat.not_lt_zero, ↓m1_mI, nI_add, pk_mul, nx_and, nx_or, and31, sh_r, sh_1, nx_nand, Nat.and_one_is_mod, nI_clamp, nI_leI, nI_ltI, nI_eq, tb_1, vp_t, up2_a, up2_b, up2_c, br_1, br_0, true_and, and_true, mI_ne, mI_ne', mI_lt, mI_le, mI_nle, mI_nlt, pk_sub, mI_sub]
  refine ⟨fun g => tX6_isForeign_12 (e17 1 (by decide) ⟨fun _ => Or.inl g, fun _ => rfl⟩), fun g1 => ⟨fun g => tX6_isForeign_12 (e17 1 (by decide) ⟨fun _ => Or.inr g, fun _ => rfl⟩), fun g2 => e17 0 (by decide) ⟨fun q => absurd q (by decide), fun q => absurd q (by omega)⟩⟩⟩
end CP
