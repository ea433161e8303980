/-! the class splits its tape -/
section SP
variable {N : Nat} {μ : Me} {bt : Nat → Nat} {tn : Nat}
section
variable {Ψ : Int32 → Me → Prop} {i : Nat}
theorem numC_le : ∀ n i a, a ≤ 10000 → numC bt n i a ≤ 10000 := by
  intro n
  induction n with
  | zero => intro i a h; exact h
  | succ n ih => intro i a h; exact ih (i + 1) _ (Nat.min_le_right _ _)
theorem c_num (h : cTp bt tn μ.1) {e : Nat} (hi : i ≤ 300) (he : e ≤ tn) (hd : ∀ j, i ≤ j → j < e → tkD (bt j) = true) (K : Ψ (nI (numC bt (e - i) i 0)) μ) : VI N 1 mX10_numberOf [.ref 52, .int (nI i), .int (nI e)] μ Ψ := by
  obtain ⟨h0, hb, ht, hv⟩ := h
  have loop : ∀ n j a, e - j = n → i ≤ j → j ≤ 300 → a ≤ 10000 → Ψ (nI (numC bt n j a)) μ → VB N 1 mX10_numberOf 5 [.ref 52, .null, .int (nI e), .int (nI a), .int (nI j)] [] μ (fun r μ' => ∃ v, r = some (.int v) ∧ Ψ v μ') := by
    intro n
    induction n with
    | zero =>
      intro j a h1 h2 h4 h3 K
      refine tX10_numberOf_5 ⟨fun _ => ⟨_, rfl, K⟩, fun g => absurd (i_le.mpr ?_) g⟩
      rw [nI_toInt (by omega), nI_toInt (by omega)]
      omega
    | succ n ih =>
      intro j a h1 h2 h4 h3 K
      have hj : j < e := by omega
      have hbj := hb j (by omega)
      have hdj := hd j h2 hj
      have hdj : 48 ≤ bt j ∧ bt j ≤ 57 := by unfold tkD at hdj; simpa using hdj
      refine tX10_numberOf_5 ?_
      simp (disch := omega) only [lit, Nat.add_sub_cancel, Nat.not_lt_zero, ↓m1_mI, nI_add, pk_mul, nx_and, nx_or, and31, sh_r, sh_1, nx_nand, Nat.and_one_is_mod, nI_clamp, nI_leI, nI_ltI, nI_eq, tb_1, vp_t, up2_a, up2_b, up2_c, br_1, br_0, true_and, and_true, mI_ne, mI_ne', mI_lt, mI_le, mI_nle, mI_nlt, pk_sub, mI_sub, hbj, eq_false (show ¬ e ≤ j by omega)]
      refine Eq.mp ?_ (ih (j + 1) (min (a * 10 + bt j - 48) 10000) (by omega) (by omega) (by omega) (Nat.min_le_right _ _) K)
      by_cases g : 10000 < a * 10 + bt j - 48
      · rw [if_pos g, Nat.min_eq_right (by omega)]
      · rw [if_neg g, Nat.min_eq_left (by omega)]
  refine tX10_numberOf_0 ?_
  exact loop _ i 0 rfl (Nat.le_refl _) hi (by omega) K
end
end SP
