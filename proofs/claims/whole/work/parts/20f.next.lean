/-! nextToken: a number -/
section RF
variable {N : Nat} {bt : Nat → Nat} {tn : Nat}
theorem r_num85 {Φ : Me → Prop} : ∀ n j a (μ : Me), tn - j = n → j ≤ tn → a < 1100000 → rTp bt tn μ.1 → μ.1 130 7 = nI j → μ.1 130 10 = nI a → (∀ I' : Nat → Nat → Int32, (∀ c, c ≠ 130 → I' c = μ.1 c) → (∀ b, b ≠ 7 → b ≠ 10 → I' 130 b = μ.1 130 b) → I' 130 7 = nI (rn tkD bt tn j) → I' 130 10 = nI (numR bt (rn tkD bt tn j - j) j a) → Φ (I', μ.2)) → VB N 3 mX12_nextToken 85 [.ref 130] [] μ (fun r μ' => r = none ∧ Φ μ') := by
  intro n
  induction n with
  | zero =>
    intro j a μ h1 h2 h3 h h7 h10 K
    have ht := h.2.2.1
    refine tX12_nextToken_85 ?_
    simp (disch := omega) only [lit, Nat.add_sub_cancel, Nat.not_lt_zero, ↓m1_mI, nI_add, pk_mul, nx_and, nx_or, and31, sh_r, sh_1, nx_nand, Nat.and_one_is_mod, nI_clamp, nI_leI, nI_ltI, nI_eq, tb_1, vp_t, up2_a, up2_b, up2_c, br_1, br_0, true_and, and_true, mI_ne, mI_ne', mI_lt, mI_le, mI_nle, mI_nlt, pk_sub, mI_sub, h7]
    refine r_byte h (by omega) (fun g => absurd g (by omega)) (fun _ => ?_)
    refine vi_b (fun Ψ => r_isD) (fun g => absurd g (rg_m (by decide))) (fun _ => ?_)
    rw [rn_no (by omega), Nat.sub_self] at K
    exact K μ.1 (fun _ _ => rfl) (fun _ _ _ => rfl) h7 h10
  | succ n ih =>
    intro j a μ h1 h2 h3 h h7 h10 K
    have ht := h.2.2.1
    have hj : j < tn := by omega
    have hv := h.2.2.2 j hj
    refine tX12_nextToken_85 ?_
    simp (disch := omega) only [lit, Nat.add_sub_cancel, Nat.not_lt_zero, ↓m1_mI, nI_add, pk_mul, nx_and, nx_or, and31, sh_r, sh_1, nx_nand, Nat.and_one_is_mod, nI_clamp, nI_leI, nI_ltI, nI_eq, tb_1, vp_t, up2_a, up2_b, up2_c, br_1, br_0, true_and, and_true, mI_ne, mI_ne', mI_lt, mI_le, mI_nle, mI_nlt, pk_sub, mI_sub, h7]
    refine r_byte h (by omega) (fun _ => ?_) (fun g => absurd hj g)
    refine vi_b (fun Ψ => r_isD) (fun g => ?_) (fun g => ?_)
    · have gd : tkD (bt j) = true := (rg_D (by omega)).mp g
      have hd : 48 ≤ bt j ∧ bt j ≤ 57 := by unfold tkD at gd; simpa using gd
      have hr := rn_le (p := tkD) (bt := bt) (tn := tn) _ (j + 1) rfl (by omega)
      have en : ∀ a, numR bt (rn tkD bt tn j - j) j a = numR bt (rn tkD bt tn (j + 1) - (j + 1)) (j + 1) (if a < 100000 then 10 * a + bt j - 48 else a) := by
        intro a
        rw [rn_go hj gd, show rn tkD bt tn (j + 1) - j = (rn tkD bt tn (j + 1) - (j + 1)) + 1 by omega]
        rfl
      rw [en, rn_go hj gd] at K
      by_cases ga : a < 100000
      · simp (disch := omega) only [lit, Nat.add_sub_cancel, Nat.not_lt_zero, ↓m1_mI, nI_add, pk_mul, nx_and, nx_or, and31, sh_r, sh_1, nx_nand, Nat.and_one_is_mod, nI_clamp, nI_leI, nI_ltI, nI_eq, tb_1, vp_t, up2_a, up2_b, up2_c, br_1, br_0, true_and, and_true, mI_ne, mI_ne', mI_lt, mI_le, mI_nle, mI_nlt, pk_sub, mI_sub, h10, h7, eq_false (show ¬ 100000 ≤ a by omega)]
        refine r_byte h (by omega) (fun _ => ?_) (fun g => absurd hj g)
        simp (disch := omega) only [lit, Nat.add_sub_cancel, Nat.not_lt_zero, ↓m1_mI, nI_add, pk_mul, nx_and, nx_or, and31, sh_r, sh_1, nx_nand, Nat.and_one_is_mod, nI_clamp, nI_leI, nI_ltI, nI_eq, tb_1, vp_t, up2_a, up2_b, up2_c, br_1, br_0, true_and, and_true, mI_ne, mI_ne', mI_lt, mI_le, mI_nle, mI_nlt, pk_sub, mI_sub, h7]
        refine ih (j + 1) (10 * a + bt j - 48) _ (by omega) (by omega) (by omega) (h.fr ?_ ?_) ?_ ?_ (fun I' b1 b2 b3 b4 => K I' (fun c hc => ?_) (fun b hb hb2 => ?_) b3 ?_)
        · simp (disch := omega) only [up2_b]
        · simp (disch := omega) only [up2_ne]
        · simp (disch := omega) only [up2_b, up2_c]
        · simp (disch := omega) only [up2_b, up2_c]
        · rw [b1 c hc]; simp (disch := omega) only [up2_ne]
        · rw [b2 b hb hb2]; simp (disch := omega) only [up2_b]
        · rw [b4, if_pos ga]
      · simp (disch := omega) only [lit, Nat.add_sub_cancel, Nat.not_lt_zero, ↓m1_mI, nI_add, pk_mul, nx_and, nx_or, and31, sh_r, sh_1, nx_nand, Nat.and_one_is_mod, nI_clamp, nI_leI, nI_ltI, nI_eq, tb_1, vp_t, up2_a, up2_b, up2_c, br_1, br_0, true_and, and_true, mI_ne, mI_ne', mI_lt, mI_le, mI_nle, mI_nlt, pk_sub, mI_sub, h10, h7, eq_true (show 100000 ≤ a by omega)]
        refine ih (j + 1) a _ (by omega) (by omega) (by omega) (h.fr ?_ ?_) ?_ ?_ (fun I' b1 b2 b3 b4 => K I' (fun c hc => ?_) (fun b hb hb2 => ?_) b3 ?_)
        · simp (disch := omega) only [up2_b]
        · simp (disch := omega) only [up2_ne]
        · simp (disch := omega) only [up2_b, up2_c]
        · simp (disch := omega) only [up2_b, h10]
        · rw [b1 c hc]; simp (disch := omega) only [up2_ne]
        · rw [b2 b hb hb2]; simp (disch := omega) only [up2_b]
        · rw [b4, if_neg ga]
    · have gd : ¬ tkD (bt j) = true := fun q => g ((rg_D (by omega)).mpr q)
      rw [rn_no (fun q => gd q.2), Nat.sub_self] at K
      exact K μ.1 (fun _ _ => rfl) (fun _ _ _ => rfl) h7 h10
end RF
