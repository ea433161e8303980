/-! nextToken -/
section RI
variable {N : Nat} {bt : Nat → Nat} {tn : Nat}
/-- the reference's number of the token at s -/
def rTok (bt : Nat → Nat) (tn s : Nat) : Nat := if s < tn then (if tkD (bt s) = true then 1 else if tkL (bt s) = true then 2 else if tE bt tn s - s = 2 then (if bt s = 60 then 4 else 5) else if tkS (bt s) = true then bt s else 3) else 0
/-- the reference stands at the token that begins at s -/
def RT (bt : Nat → Nat) (tn s : Nat) (μ : Me) : Prop := μ.1 130 8 = nI s ∧ μ.1 130 7 = nI (if s < tn then tE bt tn s else s) ∧ μ.1 130 9 = nI (rTok bt tn s) ∧ (s < tn → tkD (bt s) = true → μ.1 130 10 = nI (numR bt (tE bt tn s - s) s 0)) ∧ (s < tn → tkL (bt s) = true → (tE bt tn s - s ≤ 7 → μ.2 130 11 = lI (wvl bt s (tE bt tn s - s))) ∧ (¬ tE bt tn s - s ≤ 7 → μ.2 130 11 = lI 0))
theorem tE_L {i : Nat} (h : tkL (bt i) = true) : tE bt tn i = rn tkL bt tn (i + 1) ∧ ¬ tkD (bt i) = true := by
  have h1 : (97 ≤ bt i ∧ bt i ≤ 122) ∨ (65 ≤ bt i ∧ bt i ≤ 90) := by unfold tkL at h; simpa using h
  have h2 : ¬ tkD (bt i) = true := by unfold tkD; simp; omega
  unfold tE
  rw [if_neg (by omega), if_pos h]
  exact ⟨rfl, h2⟩
section
variable {Φ : Me → Prop}
/-- what nextToken may change -/
def Nx (μ μ' : Me) : Prop := (∀ c, c ≠ 130 → μ'.1 c = μ.1 c) ∧ ∀ b, b < 7 ∨ 10 < b → μ'.1 130 b = μ.1 130 b
theorem r_sign {μ : Me} {s : Nat} (h : rTp bt tn μ.1) (hs : s < tn) (hd : ¬ tkD (bt s) = true) (hl : ¬ tkL (bt s) = true) (h7 : μ.1 130 7 = nI (s + 1)) (h8 : μ.1 130 8 = nI s) (K : ∀ μ', Nx μ μ' → RT bt tn s μ' → Φ μ') : ∀ z : Nat, z = (if tkS (bt s) = true then bt s else 3) → VB N 3 mX12_nextToken 343 [.ref 130, .int (nI (bt s))] [.int (nI z), .ref 130] μ (fun r μ' => r = none ∧ Φ μ') := by
  intro z hz
  have ht := h.2.2.1
  have hv := h.2.2.2 s hs
  have plain : (bt s = 60 ∨ bt s = 62 → ¬ (s + 1 < tn ∧ bt (s + 1) = 61)) → Φ (up2 μ.1 130 9 (nI z), μ.2) := by
    intro g
    have e : tE bt tn s = s + 1 := by
      unfold tE
      by_cases q : bt s = 60 ∨ bt s = 62
      · rw [if_pos q, if_neg (g q)]
      · rw [if_neg q, if_neg hl, if_neg hd]
    refine K _ ⟨fun c hc => by simp (disch := omega) only [up2_ne], fun b hb => by simp (disch := omega) only [up2_b]⟩ ⟨?_, ?_, ?_, fun _ q => absurd q hd, fun _ q => absurd q hl⟩
    · simp (disch := omega) only [up2_b, h8]
    · rw [if_pos hs, e]; simp (disch := omega) only [up2_b, h7]
    · unfold rTok
      rw [if_pos hs, if_neg hd, if_neg hl, if_neg (by omega), ← hz]
      simp only [up2_c]
  have e358 : bt s = 60 ∨ bt s = 62 → VB N 3 mX12_nextToken 358 [.ref 130, .int (nI (bt s))] [] (up2 μ.1 130 9 (nI z), μ.2) (fun r μ' => r = none ∧ Φ μ') := by
    intro q
    have h' : rTp bt tn (up2 μ.1 130 9 (nI z)) := h.fr (up2_b (show (4 : Nat) ≠ 9 by decide)) (up2_ne (show (134 : Nat) ≠ 130 by decide))
    refine tX12_nextToken_358 ?_
    simp (disch := omega) only [lit, Nat.add_sub_cancel, Nat.not_lt_zero, ↓m1_mI, nI_add, pk_mul, nx_and, nx_or, and31, sh_r, sh_1, nx_nand, Nat.and_one_is_mod, nI_clamp, nI_leI, nI_ltI, nI_eq, tb_1, vp_t, up2_a, up2_b, up2_c, br_1, br_0, true_and, and_true, mI_ne, mI_ne', mI_lt, mI_le, mI_nle, mI_nlt, pk_sub, mI_sub, h7]
    refine r_byte h' (by omega) (fun g => ?_) (fun g => ?_)
    · have hv1 := h.2.2.2 (s + 1) g
      by_cases g2 : bt (s + 1) = 61
      · have e : tE bt tn s = s + 2 := by
          unfold tE
          rw [if_pos q, if_pos ⟨g, g2⟩]
        have fin : ∀ y : Nat, y = (if bt s = 60 then 4 else 5) → Φ (up2 (up2 (up2 μ.1 130 9 (nI z)) 130 7 (nI (s + 1 + 1))) 130 9 (nI y), μ.2) := by
          intro y hy
          refine K _ ⟨fun c hc => by simp (disch := omega) only [up2_ne], fun b hb => by simp (disch := omega) only [up2_b]⟩ ⟨?_, ?_, ?_, fun _ q => absurd q hd, fun _ q => absurd q hl⟩
          · simp (disch := omega) only [up2_b, h8]
          · rw [if_pos hs, e]; simp (disch := omega) only [up2_b, up2_c]
          · unfold rTok
            rw [if_pos hs, if_neg hd, if_neg hl, if_pos (by omega), ← hy]
            simp only [up2_c]
        simp (disch := omega) only [lit, Nat.add_sub_cancel, Nat.not_lt_zero, ↓m1_mI, nI_add, pk_mul, nx_and, nx_or, and31, sh_r, sh_1, nx_nand, Nat.and_one_is_mod, nI_clamp, nI_leI, nI_ltI, nI_eq, tb_1, vp_t, up2_a, up2_b, up2_c, br_1, br_0, true_and, and_true, mI_ne, mI_ne', mI_lt, mI_le, mI_nle, mI_nlt, pk_sub, mI_sub, eq_true g2, h7]
        refine ⟨fun g3 => fin 4 (by rw [if_pos g3]), fun g3 => fin 5 (by rw [if_neg g3])⟩
      · simp (disch := omega) only [lit, Nat.add_sub_cancel, Nat.not_lt_zero, ↓m1_mI, nI_add, pk_mul, nx_and, nx_or, and31, sh_r, sh_1, nx_nand, Nat.and_one_is_mod, nI_clamp, nI_leI, nI_ltI, nI_eq, tb_1, vp_t, up2_a, up2_b, up2_c, br_1, br_0, true_and, and_true, mI_ne, mI_ne', mI_lt, mI_le, mI_nle, mI_nlt, pk_sub, mI_sub, eq_false g2]
        exact plain (fun _ q => g2 q.2)
    · simp (disch := omega) only [lit, Nat.add_sub_cancel, Nat.not_lt_zero, ↓m1_mI, nI_add, pk_mul, nx_and, nx_or, and31, sh_r, sh_1, nx_nand, Nat.and_one_is_mod, nI_clamp, nI_leI, nI_ltI, nI_eq, tb_1, vp_t, up2_a, up2_b, up2_c, br_1, br_0, true_and, and_true, mI_ne, mI_ne', mI_lt, mI_le, mI_nle, mI_nlt, pk_sub, mI_sub]
      exact plain (fun _ q => g q.1)
  refine tX12_nextToken_343 ?_
  simp (disch := omega) only [lit, Nat.add_sub_cancel, Nat.not_lt_zero, ↓m1_mI, nI_add, pk_mul, nx_and, nx_or, and31, sh_r, sh_1, nx_nand, Nat.and_one_is_mod, nI_clamp, nI_leI, nI_ltI, nI_eq, tb_1, vp_t, up2_a, up2_b, up2_c, br_1, br_0, true_and, and_true, mI_ne, mI_ne', mI_lt, mI_le, mI_nle, mI_nlt, pk_sub, mI_sub]
  exact ⟨fun q => e358 (Or.inl q), fun q1 => ⟨fun q => e358 (Or.inr q), fun q2 => plain (fun q => absurd q (by omega))⟩⟩
end
end RI
