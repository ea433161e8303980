/-! the class splits its tape -/
section SP
variable {N : Nat} {μ : Me} {bt : Nat → Nat} {tn : Nat}
section
variable {Ψ : Int32 → Me → Prop} {i : Nat}
theorem numC_le : ∀ n i a, a ≤ 10000 → numC bt n i a ≤ 10000 := by
  intro n
  induction n with
  | zero => intro i a h; exact h
  | succ n ih => intro i a h; exact ih (i + 1) _ (Nat.min_le_right _ _)
theorem c_num (h : cTp bt tn μ.1) {e : Nat} (hi : i ≤ 300) (he : e ≤ tn) (hd : ∀ j, i ≤ j → j < e → tkD (bt j) = true) (K : Ψ (nI (numC bt (e - i) i 0)) μ) : VI N 1 mX10_numberOf [.ref 52, .int (nI i), .int (nI e)] μ Ψ := by
  obtain ⟨h0, hb, ht, hv⟩ := h
  have loop : ∀ n j a, e - j = n → i ≤ j → j ≤ 300 → a ≤ 10000 → Ψ (nI (numC bt n j a)) μ → VB N 1 mX10_numberOf 5 [.ref 52, .null, .int (nI e), .int (nI a), .int (nI j)] [] μ (fun r μ' => ∃ v, r = some (.int v) ∧ Ψ v μ') := by
    intro n
    induction n with
    | zero =>
      intro j a h1 h2 h4 h3 K
      refine tX10_numberOf_5 ⟨fun _ => ⟨_, rfl, K⟩, fun g => absurd (i_le.mpr ?_) g⟩
      rw [nI_toInt (by omega), nI_toInt (by omega)]
      omega
    | succ n ih =>
      intro j a h1 h2 h4 h3 K
      have hj : j < e := by omega
      have hbj := hb j (by omega)
      have hdj := hd j h2 hj
      have hdj : 48 ≤ bt j ∧ bt j ≤ 57 := by unfold tkD at hdj; simpa using hdj
      refine tX10_numberOf_5 ?_
      simp (disch := omega) only [lit, Nat.add_sub_cancel, Nat.not_lt_zero, ↓m1_mI, nI_add, pk_mul, nx_and, nx_or, and31, sh_r, sh_1, nx_nand, Nat.and_one_is_mod, nI_clamp, nI_leI, nI_ltI, nI_eq, tb_1, vp_t, up2_a, up2_b, up2_c, br_1, br_0, true_and, and_true, mI_ne, mI_ne', mI_lt, mI_le, mI_nle, mI_nlt, pk_sub, mI_sub, hbj, eq_false (show ¬ e ≤ j by omega)]
      refine Eq.mp ?_ (ih (j + 1) (min (a * 10 + bt j - 48) 10000) (by omega) (by omega) (by omega) (Nat.min_le_right _ _) K)
      by_cases g : 10000 < a * 10 + bt j - 48
      · rw [if_pos g, Nat.min_eq_right (by omega)]
      · rw [if_neg g, Nat.min_eq_left (by omega)]
  refine tX10_numberOf_0 ?_
  exact loop _ i 0 rfl (Nat.le_refl _) hi (by omega) K
theorem rn_all {p : Nat → Bool} : ∀ n i, tn - i = n → ∀ j, i ≤ j → j < rn p bt tn i → p (bt j) = true := by
  intro n
  induction n with
  | zero => intro i h1 j h2 h3; rw [rn_no (by omega)] at h3; omega
  | succ n ih =>
    intro i h1 j h2 h3
    by_cases h : i < tn ∧ p (bt i) = true
    · rw [rn_go h.1 h.2] at h3
      by_cases e : j = i
      · rw [e]; exact h.2
      · exact ih (i + 1) (by omega) j (by omega) h3
    · rw [rn_no h] at h3; omega
theorem tE_D (hd : tkD (bt i) = true) : tE bt tn i = rn tkD bt tn (i + 1) ∧ ¬ tkL (bt i) = true := by
  have h1 : 48 ≤ bt i ∧ bt i ≤ 57 := by unfold tkD at hd; simpa using hd
  have h2 : ¬ tkL (bt i) = true := by unfold tkL; simp; omega
  unfold tE
  rw [if_neg (by omega), if_neg h2, if_pos hd]
  exact ⟨rfl, h2⟩
theorem c_sortOf (h : cTp bt tn μ.1) (hi : i < tn) {k : Nat} (hk : μ.1 52 1 = nI k) (hk2 : k < 301) (K1 : ¬ tkD (bt i) = true → Ψ (nI (tSo bt tn i)) μ) (K2 : tkD (bt i) = true → Ψ (nI (tSo bt tn i)) (up2 μ.1 55 k (nI (tVa bt tn i)), μ.2)) : VI N 7 mX10_sortOf [.ref 52, .int (nI i), .int (nI (tE bt tn i))] μ Ψ := by
  have h' := h
  obtain ⟨h0, hb, ht, hv⟩ := h'
  have hbi := hb i hi
  have hvi := hv i hi
  have ⟨te1, te2⟩ := tE_le (bt := bt) hi
  refine tX10_sortOf_0 ?_
  simp (disch := omega) only [lit, Nat.add_sub_cancel, Nat.not_lt_zero, ↓m1_mI, nI_add, pk_mul, nx_and, nx_or, and31, sh_r, sh_1, nx_nand, Nat.and_one_is_mod, nI_clamp, nI_leI, nI_ltI, nI_eq, tb_1, vp_t, up2_a, up2_b, up2_c, br_1, br_0, true_and, and_true, mI_ne, mI_ne', mI_lt, mI_le, mI_nle, mI_nlt, pk_sub, mI_sub, hbi]
  refine vi_b (fun Ψ => c_isL (x := bt i) (by omega)) (fun q => ?_) (fun q => ?_)
  · have qd : ¬ tkD (bt i) = true := fun g => (tE_D (tn := tn) g).2 q
    refine c_wordOf (bt := bt) (fun j hj => hb j (by omega)) (fun j hj => hv j (by omega)) (by omega) (by omega) ⟨_, rfl, ?_⟩
    have := K1 qd
    unfold tSo at this
    rw [if_pos q] at this
    exact this
  · refine vi_b (fun Ψ => c_isD (x := bt i) (by omega)) (fun g => ?_) (fun g => ?_)
    · have := K2 g
      unfold tSo tVa at this
      rw [if_neg q, if_pos g, if_pos g] at this
      refine c_num h (by omega) te2 (fun j h1 h2 => ?_) ?_
      · by_cases e : j = i
        · rw [e]; exact g
        · exact rn_all (p := tkD) _ (i + 1) rfl j (by omega) (by rw [← (tE_D g).1]; exact h2)
      · simp (disch := omega) only [lit, Nat.add_sub_cancel, Nat.not_lt_zero, ↓m1_mI, nI_add, pk_mul, nx_and, nx_or, and31, sh_r, sh_1, nx_nand, Nat.and_one_is_mod, nI_clamp, nI_leI, nI_ltI, nI_eq, tb_1, vp_t, up2_a, up2_b, up2_c, br_1, br_0, true_and, and_true, mI_ne, mI_ne', mI_lt, mI_le, mI_nle, mI_nlt, pk_sub, mI_sub, hk]
        exact ⟨_, rfl, this⟩
    · have := K1 g
      unfold tSo at this
      rw [if_neg q, if_neg g] at this
      by_cases e2 : tE bt tn i - i = 2
      · rw [if_pos e2] at this
        simp (disch := omega) only [lit, Nat.add_sub_cancel, Nat.not_lt_zero, ↓m1_mI, nI_add, pk_mul, nx_and, nx_or, and31, sh_r, sh_1, nx_nand, Nat.and_one_is_mod, nI_clamp, nI_leI, nI_ltI, nI_eq, tb_1, vp_t, up2_a, up2_b, up2_c, br_1, br_0, true_and, and_true, mI_ne, mI_ne', mI_lt, mI_le, mI_nle, mI_nlt, pk_sub, mI_sub, eq_true e2]
        by_cases e6 : bt i = 60
        · rw [if_pos e6] at this
          simp (disch := omega) only [lit, Nat.add_sub_cancel, Nat.not_lt_zero, ↓m1_mI, nI_add, pk_mul, nx_and, nx_or, and31, sh_r, sh_1, nx_nand, Nat.and_one_is_mod, nI_clamp, nI_leI, nI_ltI, nI_eq, tb_1, vp_t, up2_a, up2_b, up2_c, br_1, br_0, true_and, and_true, mI_ne, mI_ne', mI_lt, mI_le, mI_nle, mI_nlt, pk_sub, mI_sub, eq_true e6]
          exact ⟨_, rfl, this⟩
        · rw [if_neg e6] at this
          simp (disch := omega) only [lit, Nat.add_sub_cancel, Nat.not_lt_zero, ↓m1_mI, nI_add, pk_mul, nx_and, nx_or, and31, sh_r, sh_1, nx_nand, Nat.and_one_is_mod, nI_clamp, nI_leI, nI_ltI, nI_eq, tb_1, vp_t, up2_a, up2_b, up2_c, br_1, br_0, true_and, and_true, mI_ne, mI_ne', mI_lt, mI_le, mI_nle, mI_nlt, pk_sub, mI_sub, eq_false e6]
          exact ⟨_, rfl, this⟩
      · rw [if_neg e2] at this
        simp (disch := omega) only [lit, Nat.add_sub_cancel, Nat.not_lt_zero, ↓m1_mI, nI_add, pk_mul, nx_and, nx_or, and31, sh_r, sh_1, nx_nand, Nat.and_one_is_mod, nI_clamp, nI_leI, nI_ltI, nI_eq, tb_1, vp_t, up2_a, up2_b, up2_c, br_1, br_0, true_and, and_true, mI_ne, mI_ne', mI_lt, mI_le, mI_nle, mI_nlt, pk_sub, mI_sub, eq_false e2]
        refine vi_b (fun Ψ => c_isSg (x := bt i) (by omega)) (fun g => ?_) (fun g => ?_)
        · rw [if_pos g] at this
          exact ⟨_, rfl, this⟩
        · rw [if_neg g] at this
          exact ⟨_, rfl, this⟩
end
/-- where token k begins -/
def tS (bt : Nat → Nat) (tn : Nat) : Nat → Nat
  | 0 => rn tkB bt tn 0
  | k + 1 => rn tkB bt tn (tE bt tn (tS bt tn k))
/-- the class's rows of tokens, up to k -/
def TL (bt : Nat → Nat) (tn k : Nat) (I : Nat → Nat → Int32) : Prop := ∀ q, q < k → tS bt tn q < tn ∧ I 56 q = nI (tS bt tn q) ∧ I 54 q = nI (tSo bt tn (tS bt tn q)) ∧ I 55 q = nI (tVa bt tn (tS bt tn q))
theorem mx_e {a b : Nat} (h : a ≤ b) (hb : b < 2 ^ 31) : (if nI a < nI b then nI b else nI a) = nI b := by
  by_cases e : a = b
  · subst e; exact ite_self _
  · rw [if_pos (by rw [i_lt, nI_toInt (by omega), nI_toInt hb]; omega)]
theorem cTp.fr {I I' : Nat → Nat → Int32} (h : cTp bt tn I) (h0 : I' 52 0 = I 52 0) (h1 : I' 53 = I 53) : cTp bt tn I' := by
  unfold cTp at *
  rw [h0, h1]
  exact h
theorem c_split {Φ : Me → Prop} (h : cTp bt tn μ.1) (K : ∀ (m : Nat) (I : Nat → Nat → Int32), Ag [52, 54, 55, 56] μ.1 I → cTp bt tn I → m ≤ tn → tS bt tn m = tn → TL bt tn m I → I 52 1 = nI m → I 54 m = nI 21 → I 56 m = nI tn → Φ (I, μ.2)) : VU N 8 mX10_split [.ref 52] μ Φ := by
  have ht := h.2.2.1
  have s0 : cTp bt tn (up2 μ.1 52 1 0) := h.fr (up2_b (show (0 : Nat) ≠ 1 by decide)) (up2_ne (show (53 : Nat) ≠ 52 by decide))
  have s1 : (up2 μ.1 52 1 0) 52 1 = nI 0 := up2_c
  refine tX10_split_0 ?_
  refine vb_wf (τ := Nat × Nat × (Nat → Nat → Int32)) (fun x => [.ref 52, .int (nI x.1)]) (fun x => (x.2.2, μ.2)) (fun x => tn - x.1) (fun x => x.1 ≤ tn ∧ x.2.1 ≤ x.1 ∧ rn tkB bt tn x.1 = tS bt tn x.2.1 ∧ Ag [52, 54, 55, 56] μ.1 x.2.2 ∧ cTp bt tn x.2.2 ∧ TL bt tn x.2.1 x.2.2 ∧ x.2.2 52 1 = nI x.2.1) ?_ (0, 0, up2 μ.1 52 1 0) ⟨Nat.zero_le _, Nat.le_refl _, rfl, Ag.rf.up (by decide), s0, fun q hq => absurd hq (Nat.not_lt_zero _), s1⟩
  rintro ⟨i, k, I⟩ ⟨i1, i2, i3, i4, i5, i6, i7⟩ ih
  simp only at i1 i2 i3 i4 i5 i6 i7 ih ⊢
  have i5' := i5
  obtain ⟨h0, hb, -, hv⟩ := i5'
  refine tX10_split_7 ?_
  by_cases g : i < tn
  · have hbi := hb i g
    have hvi := hv i g
    have ⟨te1, te2⟩ := tE_le (bt := bt) g
    simp (disch := omega) only [lit, Nat.add_sub_cancel, Nat.not_lt_zero, ↓m1_mI, nI_add, pk_mul, nx_and, nx_or, and31, sh_r, sh_1, nx_nand, Nat.and_one_is_mod, nI_clamp, nI_leI, nI_ltI, nI_eq, tb_1, vp_t, up2_a, up2_b, up2_c, br_1, br_0, true_and, and_true, mI_ne, mI_ne', mI_lt, mI_le, mI_nle, mI_nlt, pk_sub, mI_sub, h0, hbi, eq_false (show ¬ tn ≤ i by omega), eq_false (show ¬ 300 ≤ i by omega)]
    have blank : tkB (bt i) = true → VB N 8 mX10_split 7 [.ref 52, .int (nI (i + 1))] [] (I, μ.2) (fun r μ' => r = none ∧ Φ μ') := fun q => ih (i + 1, k, I) ⟨g, by simp only; omega, by rw [← i3, rn_go g q], i4, i5, i6, i7⟩ (by simp only; omega)
    refine ⟨fun e => blank (by unfold tkB; simp [e]), fun e1 => ⟨fun e => blank (by unfold tkB; simp [e]), fun e2 => ?_⟩⟩
    have hS : tS bt tn k = i := by rw [← i3, rn_no (by unfold tkB; simp; omega)]
    refine c_btok i5 g ?_
    rw [mx_e te1 (by omega)]
    simp (disch := omega) only [lit, Nat.add_sub_cancel, Nat.not_lt_zero, ↓m1_mI, nI_add, pk_mul, nx_and, nx_or, and31, sh_r, sh_1, nx_nand, Nat.and_one_is_mod, nI_clamp, nI_leI, nI_ltI, nI_eq, tb_1, vp_t, up2_a, up2_b, up2_c, br_1, br_0, true_and, and_true, mI_ne, mI_ne', mI_lt, mI_le, mI_nle, mI_nlt, pk_sub, mI_sub, i7]
    have nx : ∀ I' : Nat → Nat → Int32, Ag [55] (up2 (up2 I 56 k (nI i)) 55 k (nI 0)) I' → (∀ q, q ≠ k → I' 55 q = I 55 q) → I' 55 k = nI (tVa bt tn i) → VB N 8 mX10_split 7 [.ref 52, .int (nI (tE bt tn i))] [] (up2 (up2 I' 54 k (nI (tSo bt tn i))) 52 1 (I' 52 1 + nI 1), μ.2) (fun r μ' => r = none ∧ Φ μ') := by
      intro I' a1 a2 a3
      have b52 : I' 52 = I 52 := by rw [a1 52 (by decide), up2_ne (by decide), up2_ne (by decide)]
      have b56 : I' 56 = up2 I 56 k (nI i) 56 := by rw [a1 56 (by decide), up2_ne (by decide)]
      refine ih (tE bt tn i, k + 1, up2 (up2 I' 54 k (nI (tSo bt tn i))) 52 1 (I' 52 1 + nI 1)) ⟨te2, by simp only; omega, ?_, ?_, ?_, ?_, ?_⟩ (by simp only; omega)
      · simp only [tS]; rw [hS]
      · refine Ag.up (Ag.up (fun a ha => ?_) (by decide)) (by decide)
        simp only [List.mem_cons, List.not_mem_nil, or_false, not_or] at ha
        rw [a1 a (by simp; omega), up2_ne (by omega), up2_ne (by omega)]
        exact i4 a (by simp; omega)
      · refine i5.fr ?_ ?_
        · simp only [up2_b (show (0 : Nat) ≠ 1 by decide), up2_a (show (52 : Nat) ≠ 54 by decide), b52]
        · simp (disch := omega) only [up2_ne, a1 53 (by decide)]
      · intro q hq
        have hq : q < k + 1 := hq
        have c56 : up2 (up2 I' 54 k (nI (tSo bt tn i))) 52 1 (I' 52 1 + nI 1) 56 q = up2 I 56 k (nI i) 56 q := by rw [up2_ne (by decide), up2_ne (by decide), b56]
        have c55 : up2 (up2 I' 54 k (nI (tSo bt tn i))) 52 1 (I' 52 1 + nI 1) 55 q = I' 55 q := by rw [up2_ne (by decide), up2_ne (by decide)]
        have c54 : up2 (up2 I' 54 k (nI (tSo bt tn i))) 52 1 (I' 52 1 + nI 1) 54 q = up2 I' 54 k (nI (tSo bt tn i)) 54 q := by rw [up2_ne (by decide)]
        have d54 : I' 54 = I 54 := by rw [a1 54 (by decide), up2_ne (by decide), up2_ne (by decide)]
        simp only [c56, c55, c54]
        by_cases e : q = k
        · subst e
          rw [hS, up2_c, up2_c, a3]
          exact ⟨g, rfl, rfl, rfl⟩
        · rw [up2_b e, up2_b e, a2 q e, d54]
          exact i6 q (by omega)
      · simp only [up2_c, b52, i7, nI_add]
    refine c_sortOf (k := k) (i5.fr ?_ ?_) g ?_ (by omega) (fun q => ?_) (fun q => ?_)
    · simp only [up2_a (show (52 : Nat) ≠ 55 by decide), up2_a (show (52 : Nat) ≠ 56 by decide)]
    · simp (disch := omega) only [up2_ne]
    · simp only [up2_a (show (52 : Nat) ≠ 55 by decide), up2_a (show (52 : Nat) ≠ 56 by decide), i7]
    · refine nx _ Ag.rf (fun q' hq' => by simp (disch := omega) only [up2_b, up2_a]) ?_
      simp only [up2_c, tVa]
      rw [if_neg q]
    · refine nx _ (Ag.rf.up (by decide)) (fun q' hq' => by simp (disch := omega) only [up2_b, up2_a]) ?_
      simp only [up2_c]
  · have ie : i = tn := by omega
    have hS : tS bt tn k = tn := by rw [← i3, rn_no (by omega)]; exact ie
    simp (disch := omega) only [lit, Nat.add_sub_cancel, Nat.not_lt_zero, ↓m1_mI, nI_add, pk_mul, nx_and, nx_or, and31, sh_r, sh_1, nx_nand, Nat.and_one_is_mod, nI_clamp, nI_leI, nI_ltI, nI_eq, tb_1, vp_t, up2_a, up2_b, up2_c, br_1, br_0, true_and, and_true, mI_ne, mI_ne', mI_lt, mI_le, mI_nle, mI_nlt, pk_sub, mI_sub, h0, eq_true (show tn ≤ i by omega), i7]
    refine K k _ (Ag.up (Ag.up i4 (by decide)) (by decide)) (i5.fr ?_ ?_) (by omega) hS (fun q hq => ?_) ?_ ?_ ?_
    · simp (disch := omega) only [up2_ne]
    · simp (disch := omega) only [up2_ne]
    · have := i6 q hq
      have hq : q ≠ k := by omega
      simp (disch := omega) only [up2_a, up2_b]
      exact this
    · simp (disch := omega) only [up2_a, i7]
    · simp (disch := omega) only [up2_a, up2_c]
    · simp (disch := omega) only [up2_a, up2_c]
end SP
