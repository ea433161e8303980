/-! tokens: where they begin and end, and what they are -/
section TK
variable {N : Nat} {μ : Me} {bt : Nat → Nat} {tn : Nat}
def tkL (c : Nat) : Bool := decide ((97 ≤ c ∧ c ≤ 122) ∨ (65 ≤ c ∧ c ≤ 90))
def tkD (c : Nat) : Bool := decide (48 ≤ c ∧ c ≤ 57)
def tkB (c : Nat) : Bool := decide (c = 32 ∨ c = 10)
def tkS (c : Nat) : Bool := decide (c = 35 ∨ (40 ≤ c ∧ c ≤ 45) ∨ c = 47 ∨ (59 ≤ c ∧ c ≤ 62))
def runE (p : Nat → Bool) (bt : Nat → Nat) (tn : Nat) : Nat → Nat → Nat
  | 0, i => i
  | n + 1, i => if i < tn ∧ p (bt i) = true then runE p bt tn n (i + 1) else i
def rn (p : Nat → Bool) (bt : Nat → Nat) (tn i : Nat) : Nat := runE p bt tn (tn - i) i
theorem rn_go {p : Nat → Bool} {i : Nat} (h : i < tn) (hp : p (bt i) = true) : rn p bt tn i = rn p bt tn (i + 1) := by
  unfold rn
  rw [show tn - i = (tn - (i + 1)) + 1 by omega, runE, if_pos ⟨h, hp⟩]
theorem rn_no {p : Nat → Bool} {i : Nat} (h : ¬ (i < tn ∧ p (bt i) = true)) : rn p bt tn i = i := by
  unfold rn
  cases tn - i with
  | zero => rfl
  | succ n => rw [runE, if_neg h]
theorem rn_le {p : Nat → Bool} : ∀ n i, tn - i = n → i ≤ tn → i ≤ rn p bt tn i ∧ rn p bt tn i ≤ tn := by
  intro n
  induction n with
  | zero => intro i h1 h2; rw [rn_no (by omega)]; omega
  | succ n ih =>
    intro i h1 h2
    by_cases h : i < tn ∧ p (bt i) = true
    · rw [rn_go h.1 h.2]
      have := ih (i + 1) (by omega) (by omega)
      omega
    · rw [rn_no h]; omega
theorem rn_at {p : Nat → Bool} : ∀ n i, tn - i = n → ¬ (rn p bt tn i < tn ∧ p (bt (rn p bt tn i)) = true) := by
  intro n
  induction n with
  | zero => intro i h1; rw [rn_no (by omega)]; omega
  | succ n ih =>
    intro i h1
    by_cases h : i < tn ∧ p (bt i) = true
    · rw [rn_go h.1 h.2]; exact ih (i + 1) (by omega)
    · rw [rn_no h]; exact h
/-- the end of the token at i -/
def tE (bt : Nat → Nat) (tn i : Nat) : Nat := if bt i = 60 ∨ bt i = 62 then (if i + 1 < tn ∧ bt (i + 1) = 61 then i + 2 else i + 1) else if tkL (bt i) = true then rn tkL bt tn (i + 1) else if tkD (bt i) = true then rn tkD bt tn (i + 1) else i + 1
theorem tE_le {i : Nat} (h : i < tn) : i + 1 ≤ tE bt tn i ∧ tE bt tn i ≤ tn := by
  have h1 := rn_le (p := tkL) (bt := bt) (tn := tn) _ (i + 1) rfl (by omega)
  have h2 := rn_le (p := tkD) (bt := bt) (tn := tn) _ (i + 1) rfl (by omega)
  unfold tE
  repeat' split
  all_goals omega
def numC (bt : Nat → Nat) : Nat → Nat → Nat → Nat
  | 0, _, a => a
  | n + 1, i, a => numC bt n (i + 1) (min (a * 10 + bt i - 48) 10000)
/-- the sort of the token at i, in the class's numbers -/
def tSo (bt : Nat → Nat) (tn i : Nat) : Nat := if tkL (bt i) = true then wordW bt i (tE bt tn i) else if tkD (bt i) = true then 20 else if tE bt tn i - i = 2 then (if bt i = 60 then 130 else 131) else if tkS (bt i) = true then bt i else 0
def tVa (bt : Nat → Nat) (tn i : Nat) : Nat := if tkD (bt i) = true then numC bt (tE bt tn i - i) i 0 else 0
section
variable {Ψ : Int32 → Me → Prop} {x : Nat}
theorem c_isL (hx : x < 2 ^ 31) (h1 : tkL x = true → Ψ 1 μ) (h0 : ¬ tkL x = true → Ψ 0 μ) : VI N 1 mX10_isLetter [.int (nI x)] μ Ψ := by
  have e12 : ¬ (97 ≤ x ∧ x ≤ 122) → VB N 1 mX10_isLetter 12 [.int (nI x)] [] μ (fun r μ' => ∃ v, r = some (.int v) ∧ Ψ v μ') := by
    intro h
    refine tX10_isLetter_12 ?_
    simp (disch := omega) only [lit, Nat.add_sub_cancel, Nat.not_lt_zero, ↓m1_mI, nI_add, pk_mul, nx_and, nx_or, and31, sh_r, sh_1, nx_nand, Nat.and_one_is_mod, nI_clamp, nI_leI, nI_ltI, nI_eq, tb_1, vp_t, up2_a, up2_b, up2_c, br_1, br_0, true_and, and_true, mI_ne, mI_ne', mI_lt, mI_le, mI_nle, mI_nlt, pk_sub, mI_sub]
    refine ⟨fun e => ⟨_, rfl, h0 ?_⟩, fun e => ⟨fun e2 => ⟨_, rfl, h0 ?_⟩, fun e2 => ⟨_, rfl, h1 ?_⟩⟩⟩
    · unfold tkL; simp; omega
    · unfold tkL; simp; omega
    · unfold tkL; simp; omega
  refine tX10_isLetter_0 ?_
  simp (disch := omega) only [lit, Nat.add_sub_cancel, Nat.not_lt_zero, ↓m1_mI, nI_add, pk_mul, nx_and, nx_or, and31, sh_r, sh_1, nx_nand, Nat.and_one_is_mod, nI_clamp, nI_leI, nI_ltI, nI_eq, tb_1, vp_t, up2_a, up2_b, up2_c, br_1, br_0, true_and, and_true, mI_ne, mI_ne', mI_lt, mI_le, mI_nle, mI_nlt, pk_sub, mI_sub]
  refine ⟨fun e => e12 (by omega), fun e => ⟨fun e2 => ⟨_, rfl, h1 ?_⟩, fun e2 => e12 (by omega)⟩⟩
  unfold tkL; simp; omega
theorem c_isD (hx : x < 2 ^ 31) (h1 : tkD x = true → Ψ 1 μ) (h0 : ¬ tkD x = true → Ψ 0 μ) : VI N 1 mX10_isDigit [.int (nI x)] μ Ψ := by
  refine tX10_isDigit_0 ?_
  simp (disch := omega) only [lit, Nat.add_sub_cancel, Nat.not_lt_zero, ↓m1_mI, nI_add, pk_mul, nx_and, nx_or, and31, sh_r, sh_1, nx_nand, Nat.and_one_is_mod, nI_clamp, nI_leI, nI_ltI, nI_eq, tb_1, vp_t, up2_a, up2_b, up2_c, br_1, br_0, true_and, and_true, mI_ne, mI_ne', mI_lt, mI_le, mI_nle, mI_nlt, pk_sub, mI_sub]
  refine ⟨fun e => ⟨_, rfl, h0 ?_⟩, fun e => ⟨fun e2 => ⟨_, rfl, h0 ?_⟩, fun e2 => ⟨_, rfl, h1 ?_⟩⟩⟩
  · unfold tkD; simp; omega
  · unfold tkD; simp; omega
  · unfold tkD; simp; omega
theorem c_isSg (hx : x < 2 ^ 31) (h1 : tkS x = true → Ψ 1 μ) (h0 : ¬ tkS x = true → Ψ 0 μ) : VI N 1 mX10_isSign [.int (nI x)] μ Ψ := by
  refine tX10_isSign_0 ?_
  rw [nI_toInt hx]
  simp (disch := omega) only [lit, Nat.add_sub_cancel, Nat.not_lt_zero, ↓m1_mI, nI_add, pk_mul, nx_and, nx_or, and31, sh_r, sh_1, nx_nand, Nat.and_one_is_mod, nI_clamp, nI_leI, nI_ltI, nI_eq, tb_1, vp_t, up2_a, up2_b, up2_c, br_1, br_0, true_and, and_true, mI_ne, mI_ne', mI_lt, mI_le, mI_nle, mI_nlt, pk_sub, mI_sub]
  refine ⟨?_, ?_, ?_, ?_, ?_, ?_, ?_, ?_, ?_, ?_, ?_, ?_, ?_, ?_, ?_, ?_, ?_, ?_, ?_, ?_, ?_, ?_, ?_, ?_, ?_, ?_, ?_, ?_, ?_⟩
  all_goals intro e
  all_goals first | exact ⟨_, rfl, h1 (by unfold tkS; simp; omega)⟩ | exact ⟨_, rfl, h0 (by unfold tkS; simp; omega)⟩
end
/-- the tape as the class holds it -/
def cTp (bt : Nat → Nat) (tn : Nat) (I : Nat → Nat → Int32) : Prop := I 52 0 = nI tn ∧ (∀ j, j < tn → I 53 j = nI (bt j)) ∧ tn ≤ 300 ∧ ∀ j, j < tn → bt j < 256
section
variable {Ψ : Int32 → Me → Prop} {i : Nat}
theorem c_btok (h : cTp bt tn μ.1) (hi : i < tn) (K : Ψ (nI (tE bt tn i)) μ) : VI N 2 mX10_behindToken [.ref 52, .int (nI i)] μ Ψ := by
  obtain ⟨h0, hb, ht, hv⟩ := h
  have hbi := hb i hi
  have hvi := hv i hi
  have e23 : bt i = 60 ∨ bt i = 62 → VB N 2 mX10_behindToken 23 [.ref 52, .null, .null, .int (nI (i + 1))] [] μ (fun r μ' => ∃ v, r = some (.int v) ∧ Ψ v μ') := by
    intro q
    unfold tE at K
    rw [if_pos q] at K
    refine tX10_behindToken_23 ?_
    by_cases g : i + 1 < tn
    · have hb1 := hb (i + 1) g
      have hv1 := hv (i + 1) g
      simp (disch := omega) only [lit, Nat.add_sub_cancel, Nat.not_lt_zero, ↓m1_mI, nI_add, pk_mul, nx_and, nx_or, and31, sh_r, sh_1, nx_nand, Nat.and_one_is_mod, nI_clamp, nI_leI, nI_ltI, nI_eq, tb_1, vp_t, up2_a, up2_b, up2_c, br_1, br_0, true_and, and_true, mI_ne, mI_ne', mI_lt, mI_le, mI_nle, mI_nlt, pk_sub, mI_sub, h0, hb1, eq_false (show ¬ tn ≤ i + 1 by omega)]
      by_cases g2 : bt (i + 1) = 61
      · simp (disch := omega) only [lit, Nat.add_sub_cancel, Nat.not_lt_zero, ↓m1_mI, nI_add, pk_mul, nx_and, nx_or, and31, sh_r, sh_1, nx_nand, Nat.and_one_is_mod, nI_clamp, nI_leI, nI_ltI, nI_eq, tb_1, vp_t, up2_a, up2_b, up2_c, br_1, br_0, true_and, and_true, mI_ne, mI_ne', mI_lt, mI_le, mI_nle, mI_nlt, pk_sub, mI_sub, eq_true g2]
        rw [if_pos ⟨g, g2⟩] at K
        exact ⟨_, rfl, K⟩
      · simp (disch := omega) only [lit, Nat.add_sub_cancel, Nat.not_lt_zero, ↓m1_mI, nI_add, pk_mul, nx_and, nx_or, and31, sh_r, sh_1, nx_nand, Nat.and_one_is_mod, nI_clamp, nI_leI, nI_ltI, nI_eq, tb_1, vp_t, up2_a, up2_b, up2_c, br_1, br_0, true_and, and_true, mI_ne, mI_ne', mI_lt, mI_le, mI_nle, mI_nlt, pk_sub, mI_sub, eq_false g2]
        rw [if_neg (fun q => g2 q.2)] at K
        exact ⟨_, rfl, K⟩
    · simp (disch := omega) only [lit, Nat.add_sub_cancel, Nat.not_lt_zero, ↓m1_mI, nI_add, pk_mul, nx_and, nx_or, and31, sh_r, sh_1, nx_nand, Nat.and_one_is_mod, nI_clamp, nI_leI, nI_ltI, nI_eq, tb_1, vp_t, up2_a, up2_b, up2_c, br_1, br_0, true_and, and_true, mI_ne, mI_ne', mI_lt, mI_le, mI_nle, mI_nlt, pk_sub, mI_sub, h0, eq_true (show tn ≤ i + 1 by omega)]
      rw [if_neg (fun q => g q.1)] at K
      exact ⟨_, rfl, K⟩
  refine tX10_behindToken_0 ?_
  simp (disch := omega) only [lit, Nat.add_sub_cancel, Nat.not_lt_zero, ↓m1_mI, nI_add, pk_mul, nx_and, nx_or, and31, sh_r, sh_1, nx_nand, Nat.and_one_is_mod, nI_clamp, nI_leI, nI_ltI, nI_eq, tb_1, vp_t, up2_a, up2_b, up2_c, br_1, br_0, true_and, and_true, mI_ne, mI_ne', mI_lt, mI_le, mI_nle, mI_nlt, pk_sub, mI_sub, hbi]
  refine ⟨fun q => e23 (Or.inl q), fun q1 => ⟨fun q => e23 (Or.inr q), fun q2 => ?_⟩⟩
  unfold tE at K
  rw [if_neg (by omega)] at K
  have loop : ∀ (b1 b2 : Bool) (p : Nat → Bool), (∀ c, p c = ((b1 && tkL c) || (b2 && tkD c))) → ∀ n j, tn - j = n → j ≤ tn → Ψ (nI (rn p bt tn j)) μ → VB N 2 mX10_behindToken 62 [.ref 52, .null, .null, .int (nI j), .int (wbI b1), .int (wbI b2)] [] μ (fun r μ' => ∃ v, r = some (.int v) ∧ Ψ v μ') := by
    intro b1 b2 p hp n
    induction n with
    | zero =>
      intro j h1 h2 K
      refine tX10_behindToken_62 ?_
      rw [rn_no (by omega)] at K
      simp (disch := omega) only [lit, Nat.add_sub_cancel, Nat.not_lt_zero, ↓m1_mI, nI_add, pk_mul, nx_and, nx_or, and31, sh_r, sh_1, nx_nand, Nat.and_one_is_mod, nI_clamp, nI_leI, nI_ltI, nI_eq, tb_1, vp_t, up2_a, up2_b, up2_c, br_1, br_0, true_and, and_true, mI_ne, mI_ne', mI_lt, mI_le, mI_nle, mI_nlt, pk_sub, mI_sub, h0, eq_true (show tn ≤ j by omega)]
      exact ⟨_, rfl, K⟩
    | succ n ih =>
      intro j h1 h2 K
      have hj : j < tn := by omega
      have hbj := hb j hj
      have hvj := hv j hj
      have hpj := hp (bt j)
      have e87 : (b1 && tkL (bt j)) = false → VB N 2 mX10_behindToken 87 [.ref 52, .null, .null, .int (nI j), .int (wbI b1), .int (wbI b2)] [] μ (fun r μ' => ∃ v, r = some (.int v) ∧ Ψ v μ') := by
        intro q
        rw [q, Bool.false_or] at hpj
        refine tX10_behindToken_87 ?_
        cases b2 with
        | false =>
          rw [rn_no (by rw [hpj]; simp)] at K
          exact ⟨fun _ => ⟨_, rfl, K⟩, fun g => absurd rfl g⟩
        | true =>
          refine ⟨fun g => absurd g (by decide), fun _ => ?_⟩
          simp (disch := omega) only [lit, Nat.add_sub_cancel, Nat.not_lt_zero, ↓m1_mI, nI_add, pk_mul, nx_and, nx_or, and31, sh_r, sh_1, nx_nand, Nat.and_one_is_mod, nI_clamp, nI_leI, nI_ltI, nI_eq, tb_1, vp_t, up2_a, up2_b, up2_c, br_1, br_0, true_and, and_true, mI_ne, mI_ne', mI_lt, mI_le, mI_nle, mI_nlt, pk_sub, mI_sub, hbj]
          refine vi_b (fun Ψ => c_isD (x := bt j) (by omega)) (fun g => ?_) (fun g => ?_)
          · rw [rn_go hj (by rw [hpj, g]; rfl)] at K
            exact ih (j + 1) (by omega) (by omega) K
          · rw [rn_no (by rw [hpj]; simp; simp at g; simp [g])] at K
            exact ⟨_, rfl, K⟩
      refine tX10_behindToken_62 ?_
      simp (disch := omega) only [lit, Nat.add_sub_cancel, Nat.not_lt_zero, ↓m1_mI, nI_add, pk_mul, nx_and, nx_or, and31, sh_r, sh_1, nx_nand, Nat.and_one_is_mod, nI_clamp, nI_leI, nI_ltI, nI_eq, tb_1, vp_t, up2_a, up2_b, up2_c, br_1, br_0, true_and, and_true, mI_ne, mI_ne', mI_lt, mI_le, mI_nle, mI_nlt, pk_sub, mI_sub, h0, eq_false (show ¬ tn ≤ j by omega), hbj]
      cases b1 with
      | false => exact ⟨fun _ => e87 rfl, fun g => absurd rfl g⟩
      | true =>
        refine ⟨fun g => absurd g (by decide), fun _ => ?_⟩
        refine vi_b (fun Ψ => c_isL (x := bt j) (by omega)) (fun g => ?_) (fun g => ?_)
        · rw [rn_go hj (by rw [hpj, g]; rfl)] at K
          exact ih (j + 1) (by omega) (by omega) K
        · exact e87 (by simp at g; simp [g])
  refine c_isL (by omega) (fun q3 => ?_) (fun q3 => ?_)
  · refine c_isD (by omega) (fun q4 => ?_) (fun q4 => ?_)
    · exfalso; unfold tkL at q3; unfold tkD at q4; simp at q3 q4; omega
    · rw [if_pos q3] at K
      exact loop true false tkL (fun c => by simp) _ (i + 1) rfl (by omega) K
  · rw [if_neg q3] at K
    refine c_isD (by omega) (fun q4 => ?_) (fun q4 => ?_)
    · rw [if_pos q4] at K
      exact loop false true tkD (fun c => by simp) _ (i + 1) rfl (by omega) K
    · rw [if_neg q4] at K
      refine loop false false (fun _ => false) (fun c => by simp) _ (i + 1) rfl (by omega) ?_
      rw [rn_no (by simp)]
      exact K
end
end TK
