/-! the day: the class's seats and rows -/
section DS_
variable {N : Nat} {μ : Me} {B T : Nat → Nat} {v : Nat}
def sq (B : Nat → Nat) (w : Nat) : Nat := cnt w (fun u => !stk B u)
theorem sq_t {w : Nat} (h : ¬ B (10 + 5 * w + 4) = 1) : sq B (w + 1) = sq B w + 1 := (cnt_t (p := fun u => !stk B u) (by rw [eq_false_of_ne_true (fun z => h (stk_iff.mp z))]; rfl)).symm
theorem sq_f {w : Nat} (h : B (10 + 5 * w + 4) = 1) : sq B (w + 1) = sq B w := (cnt_f (p := fun u => !stk B u) (by rw [stk_iff.mpr h]; decide)).symm
theorem sq_mono (B : Nat → Nat) {i j : Nat} (h : i ≤ j) : sq B i ≤ sq B j := by
  induction j with
  | zero => have : i = 0 := by omega
            subst this; exact Nat.le_refl _
  | succ j ih =>
    by_cases e : i = j + 1
    · subst e; exact Nat.le_refl _
    · have h1 := ih (by omega)
      by_cases q : B (10 + 5 * j + 4) = 1
      · rw [sq_f q]; exact h1
      · rw [sq_t q]; omega
theorem sq_inj {i j : Nat} (hi : ¬ B (10 + 5 * i + 4) = 1) (hj : ¬ B (10 + 5 * j + 4) = 1) (h : sq B i = sq B j) : i = j := by
  rcases Nat.lt_trichotomy i j with q | q | q
  · have := sq_mono B (show i + 1 ≤ j from q)
    rw [sq_t hi] at this
    omega
  · exact q
  · have := sq_mono B (show j + 1 ≤ i from q)
    rw [sq_t hj] at this
    omega
theorem sq_ex (B : Nat → Nat) : ∀ (n s : Nat), s < sq B n → ∃ w, w < n ∧ ¬ B (10 + 5 * w + 4) = 1 ∧ sq B w = s := by
  intro n
  induction n with
  | zero => intro s h; exact absurd h (Nat.not_lt_zero _)
  | succ n ih =>
    intro s h
    by_cases q : B (10 + 5 * n + 4) = 1
    · rw [sq_f q] at h
      obtain ⟨w, h1, h2⟩ := ih s h
      exact ⟨w, by omega, h2⟩
    · rw [sq_t q] at h
      by_cases e : s = sq B n
      · exact ⟨n, by omega, q, e.symm⟩
      · obtain ⟨w, h1, h2⟩ := ih s (by omega)
        exact ⟨w, by omega, h2⟩
/-- the class's seats -/
def seatI (B T : Nat → Nat) (i : Nat) (I : Nat → Nat → Int32) : Prop := I 75 0 = nI (sq B i) ∧ ∀ w, w < i → ¬ B (10 + 5 * w + 4) = 1 → I 76 (sq B w) = nI w ∧ ∀ mn, mn < 6 → I 77 (sq B w * 6 + mn) = nI (feeP B T w mn)
def scD : List Nat := [82, 50, 96, 107, 118, 129, 75, 76, 77]
theorem c_seatFree {Ψ : Me → Prop} (hC : CB B 3 μ.1) (hW : WB B) (hL : LW T (lwB B) μ.1) (wT : WT T) (h6 : nfr B ≤ 6) (K : ∀ μ' : Me, Ag scD μ.1 μ'.1 → seatI B T (B 0) μ'.1 → Ψ μ') : VU N 5 mX11_seatFree [.ref 2] μ Ψ := by
  have hn := hW.n
  have h5 := lwB_5 hW
  have sC : ∀ ν : Me, Ag scD μ.1 ν.1 → CB B 3 ν.1 := fun ν h => hC.fr (fun a k1 k2 => h a (by simp [scD]; omega))
  have sL : ∀ ν : Me, Ag scD μ.1 ν.1 → LW T (lwB B) ν.1 := fun ν h => hL.fr (fun a k1 k2 => h a (by unfold isL5 at h5; simp [scD]; omega))
  refine tX11_seatFree_0 ?_
  refine vb_for (N := N) (d := 5) (M := mX11_seatFree) (hd := 10) (τ := Me) (fun i _ => [.ref 2, .int (nI i)]) (fun _ ν => ν) (B 0) (fun i ν => Ag scD μ.1 ν.1 ∧ seatI B T i ν.1) ?_ ?_ 0 _ (Nat.zero_le _) ⟨Ag.rf.up (by decide), by simp only [up2_c]; rfl, fun w hw => by omega⟩
  · intro i ν hi ⟨hA, hs0, hs1⟩ K'
    have hC1 := sC ν hA
    have g1 : ¬ B 0 ≤ i := by omega
    have hsi : sq B (i + 1) ≤ 6 := Nat.le_trans (sq_mono B (show i + 1 ≤ B 0 from hi)) h6
    refine tX11_seatFree_10 ?_
    simp (disch := omega) only [lit, Nat.add_sub_cancel, Nat.not_lt_zero, ↓m1_mI, nI_add, pk_mul, nx_and, nx_or, and31, sh_r, sh_1, nx_nand, Nat.and_one_is_mod, nI_clamp, nI_leI, nI_ltI, nI_eq, tb_1, vp_t, up2_a, up2_b, up2_c, br_1, br_0, true_and, and_true, mI_ne, mI_ne', mI_lt, mI_le, mI_nle, mI_nlt, pk_sub, mI_sub, hC1.k0, eq_false g1]
    refine vi_b (fun Ψ => c_isX hC1 hW hi) (fun q => K' ν ⟨hA, by rw [sq_f q]; exact hs0, fun w hw hw2 => ?_⟩) (fun q => ?_)
    · by_cases ew : w = i
      · subst ew; exact absurd q hw2
      · exact hs1 w (by omega) hw2
    · have hst := sq_t q
      have g6 : ¬ 6 ≤ sq B i := by omega
      simp (disch := omega) only [lit, Nat.add_sub_cancel, Nat.not_lt_zero, ↓m1_mI, nI_add, pk_mul, nx_and, nx_or, and31, sh_r, sh_1, nx_nand, Nat.and_one_is_mod, nI_clamp, nI_leI, nI_ltI, nI_eq, tb_1, vp_t, up2_a, up2_b, up2_c, br_1, br_0, true_and, and_true, mI_ne, mI_ne', mI_lt, mI_le, mI_nle, mI_nlt, pk_sub, mI_sub, hs0, eq_false g6]
      refine vb_for (N := N) (d := 5) (M := mX11_seatFree) (hd := 64) (τ := Me) (fun j _ => [.ref 2, .int (nI i), .int (nI (sq B i)), .int (nI j)]) (fun _ ν => ν) 6 (fun j ξ => Ag scD μ.1 ξ.1 ∧ (∀ w, w < i → ¬ B (10 + 5 * w + 4) = 1 → ξ.1 76 (sq B w) = nI w ∧ ∀ mn, mn < 6 → ξ.1 77 (sq B w * 6 + mn) = nI (feeP B T w mn)) ∧ ξ.1 76 (sq B i) = nI i ∧ ∀ mn, mn < j → ξ.1 77 (sq B i * 6 + mn) = nI (feeP B T i mn)) ?_ ?_ 0 _ (by omega) ⟨hA.up (by decide), fun w hw hw2 => ?_, by simp only [up2_c], fun mn hmn => by omega⟩
      · intro j ξ hj ⟨hA2, p1, p2, p3⟩ K2
        have g2 : ¬ 6 ≤ j := by omega
        refine tX11_seatFree_64 ?_
        simp (disch := omega) only [lit, Nat.add_sub_cancel, Nat.not_lt_zero, ↓m1_mI, nI_add, pk_mul, nx_and, nx_or, and31, sh_r, sh_1, nx_nand, Nat.and_one_is_mod, nI_clamp, nI_leI, nI_ltI, nI_eq, tb_1, vp_t, up2_a, up2_b, up2_c, br_1, br_0, true_and, and_true, mI_ne, mI_ne', mI_lt, mI_le, mI_nle, mI_nlt, pk_sub, mI_sub, eq_false g2]
        refine c_feeNow (sC ξ hA2) hW (sL ξ hA2) wT hi (by omega) (fun μ2 a2 => ?_)
        have e76 : μ2.1 76 = ξ.1 76 := a2 76 (by decide)
        have e77 : μ2.1 77 = ξ.1 77 := a2 77 (by decide)
        refine K2 _ ⟨(hA2.tr (a2.mono (by decide))).up (by decide), fun w hw hw2 => ⟨?_, fun mn hmn => ?_⟩, ?_, fun mn hmn => ?_⟩
        · simp (disch := omega) only [up2_a]
          rw [e76]
          exact (p1 w hw hw2).1
        · have hlt : sq B w + 1 ≤ sq B i := by rw [← sq_t hw2]; exact sq_mono B hw
          simp (disch := omega) only [up2_b]
          rw [e77]
          exact (p1 w hw hw2).2 mn hmn
        · simp (disch := omega) only [up2_a]
          rw [e76]
          exact p2
        · by_cases em : mn = j
          · subst em
            simp only [up2_c]
          · simp (disch := omega) only [up2_b]
            rw [e77]
            exact p3 mn (by omega)
      · intro ξ ⟨hA2, p1, p2, p3⟩
        refine tX11_seatFree_64 ?_
        simp (disch := omega) only [lit, Nat.add_sub_cancel, Nat.not_lt_zero, ↓m1_mI, nI_add, pk_mul, nx_and, nx_or, and31, sh_r, sh_1, nx_nand, Nat.and_one_is_mod, nI_clamp, nI_leI, nI_ltI, nI_eq, tb_1, vp_t, up2_a, up2_b, up2_c, br_1, br_0, true_and, and_true, mI_ne, mI_ne', mI_lt, mI_le, mI_nle, mI_nlt, pk_sub, mI_sub, Nat.le_refl]
        refine K' _ ⟨hA2.up (by decide), ?_, fun w hw hw2 => ?_⟩
        · simp only [up2_c]
          rw [hst]
        · simp (disch := omega) only [up2_a]
          by_cases ew : w = i
          · subst ew; exact ⟨p2, p3⟩
          · exact p1 w (by omega) hw2
      · have hlt : sq B w + 1 ≤ sq B i := by rw [← sq_t hw2]; exact sq_mono B hw
        refine ⟨?_, fun mn hmn => ?_⟩
        · simp (disch := omega) only [up2_b]
          exact (hs1 w hw hw2).1
        · simp (disch := omega) only [up2_a]
          exact (hs1 w hw hw2).2 mn hmn
  · intro ν ⟨hA, hs⟩
    have hC1 := sC ν hA
    refine tX11_seatFree_10 ?_
    simp (disch := omega) only [lit, Nat.add_sub_cancel, Nat.not_lt_zero, ↓m1_mI, nI_add, pk_mul, nx_and, nx_or, and31, sh_r, sh_1, nx_nand, Nat.and_one_is_mod, nI_clamp, nI_leI, nI_ltI, nI_eq, tb_1, vp_t, up2_a, up2_b, up2_c, br_1, br_0, true_and, and_true, mI_ne, mI_ne', mI_lt, mI_le, mI_nle, mI_nlt, pk_sub, mI_sub, hC1.k0, Nat.le_refl]
    exact K ν hA hs
/-- a set of seats as witnesses -/
def wS (B : Nat → Nat) (h : Nat) : Nat := bits (B 0) (fun w => !stk B w && h.testBit (sq B w))
theorem wS_tb {h w : Nat} (hw : w < B 0) : (wS B h).testBit w = true ↔ ¬ B (10 + 5 * w + 4) = 1 ∧ h.testBit (sq B w) = true := by
  unfold wS
  rw [bits_tb, decide_eq_true hw, Bool.true_and, Bool.and_eq_true]
  constructor
  · rintro ⟨q1, q2⟩
    refine ⟨fun z => ?_, q2⟩
    rw [stk_iff.mpr z] at q1
    cases q1
  · rintro ⟨q1, q2⟩
    rw [eq_false_of_ne_true (fun z => q1 (stk_iff.mp z))]
    exact ⟨rfl, q2⟩
theorem c_witOf {h : Nat} {Ψ : Int32 → Me → Prop} (hW : WB B) (h6 : nfr B ≤ 6) (hs : seatI B T (B 0) μ.1) (hh : h < 64) (K : Ψ (nI (wS B h)) μ) : VI N 1 mX2_witnessesOf [.ref 75, .int (nI h)] μ Ψ := by
  have hn := hW.n
  have hm : sq B (B 0) ≤ 6 := h6
  have r75 := hs.1
  refine tX2_witnessesOf_0 ?_
  have e0 : (0 : Nat) = bits (B 0) (fun w => !stk B w && (h.testBit (sq B w) && decide (sq B w < 0))) := by
    apply Nat.eq_of_testBit_eq
    intro i
    rw [Nat.zero_testBit, bits_tb]
    simp
  have Z := vb_up (N := N) (d := 1) (M := mX2_witnessesOf) (hd := 4) (Ψ := fun r μ' => ∃ v, r = some (.int v) ∧ Ψ v μ') (fun i => [.ref 75, .int (nI h), .int (nI (bits (B 0) (fun w => !stk B w && (h.testBit (sq B w) && decide (sq B w < i))))), .int (nI i)]) (fun _ => μ) (sq B (B 0)) (fun i hi Kn => ?_) ?_
  · rw [← e0] at Z
    exact Z
  · have g1 : ¬ sq B (B 0) ≤ i := by omega
    have g2 : ¬ 6 ≤ i := by omega
    obtain ⟨w, hw1, hw2, hw3⟩ := sq_ex B (B 0) i hi
    have r76 := (hs.2 w hw1 hw2).1
    rw [hw3] at r76
    have hbl := lt31 (bits_lt (B 0) (fun w => !stk B w && (h.testBit (sq B w) && decide (sq B w < i)))) (by omega)
    refine tX2_witnessesOf_4 ?_
    simp (disch := omega) only [lit, Nat.add_sub_cancel, Nat.not_lt_zero, ↓m1_mI, nI_add, pk_mul, nx_and, nx_or, and31, sh_r, sh_1, nx_nand, Nat.and_one_is_mod, nI_clamp, nI_leI, nI_ltI, nI_eq, tb_1, vp_t, up2_a, up2_b, up2_c, br_1, br_0, true_and, and_true, mI_ne, mI_ne', mI_lt, mI_le, mI_nle, mI_nlt, pk_sub, mI_sub, r75, eq_false g1, eq_false g2]
    refine ⟨fun q => ?_, fun q => ?_⟩
    · simp (disch := omega) only [lit, Nat.add_sub_cancel, Nat.not_lt_zero, ↓m1_mI, nI_add, pk_mul, nx_and, nx_or, and31, sh_r, sh_1, nx_nand, Nat.and_one_is_mod, nI_clamp, nI_leI, nI_ltI, nI_eq, tb_1, vp_t, up2_a, up2_b, up2_c, br_1, br_0, true_and, and_true, mI_ne, mI_ne', mI_lt, mI_le, mI_nle, mI_nlt, pk_sub, mI_sub, r76]
      have e1 : bits (B 0) (fun w => !stk B w && (h.testBit (sq B w) && decide (sq B w < i))) ||| 2 ^ w = bits (B 0) (fun w => !stk B w && (h.testBit (sq B w) && decide (sq B w < i + 1))) := by
        apply Nat.eq_of_testBit_eq
        intro u
        rw [Nat.testBit_or, bits_tb, bits_tb, Nat.testBit_two_pow]
        by_cases eu : w = u
        · subst eu
          rw [hw3, q, decide_eq_true hw1, eq_false_of_ne_true (fun z => hw2 (stk_iff.mp z))]
          simp
        · by_cases su : stk B u = true
          · rw [su]; simp [eu]
          · have su' : ¬ B (10 + 5 * u + 4) = 1 := fun z => su (stk_iff.mpr z)
            have : (sq B u < i + 1) = (sq B u < i) := by
              apply propext
              constructor
              · intro z
                have : sq B u ≠ i := fun y => eu (sq_inj hw2 su' (by rw [hw3, y]))
                omega
              · intro z; omega
            simp [eu, this]
      rw [e1]
      exact Kn
    · have e1 : bits (B 0) (fun w => !stk B w && (h.testBit (sq B w) && decide (sq B w < i))) = bits (B 0) (fun w => !stk B w && (h.testBit (sq B w) && decide (sq B w < i + 1))) := by
        apply bits_ext
        intro u _
        by_cases eu : sq B u = i
        · rw [eu, eq_false_of_ne_true q]
          simp
        · have : (sq B u < i + 1) = (sq B u < i) := by apply propext; omega
          simp [this]
      rw [e1]
      exact Kn
  · refine tX2_witnessesOf_4 ?_
    simp (disch := omega) only [lit, Nat.add_sub_cancel, Nat.not_lt_zero, ↓m1_mI, nI_add, pk_mul, nx_and, nx_or, and31, sh_r, sh_1, nx_nand, Nat.and_one_is_mod, nI_clamp, nI_leI, nI_ltI, nI_eq, tb_1, vp_t, up2_a, up2_b, up2_c, br_1, br_0, true_and, and_true, mI_ne, mI_ne', mI_lt, mI_le, mI_nle, mI_nlt, pk_sub, mI_sub, r75, Nat.le_refl]
    have e1 : bits (B 0) (fun w => !stk B w && (h.testBit (sq B w) && decide (sq B w < sq B (B 0)))) = wS B h := by
      apply bits_ext
      intro u hu
      by_cases su : stk B u = true
      · rw [su]; rfl
      · have := sq_mono B (show u + 1 ≤ B 0 from hu)
        rw [sq_t (fun z => su (stk_iff.mpr z))] at this
        rw [decide_eq_true (show sq B u < sq B (B 0) by omega), Bool.and_true]
    rw [e1]
    exact ⟨_, rfl, K⟩
/-! rows of three -/
def ro (h t : Nat) : Nat := sprN 6 h + 2 * sprN 6 (ndN t h)
def dcH (r i : Nat) : Bool := r / 3 ^ i % 3 == 1
def dcT (r i : Nat) : Bool := r / 3 ^ i % 3 == 2
theorem spr_lt : ∀ b, b < 64 → sprN 6 b ≤ 364 := by decide +kernel
theorem and63 {k : Nat} (h : k < 64) : k &&& 63 = k := by
  rw [show (63 : Nat) = 2 ^ 6 - 1 from rfl, Nat.and_two_pow_sub_one_eq_mod, Nat.mod_eq_of_lt h]
theorem c_rowOf {h t : Nat} {Ψ : Int32 → Me → Prop} (h78 : ∀ b, b < 64 → μ.1 78 b = nI (sprN 6 b)) (hh : h < 64) (ht : t < 64) (K : Ψ (nI (ro h t)) μ) : VI N 1 mX2_rowOf [.ref 75, .int (nI h), .int (nI t)] μ Ψ := by
  have hnd : ndN t h < 64 := ndN_le t h (n := 6) ht
  have r1 := h78 h hh
  have r2 := h78 _ hnd
  refine tX2_rowOf_0 ?_
  simp (disch := omega) only [lit, Nat.add_sub_cancel, Nat.not_lt_zero, ↓m1_mI, nI_add, pk_mul, nx_and, nx_or, and31, sh_r, sh_1, nx_nand, Nat.and_one_is_mod, nI_clamp, nI_leI, nI_ltI, nI_eq, tb_1, vp_t, up2_a, up2_b, up2_c, br_1, br_0, true_and, and_true, mI_ne, mI_ne', mI_lt, mI_le, mI_nle, mI_nlt, pk_sub, mI_sub, and63, r1, r2]
  exact ⟨_, rfl, K⟩
end DS_
