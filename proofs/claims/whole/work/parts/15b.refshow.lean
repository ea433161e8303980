/-! the reference: evidence and what is shown -/
section RV
variable {N : Nat} {μ : Me} {B T : Nat → Nat} {b : Nat} {e : Nat → Nat}
def stk (B : Nat → Nat) (w : Nat) : Bool := decide (B (10 + 5 * w + 4) = 1)
def sn (B T : Nat → Nat) (w : Nat) : Nat := saysP B T w (B (10 + 5 * w + 1))
def eS (B T : Nat → Nat) (set n : Nat) : Nat → Nat := evN (fun w => set.testBit w && !stk B w) (sn B T) (fun w => B (10 + 5 * w + 2)) n
def eH (B : Nat → Nat) (k : Nat) : Nat → Nat := evN (fun i => !stk B (B (80 + 3 * i))) (fun i => B (80 + 3 * i + 1)) (fun i => B (10 + 5 * B (80 + 3 * i) + 2)) k
theorem stk_iff {w : Nat} : stk B w = true ↔ B (10 + 5 * w + 4) = 1 := by unfold stk; exact decide_eq_true_iff
theorem eS_9 (hW : WB B) {set n : Nat} (hn : n ≤ B 0) : ∀ f, eS B T set n f ≤ 9 := evN_9 (fun i hi => (hW.w (show i < B 0 by omega)).2.2.2.1)
theorem eH_9 (hW : WB B) {k : Nat} (hk : k ≤ B 5) : ∀ f, eH B k f ≤ 9 := evN_9 (fun i hi => (hW.w (hW.h (show i < B 5 by omega)).1).2.2.2.1)
theorem ad_0 {sg : Nat} : ad e 0 sg = e := by
  funext f
  unfold ad
  rw [if_neg (fun h => by rw [Nat.zero_testBit] at h; cases h.1)]
def rSay (B T : Nat → Nat) (I : Nat → Nat → Int32) : Prop := ∀ w, w < B 0 → I 141 w = nI (if stk B w = true then 0 else sn B T w)
theorem sn_lt (B T : Nat → Nat) (w : Nat) : sn B T w < 65536 := saysP_lt _ _ _ _
theorem r_ask {Ψ : Me → Prop} (hB : rowB B (μ.1 131)) (hW : WB B) (hT : RuL B T μ.1) (wT : WT T) (K : ∀ μ' : Me, Ag [136, 138, 141] μ.1 μ'.1 → rSay B T μ'.1 → Ψ μ') : VU N 6 mX12_ask [.ref 130] μ Ψ := by
  have hn := hW.n
  refine tX12_ask_0 ?_
  refine vb_for (N := N) (d := 6) (M := mX12_ask) (hd := 2) (τ := Me) (fun i _ => [.ref 130, .int (nI i)]) (fun _ ν => ν) (B 0) (fun i ν => Ag [136, 138, 141] μ.1 ν.1 ∧ ∀ w, w < i → ν.1 141 w = nI (if stk B w = true then 0 else sn B T w)) ?_ ?_ 0 μ (by omega) ⟨Ag.rf, fun w hw => absurd hw (Nat.not_lt_zero _)⟩
  · intro i ν hi ⟨hA, hS⟩ K'
    have hB1 : rowB B (ν.1 131) := by rw [hA 131 (by decide)]; exact hB
    have rB := hB1.1
    have g1 : ¬ B 0 ≤ i := by omega
    refine tX12_ask_2 ?_
    simp (disch := omega) only [lit, Nat.add_sub_cancel, Nat.not_lt_zero, ↓m1_mI, nI_add, pk_mul, nx_and, nx_or, and31, sh_r, sh_1, nx_nand, Nat.and_one_is_mod, nI_clamp, nI_leI, nI_ltI, nI_eq, tb_1, vp_t, up2_a, up2_b, up2_c, br_1, br_0, true_and, and_true, mI_ne, mI_ne', mI_lt, mI_le, mI_nle, mI_nlt, pk_sub, mI_sub, rB, eq_false g1]
    have nx : ∀ (ν' : Me) (x : Int32), Ag [136, 138] ν.1 ν'.1 → x = nI (if stk B i = true then 0 else sn B T i) → VB N 6 mX12_ask 2 [.ref 130, .int (nI (i + 1))] [] (up2 ν'.1 141 i x, ν'.2) (fun r μ' => r = none ∧ Ψ μ') := by
      intro ν' x q1 q2
      refine K' _ ⟨(hA.tr (q1.mono (by decide))).up (by decide), fun w hw => ?_⟩
      by_cases ew : w = i
      · subst ew
        simp only [up2_c]; exact q2
      · simp (disch := omega) only [up2_b]
        rw [q1 141 (by decide)]
        exact hS w (by omega)
    refine vi_b (fun Ψ => r_isX hB1 hW hi) (fun g => ?_) (fun g => ?_)
    · exact nx ν _ Ag.rf (by rw [if_pos (stk_iff.mpr g)])
    · refine r_saysNow hB1 hW (hT.fr (hA 133 (by decide))) wT hi (fun μ2 a2 => ?_)
      exact nx μ2 _ a2 (by rw [if_neg (fun h => g (stk_iff.mp h))]; rfl)
  · intro ν ⟨hA, hS⟩
    have rB : ν.1 131 0 = nI (B 0) := by rw [hA 131 (by decide)]; exact hB.1 0 (by decide)
    refine tX12_ask_2 ?_
    simp (disch := omega) only [lit, Nat.add_sub_cancel, Nat.not_lt_zero, ↓m1_mI, nI_add, pk_mul, nx_and, nx_or, and31, sh_r, sh_1, nx_nand, Nat.and_one_is_mod, nI_clamp, nI_leI, nI_ltI, nI_eq, tb_1, vp_t, up2_a, up2_b, up2_c, br_1, br_0, true_and, and_true, mI_ne, mI_ne', mI_lt, mI_le, mI_nle, mI_nlt, pk_sub, mI_sub, rB, Nat.le_refl]
    exact K ν hA hS
theorem r_adduce {w sd : Nat} {Ψ : Me → Prop} (hB : rowB B (μ.1 131)) (hW : WB B) (hw : w < B 0) (hs : sd < 65536) (he9 : ∀ f, e f ≤ 9) (he : ∀ f, f < 16 → μ.1 139 f = nI (e f)) (K : ∀ μ' : Me, Ag [139] μ.1 μ'.1 → (∀ f, f < 16 → μ'.1 139 f = nI (ad e sd (B (10 + 5 * w + 2)) f)) → Ψ μ') : VU N 2 mX12_adduce [.ref 130, .int (nI w), .int (nI sd)] μ Ψ := by
  have hn := hW.n
  have h1 := hW.w hw
  refine tX12_adduce_0 ?_
  refine vb_for (N := N) (d := 2) (M := mX12_adduce) (hd := 2) (τ := Me) (fun i _ => [.ref 130, .int (nI w), .int (nI sd), .int (nI i)]) (fun _ ν => ν) 16 (fun i ν => Ag [139] μ.1 ν.1 ∧ (∀ f, f < i → ν.1 139 f = nI (ad e sd (B (10 + 5 * w + 2)) f)) ∧ ∀ f, i ≤ f → f < 16 → ν.1 139 f = nI (e f)) ?_ ?_ 0 μ (by omega) ⟨Ag.rf, fun f hf => absurd hf (Nat.not_lt_zero _), fun f _ hf => he f hf⟩
  · intro i ν hi ⟨hA, h2, h3⟩ K'
    have hB1 : rowB B (ν.1 131) := by rw [hA 131 (by decide)]; exact hB
    have rB := hB1.1
    have g1 : ¬ 16 ≤ i := by omega
    have r9 := h3 i (Nat.le_refl _) hi
    have e9 := he9 i
    have nx : (ad e sd (B (10 + 5 * w + 2)) i = e i) → VB N 2 mX12_adduce 2 [.ref 130, .int (nI w), .int (nI sd), .int (nI (i + 1))] [] ν (fun r μ' => r = none ∧ Ψ μ') := by
      intro q
      refine K' ν ⟨hA, fun f hf => ?_, fun f hf => h3 f (by omega)⟩
      by_cases ef : f = i
      · subst ef; rw [q]; exact r9
      · exact h2 f (by omega)
    refine tX12_adduce_2 ?_
    simp (disch := omega) only [lit, Nat.add_sub_cancel, Nat.not_lt_zero, ↓m1_mI, nI_add, pk_mul, nx_and, nx_or, and31, sh_r, sh_1, nx_nand, Nat.and_one_is_mod, nI_clamp, nI_leI, nI_ltI, nI_eq, tb_1, vp_t, up2_a, up2_b, up2_c, br_1, br_0, true_and, and_true, mI_ne, mI_ne', mI_lt, mI_le, mI_nle, mI_nlt, pk_sub, mI_sub, eq_false g1]
    refine vi_b (fun Ψ => r_hasB (by omega) (by omega)) (fun g => ?_) (fun g => nx ?_)
    · simp (disch := omega) only [lit, Nat.add_sub_cancel, Nat.not_lt_zero, ↓m1_mI, nI_add, pk_mul, nx_and, nx_or, and31, sh_r, sh_1, nx_nand, Nat.and_one_is_mod, nI_clamp, nI_leI, nI_ltI, nI_eq, tb_1, vp_t, up2_a, up2_b, up2_c, br_1, br_0, true_and, and_true, mI_ne, mI_ne', mI_lt, mI_le, mI_nle, mI_nlt, pk_sub, mI_sub, rB, r9]
      refine ⟨fun q => nx ?_, fun q => ?_⟩
      · unfold ad; rw [if_neg (fun h => by omega)]
      · refine K' _ ⟨hA.up (by decide), fun f hf => ?_, fun f hf hf2 => ?_⟩
        · by_cases ef : f = i
          · subst ef
            simp only [up2_c]
            unfold ad
            rw [if_pos ⟨g, by omega⟩]
          · simp (disch := omega) only [up2_b]
            exact h2 f (by omega)
        · simp (disch := omega) only [up2_b]
          exact h3 f (by omega) hf2
    · unfold ad; rw [if_neg (fun h => g h.1)]
  · intro ν ⟨hA, h2, _⟩
    refine tX12_adduce_2 ?_
    simp (disch := omega) only [lit, Nat.add_sub_cancel, Nat.not_lt_zero, ↓m1_mI, nI_add, pk_mul, nx_and, nx_or, and31, sh_r, sh_1, nx_nand, Nat.and_one_is_mod, nI_clamp, nI_leI, nI_ltI, nI_eq, tb_1, vp_t, up2_a, up2_b, up2_c, br_1, br_0, true_and, and_true, mI_ne, mI_ne', mI_lt, mI_le, mI_nle, mI_nlt, pk_sub, mI_sub, Nat.le_refl]
    exact K ν hA h2
theorem r_clear {Ψ : Me → Prop} (K : ∀ μ' : Me, Ag [139] μ.1 μ'.1 → (∀ f, f < 16 → μ'.1 139 f = nI 0) → Ψ μ') : VU N 1 mX12_clear [.ref 130] μ Ψ := by
  refine tX12_clear_0 ?_
  refine vb_for (N := N) (d := 1) (M := mX12_clear) (hd := 2) (τ := Me) (fun i _ => [.ref 130, .int (nI i)]) (fun _ ν => ν) 16 (fun i ν => Ag [139] μ.1 ν.1 ∧ (∀ f, f < i → ν.1 139 f = nI 0)) ?_ ?_ 0 μ (by omega) ⟨Ag.rf, fun f hf => absurd hf (Nat.not_lt_zero _)⟩
  · intro i ν hi ⟨hA, h2⟩ K'
    have g1 : ¬ 16 ≤ i := by omega
    refine tX12_clear_2 ?_
    simp (disch := omega) only [lit, Nat.add_sub_cancel, Nat.not_lt_zero, ↓m1_mI, nI_add, pk_mul, nx_and, nx_or, and31, sh_r, sh_1, nx_nand, Nat.and_one_is_mod, nI_clamp, nI_leI, nI_ltI, nI_eq, tb_1, vp_t, up2_a, up2_b, up2_c, br_1, br_0, true_and, and_true, mI_ne, mI_ne', mI_lt, mI_le, mI_nle, mI_nlt, pk_sub, mI_sub, eq_false g1]
    refine K' _ ⟨hA.up (by decide), fun f hf => ?_⟩
    by_cases ef : f = i
    · subst ef; simp only [up2_c]
    · simp (disch := omega) only [up2_b]
      exact h2 f (by omega)
  · intro ν ⟨hA, h2⟩
    refine tX12_clear_2 ?_
    simp (disch := omega) only [lit, Nat.add_sub_cancel, Nat.not_lt_zero, ↓m1_mI, nI_add, pk_mul, nx_and, nx_or, and31, sh_r, sh_1, nx_nand, Nat.and_one_is_mod, nI_clamp, nI_leI, nI_ltI, nI_eq, tb_1, vp_t, up2_a, up2_b, up2_c, br_1, br_0, true_and, and_true, mI_ne, mI_ne', mI_lt, mI_le, mI_nle, mI_nlt, pk_sub, mI_sub, Nat.le_refl]
    exact K ν hA h2
theorem r_bySet {set : Nat} {Ψ : Me → Prop} (hB : rowB B (μ.1 131)) (hW : WB B) (hs : set < 2 ^ 31) (hS : rSay B T μ.1) (K : ∀ μ' : Me, Ag [139] μ.1 μ'.1 → (∀ f, f < 16 → μ'.1 139 f = nI (eS B T set (B 0) f)) → Ψ μ') : VU N 3 mX12_bySet [.ref 130, .int (nI set)] μ Ψ := by
  have hn := hW.n
  refine tX12_bySet_0 (r_clear (fun μ1 a1 d1 => ?_))
  refine vb_for (N := N) (d := 3) (M := mX12_bySet) (hd := 6) (τ := Me) (fun i _ => [.ref 130, .int (nI set), .int (nI i)]) (fun _ ν => ν) (B 0) (fun i ν => Ag [139] μ.1 ν.1 ∧ ∀ f, f < 16 → ν.1 139 f = nI (eS B T set i f)) ?_ ?_ 0 μ1 (by omega) ⟨a1, d1⟩
  · intro i ν hi ⟨hA, hE⟩ K'
    have hB1 : rowB B (ν.1 131) := by rw [hA 131 (by decide)]; exact hB
    have rB := hB1.1
    have g1 : ¬ B 0 ≤ i := by omega
    have e1 : eS B T set (i + 1) = if (set.testBit i && !stk B i) = true then ad (eS B T set i) (sn B T i) (B (10 + 5 * i + 2)) else eS B T set i := rfl
    have hSi : ν.1 141 i = nI (if stk B i = true then 0 else sn B T i) := by rw [hA 141 (by decide)]; exact hS i hi
    have hsn := sn_lt B T i
    refine tX12_bySet_6 ?_
    simp (disch := omega) only [lit, Nat.add_sub_cancel, Nat.not_lt_zero, ↓m1_mI, nI_add, pk_mul, nx_and, nx_or, and31, sh_r, sh_1, nx_nand, Nat.and_one_is_mod, nI_clamp, nI_leI, nI_ltI, nI_eq, tb_1, vp_t, up2_a, up2_b, up2_c, br_1, br_0, true_and, and_true, mI_ne, mI_ne', mI_lt, mI_le, mI_nle, mI_nlt, pk_sub, mI_sub, rB, eq_false g1]
    refine vi_b (fun Ψ => r_hasB hs (by omega)) (fun g => ?_) (fun g => K' ν ⟨hA, ?_⟩)
    · simp (disch := omega) only [lit, Nat.add_sub_cancel, Nat.not_lt_zero, ↓m1_mI, nI_add, pk_mul, nx_and, nx_or, and31, sh_r, sh_1, nx_nand, Nat.and_one_is_mod, nI_clamp, nI_leI, nI_ltI, nI_eq, tb_1, vp_t, up2_a, up2_b, up2_c, br_1, br_0, true_and, and_true, mI_ne, mI_ne', mI_lt, mI_le, mI_nle, mI_nlt, pk_sub, mI_sub, hSi]
      refine r_adduce (e := eS B T set i) hB1 hW hi (by split <;> omega) (eS_9 hW (by omega)) hE (fun μ4 a4 d4 => K' μ4 ⟨hA.tr a4, ?_⟩)
      rw [e1]
      cases hk : stk B i with
      | true =>
        rw [hk, if_pos rfl, ad_0] at d4
        rw [g]
        exact d4
      | false =>
        rw [hk, if_neg (by decide)] at d4
        rw [g]
        exact d4
    · rw [e1, if_neg (fun h => g (by rw [Bool.and_eq_true] at h; exact h.1))]
      exact hE
  · intro ν ⟨hA, hE⟩
    have rB : ν.1 131 0 = nI (B 0) := by rw [hA 131 (by decide)]; exact hB.1 0 (by decide)
    refine tX12_bySet_6 ?_
    simp (disch := omega) only [lit, Nat.add_sub_cancel, Nat.not_lt_zero, ↓m1_mI, nI_add, pk_mul, nx_and, nx_or, and31, sh_r, sh_1, nx_nand, Nat.and_one_is_mod, nI_clamp, nI_leI, nI_ltI, nI_eq, tb_1, vp_t, up2_a, up2_b, up2_c, br_1, br_0, true_and, and_true, mI_ne, mI_ne', mI_lt, mI_le, mI_nle, mI_nlt, pk_sub, mI_sub, rB, Nat.le_refl]
    exact K ν hA hE
theorem r_byHeard {k : Nat} {Ψ : Me → Prop} (hB : rowB B (μ.1 131)) (hW : WB B) (hk : k ≤ B 5) (K : ∀ μ' : Me, Ag [139] μ.1 μ'.1 → (∀ f, f < 16 → μ'.1 139 f = nI (eH B k f)) → Ψ μ') : VU N 3 mX12_byHeard [.ref 130, .int (nI k)] μ Ψ := by
  have hn := hW.n
  refine tX12_byHeard_0 (r_clear (fun μ1 a1 d1 => ?_))
  refine vb_for (N := N) (d := 3) (M := mX12_byHeard) (hd := 6) (τ := Me) (fun i _ => [.ref 130, .int (nI k), .int (nI i)]) (fun _ ν => ν) k (fun i ν => Ag [139] μ.1 ν.1 ∧ ∀ f, f < 16 → ν.1 139 f = nI (eH B i f)) ?_ ?_ 0 μ1 (by omega) ⟨a1, d1⟩
  · intro i ν hi ⟨hA, hE⟩ K'
    have hB1 : rowB B (ν.1 131) := by rw [hA 131 (by decide)]; exact hB
    have rB := hB1.1
    have g1 : ¬ k ≤ i := by omega
    have h1 := hW.h (show i < B 5 by omega)
    have e1 : eH B (i + 1) = if (!stk B (B (80 + 3 * i))) = true then ad (eH B i) (B (80 + 3 * i + 1)) (B (10 + 5 * B (80 + 3 * i) + 2)) else eH B i := rfl
    refine tX12_byHeard_6 ?_
    simp (disch := omega) only [lit, Nat.add_sub_cancel, Nat.not_lt_zero, ↓m1_mI, nI_add, pk_mul, nx_and, nx_or, and31, sh_r, sh_1, nx_nand, Nat.and_one_is_mod, nI_clamp, nI_leI, nI_ltI, nI_eq, tb_1, vp_t, up2_a, up2_b, up2_c, br_1, br_0, true_and, and_true, mI_ne, mI_ne', mI_lt, mI_le, mI_nle, mI_nlt, pk_sub, mI_sub, rB, eq_false g1]
    refine vi_b (fun Ψ => r_isX hB1 hW h1.1) (fun g => K' ν ⟨hA, ?_⟩) (fun g => ?_)
    · rw [e1, stk_iff.mpr g]
      exact hE
    · simp (disch := omega) only [lit, Nat.add_sub_cancel, Nat.not_lt_zero, ↓m1_mI, nI_add, pk_mul, nx_and, nx_or, and31, sh_r, sh_1, nx_nand, Nat.and_one_is_mod, nI_clamp, nI_leI, nI_ltI, nI_eq, tb_1, vp_t, up2_a, up2_b, up2_c, br_1, br_0, true_and, and_true, mI_ne, mI_ne', mI_lt, mI_le, mI_nle, mI_nlt, pk_sub, mI_sub, rB]
      refine r_adduce (e := eH B i) hB1 hW h1.1 h1.2.1 (eH_9 hW (by omega)) hE (fun μ4 a4 d4 => K' μ4 ⟨hA.tr a4, ?_⟩)
      rw [e1, show stk B (B (80 + 3 * i)) = false from eq_false_of_ne_true (fun h => g (stk_iff.mp h))]
      exact d4
  · intro ν ⟨hA, hE⟩
    refine tX12_byHeard_6 ?_
    simp (disch := omega) only [lit, Nat.add_sub_cancel, Nat.not_lt_zero, ↓m1_mI, nI_add, pk_mul, nx_and, nx_or, and31, sh_r, sh_1, nx_nand, Nat.and_one_is_mod, nI_clamp, nI_leI, nI_ltI, nI_eq, tb_1, vp_t, up2_a, up2_b, up2_c, br_1, br_0, true_and, and_true, mI_ne, mI_ne', mI_lt, mI_le, mI_nle, mI_nlt, pk_sub, mI_sub, Nat.le_refl]
    exact K ν hA hE
def bI (b : Nat) : Int32 := if b = 99 then mI else nI b
theorem bI_eq {k : Nat} (hb : b < 16 ∨ b = 99) (hk : k < 16) : nI k = bI b ↔ k = b := by
  unfold bI
  split
  · rw [mI_ne (by omega)]
    exact ⟨fun h => h.elim, fun h => by omega⟩
  · rw [nI_eq (by omega) (by omega)]
theorem r_strong {k : Nat} {sh : Nat → Nat} {Ψ : Int32 → Me → Prop} (hB : rowB B (μ.1 131)) (hW : WB B) (hT : RuL B T μ.1) (wT : WT T) (hb : b < 16 ∨ b = 99) (hk : k < T 0) (hr : fl T k 0 = 3) (hs9 : ∀ j, sh j ≤ 9) (hsh : ∀ j, j < fl T k 1 → μ.1 140 j = nI (sh j)) (h : Ψ (nI (stg T sh b k)) μ) : VI N 2 mX12_strong [.ref 130, .int (nI k), .int (bI b)] μ Ψ := by
  have h16 := wT.1.2
  have h4 := hT.pos hk
  have hca := ca_lt hW (show k < 16 by omega)
  have hf := hT.f h4
  have hw := wT.2.1 k hk hr
  have hlt : fl T k 4 < 65536 ∧ fl T k 5 < 65536 := ⟨wT.1.1 _, wT.1.1 _⟩
  refine tX12_strong_0 (r_clauseAt hB hW h4 ?_)
  simp (disch := omega) only [lit, Nat.add_sub_cancel, Nat.not_lt_zero, ↓m1_mI, nI_add, pk_mul, nx_and, nx_or, and31, sh_r, sh_1, nx_nand, Nat.and_one_is_mod, nI_clamp, nI_leI, nI_ltI, nI_eq, tb_1, vp_t, up2_a, up2_b, up2_c, br_1, br_0, true_and, and_true, mI_ne, mI_ne', mI_lt, mI_le, mI_nle, mI_nlt, pk_sub, mI_sub, hf]
  refine vb_wf (N := N) (d := 2) (M := mX12_strong) (hd := 19) (τ := Nat) (fun i => [.ref 130, .int (nI k), .int (bI b), .int (nI (ca B k)), .int (nI (mnN (fl T k 4) sh i (fl T k 2))), .int (nI i)]) (fun _ => μ) (fun i => 16 - i) (fun i => i ≤ 16 ∧ ¬ (k ≠ b ∧ exB i (fun f => (fl T k 5).testBit f && decide (0 < sh f)) = true)) ?_ 0 ⟨by omega, fun h => by cases h.2⟩
  rintro i ⟨hi, hno⟩ K'
  have hmn : mnN (fl T k 4) sh i (fl T k 2) ≤ fl T k 2 := (mnN_le.mp (Nat.le_refl _)).1
  refine tX12_strong_19 ?_
  by_cases ei : i = 16
  · subst ei
    simp (disch := omega) only [lit, Nat.add_sub_cancel, Nat.not_lt_zero, ↓m1_mI, nI_add, pk_mul, nx_and, nx_or, and31, sh_r, sh_1, nx_nand, Nat.and_one_is_mod, nI_clamp, nI_leI, nI_ltI, nI_eq, tb_1, vp_t, up2_a, up2_b, up2_c, br_1, br_0, true_and, and_true, mI_ne, mI_ne', mI_lt, mI_le, mI_nle, mI_nlt, pk_sub, mI_sub, Nat.le_refl]
    refine ⟨_, rfl, ?_⟩
    unfold stg at h
    rw [if_neg hno] at h
    exact h
  · have g1 : ¬ 16 ≤ i := by omega
    have hsi := hs9 i
    simp (disch := omega) only [lit, Nat.add_sub_cancel, Nat.not_lt_zero, ↓m1_mI, nI_add, pk_mul, nx_and, nx_or, and31, sh_r, sh_1, nx_nand, Nat.and_one_is_mod, nI_clamp, nI_leI, nI_ltI, nI_eq, tb_1, vp_t, up2_a, up2_b, up2_c, br_1, br_0, true_and, and_true, mI_ne, mI_ne', mI_lt, mI_le, mI_nle, mI_nlt, pk_sub, mI_sub, eq_false g1, hf]
    have nx : ∀ v, v = mnN (fl T k 4) sh (i + 1) (fl T k 2) → VB N 2 mX12_strong 63 [.ref 130, .int (nI k), .int (bI b), .int (nI (ca B k)), .int (nI v), .int (nI i)] [] μ (fun r μ' => ∃ v, r = some (.int v) ∧ Ψ v μ') := by
      intro v hv
      subst hv
      refine tX12_strong_63 ?_
      simp (disch := omega) only [lit, Nat.add_sub_cancel, Nat.not_lt_zero, ↓m1_mI, nI_add, pk_mul, nx_and, nx_or, and31, sh_r, sh_1, nx_nand, Nat.and_one_is_mod, nI_clamp, nI_leI, nI_ltI, nI_eq, tb_1, vp_t, up2_a, up2_b, up2_c, br_1, br_0, true_and, and_true, mI_ne, mI_ne', mI_lt, mI_le, mI_nle, mI_nlt, pk_sub, mI_sub, hf]
      have ee : exB (i + 1) (fun f => (fl T k 5).testBit f && decide (0 < sh f)) = (exB i (fun f => (fl T k 5).testBit f && decide (0 < sh f)) || ((fl T k 5).testBit i && decide (0 < sh i))) := rfl
      refine vi_b (fun Ψ => r_hasB (by omega) (by omega)) (fun g => ?_) (fun g => K' (i + 1) ⟨by omega, fun q => hno ⟨q.1, ?_⟩⟩ (by omega))
      · have hlti := tb_lt hw.2.2.2.2.2 g
        simp (disch := omega) only [lit, Nat.add_sub_cancel, Nat.not_lt_zero, ↓m1_mI, nI_add, pk_mul, nx_and, nx_or, and31, sh_r, sh_1, nx_nand, Nat.and_one_is_mod, nI_clamp, nI_leI, nI_ltI, nI_eq, tb_1, vp_t, up2_a, up2_b, up2_c, br_1, br_0, true_and, and_true, mI_ne, mI_ne', mI_lt, mI_le, mI_nle, mI_nlt, pk_sub, mI_sub, hsh]
        refine ⟨fun q0 => K' (i + 1) ⟨by omega, fun q => hno ⟨q.1, ?_⟩⟩ (by omega), fun q0 => ⟨fun q1 => K' (i + 1) ⟨by omega, fun q => q.1 ((bI_eq hb (by omega)).mp q1)⟩ (by omega), fun q1 => ⟨_, rfl, ?_⟩⟩⟩
        · have q2 := q.2
          rw [ee, decide_eq_false (by omega), Bool.and_false, Bool.or_false] at q2
          exact q2
        · have : stg T sh b k = 0 := by
            unfold stg
            rw [if_pos ⟨fun q => q1 ((bI_eq hb (by omega)).mpr q), exB_iff.mpr ⟨i, by omega, by rw [g, decide_eq_true (by omega)]; rfl⟩⟩]
          rw [this] at h
          exact h
      · have q2 := q.2
        rw [ee, eq_false_of_ne_true g, Bool.false_and, Bool.or_false] at q2
        exact q2
    have em : mnN (fl T k 4) sh (i + 1) (fl T k 2) = if (fl T k 4).testBit i = true ∧ sh i < mnN (fl T k 4) sh i (fl T k 2) then sh i else mnN (fl T k 4) sh i (fl T k 2) := rfl
    refine vi_b (fun Ψ => r_hasB (by omega) (by omega)) (fun g => ?_) (fun g => nx _ (by rw [em, if_neg (fun q => g q.1)]))
    have hlti := tb_lt hw.2.2.2.2.1 g
    simp (disch := omega) only [lit, Nat.add_sub_cancel, Nat.not_lt_zero, ↓m1_mI, nI_add, pk_mul, nx_and, nx_or, and31, sh_r, sh_1, nx_nand, Nat.and_one_is_mod, nI_clamp, nI_leI, nI_ltI, nI_eq, tb_1, vp_t, up2_a, up2_b, up2_c, br_1, br_0, true_and, and_true, mI_ne, mI_ne', mI_lt, mI_le, mI_nle, mI_nlt, pk_sub, mI_sub, hsh]
    exact ⟨fun q => nx _ (by rw [em, if_neg (fun z => by omega)]), fun q => nx _ (by rw [em, if_pos ⟨g, by omega⟩])⟩
theorem r_show {Ψ : Me → Prop} (hB : rowB B (μ.1 131)) (hW : WB B) (hT : RuL B T μ.1) (wT : WT T) (hb : b < 16 ∨ b = 99) (he9 : ∀ f, e f ≤ 9) (he : ∀ f, f < 16 → μ.1 139 f = nI (e f)) (K : ∀ μ' : Me, Ag [140] μ.1 μ'.1 → (∀ f, f < 16 → μ'.1 140 f = nI (shP T e b f)) → Ψ μ') : VU N 3 mX12_show [.ref 130, .int (bI b)] μ Ψ := by
  have h16 := wT.1.2
  refine tX12_show_0 ?_
  refine vb_for (N := N) (d := 3) (M := mX12_show) (hd := 2) (τ := Me) (fun i _ => [.ref 130, .int (bI b), .int (nI i)]) (fun _ ν => ν) 16 (fun i ν => Ag [140] μ.1 ν.1 ∧ ∀ f, f < i → ν.1 140 f = nI (shN T e b i f)) ?_ ?_ 0 μ (by omega) ⟨Ag.rf, fun f hf => absurd hf (Nat.not_lt_zero _)⟩
  · intro i ν hi ⟨hA, hE⟩ K'
    have g1 : ¬ 16 ≤ i := by omega
    have r9 : ν.1 139 i = nI (e i) := by rw [hA 139 (by decide)]; exact he i hi
    have hs9 := shN_9 (b := b) wT he9 i
    refine tX12_show_2 ?_
    simp (disch := omega) only [lit, Nat.add_sub_cancel, Nat.not_lt_zero, ↓m1_mI, nI_add, pk_mul, nx_and, nx_or, and31, sh_r, sh_1, nx_nand, Nat.and_one_is_mod, nI_clamp, nI_leI, nI_ltI, nI_eq, tb_1, vp_t, up2_a, up2_b, up2_c, br_1, br_0, true_and, and_true, mI_ne, mI_ne', mI_lt, mI_le, mI_nle, mI_nlt, pk_sub, mI_sub, eq_false g1, r9]
    refine vb_for (N := N) (d := 3) (M := mX12_show) (hd := 22) (τ := Me) (fun k _ => [.ref 130, .int (bI b), .int (nI i), .int (nI k)]) (fun _ ν => ν) (T 0) (fun k ξ => Ag [140] μ.1 ξ.1 ∧ (∀ f, f < i → ξ.1 140 f = nI (shN T e b i f)) ∧ ξ.1 140 i = nI (mxN T (shN T e b i) b (e i) i k)) ?_ ?_ 0 _ (by omega) ⟨hA.up (by decide), fun f hf => ?_, ?_⟩
    · intro k ξ hk ⟨hA2, hE2, hM⟩ K2
      have hB1 : rowB B (ξ.1 131) := by rw [hA2 131 (by decide)]; exact hB
      have hT1 := hT.fr (hA2 133 (by decide))
      have h4 := hT1.pos hk
      have hca := ca_lt hW (show k < 16 by omega)
      have hf := hT1.f h4
      have g2 : ¬ T 0 ≤ k := by omega
      have hm9 := mxN_9 (b := b) (sh := shN T e b i) (f := i) (n := k) wT (by omega) (he9 i)
      have em : mxN T (shN T e b i) b (e i) i (k + 1) = if (isR T k = true ∧ fl T k 1 = i) ∧ mxN T (shN T e b i) b (e i) i k < stg T (shN T e b i) b k then stg T (shN T e b i) b k else mxN T (shN T e b i) b (e i) i k := rfl
      refine tX12_show_22 (r_clauses hB1 hW hT1 ?_)
      simp (disch := omega) only [lit, Nat.add_sub_cancel, Nat.not_lt_zero, ↓m1_mI, nI_add, pk_mul, nx_and, nx_or, and31, sh_r, sh_1, nx_nand, Nat.and_one_is_mod, nI_clamp, nI_leI, nI_ltI, nI_eq, tb_1, vp_t, up2_a, up2_b, up2_c, br_1, br_0, true_and, and_true, mI_ne, mI_ne', mI_lt, mI_le, mI_nle, mI_nlt, pk_sub, mI_sub, eq_false g2]
      refine vi_b (fun Ψ => r_isRule hB1 hW hT1 wT hk) (fun g => ?_) (fun g => K2 ξ ⟨hA2, hE2, by rw [em, if_neg (fun q => g (isR_iff.mp q.1.1))]; exact hM⟩)
      have hw := wT.2.1 k hk g
      refine r_clauseAt hB1 hW h4 ?_
      simp (disch := omega) only [lit, Nat.add_sub_cancel, Nat.not_lt_zero, ↓m1_mI, nI_add, pk_mul, nx_and, nx_or, and31, sh_r, sh_1, nx_nand, Nat.and_one_is_mod, nI_clamp, nI_leI, nI_ltI, nI_eq, tb_1, vp_t, up2_a, up2_b, up2_c, br_1, br_0, true_and, and_true, mI_ne, mI_ne', mI_lt, mI_le, mI_nle, mI_nlt, pk_sub, mI_sub, hf]
      refine ⟨fun q => ?_, fun q => K2 ξ ⟨hA2, hE2, by rw [em, if_neg (fun z => q z.1.2)]; exact hM⟩⟩
      refine r_strong hB1 hW hT1 wT hb hk g hs9 (fun j hj => hE2 j (by omega)) ?_
      have hst := stg_w (T := T) (sh := shN T e b i) (b := b) (k := k)
      simp (disch := omega) only [lit, Nat.add_sub_cancel, Nat.not_lt_zero, ↓m1_mI, nI_add, pk_mul, nx_and, nx_or, and31, sh_r, sh_1, nx_nand, Nat.and_one_is_mod, nI_clamp, nI_leI, nI_ltI, nI_eq, tb_1, vp_t, up2_a, up2_b, up2_c, br_1, br_0, true_and, and_true, mI_ne, mI_ne', mI_lt, mI_le, mI_nle, mI_nlt, pk_sub, mI_sub, hM]
      refine ⟨fun z => K2 ξ ⟨hA2, hE2, by rw [em, if_neg (fun y => by omega)]; exact hM⟩, fun z => K2 _ ⟨hA2.up (by decide), fun f hf => ?_, ?_⟩⟩
      · simp (disch := omega) only [up2_b]
        exact hE2 f hf
      · simp only [up2_c]
        rw [em, if_pos ⟨⟨isR_iff.mpr g, q⟩, by omega⟩]
    · intro ξ ⟨hA2, hE2, hM⟩
      have hB1 : rowB B (ξ.1 131) := by rw [hA2 131 (by decide)]; exact hB
      refine tX12_show_22 (r_clauses hB1 hW (hT.fr (hA2 133 (by decide))) ?_)
      simp (disch := omega) only [lit, Nat.add_sub_cancel, Nat.not_lt_zero, ↓m1_mI, nI_add, pk_mul, nx_and, nx_or, and31, sh_r, sh_1, nx_nand, Nat.and_one_is_mod, nI_clamp, nI_leI, nI_ltI, nI_eq, tb_1, vp_t, up2_a, up2_b, up2_c, br_1, br_0, true_and, and_true, mI_ne, mI_ne', mI_lt, mI_le, mI_nle, mI_nlt, pk_sub, mI_sub, Nat.le_refl]
      refine K' ξ ⟨hA2, fun f hf => ?_⟩
      show _ = nI (ub (shN T e b i) i _ f)
      by_cases ef : f = i
      · subst ef; rw [ub_e]; exact hM
      · rw [ub_n ef]; exact hE2 f (by omega)
    · simp (disch := omega) only [up2_b]
      exact hE f hf
    · simp only [up2_c]
      rfl
  · intro ν ⟨hA, hE⟩
    refine tX12_show_2 ?_
    simp (disch := omega) only [lit, Nat.add_sub_cancel, Nat.not_lt_zero, ↓m1_mI, nI_add, pk_mul, nx_and, nx_or, and31, sh_r, sh_1, nx_nand, Nat.and_one_is_mod, nI_clamp, nI_leI, nI_ltI, nI_eq, tb_1, vp_t, up2_a, up2_b, up2_c, br_1, br_0, true_and, and_true, mI_ne, mI_ne', mI_lt, mI_le, mI_nle, mI_nlt, pk_sub, mI_sub, Nat.le_refl]
    exact K ν hA hE
theorem r_isShown {v : Nat} {sh : Nat → Nat} {Ψ : Int32 → Me → Prop} (hB : rowB B (μ.1 131)) (hW : WB B) (hv : v < B 1) (hs9 : ∀ j, j < 16 → sh j ≤ 9) (hsh : ∀ j, j < 16 → μ.1 140 j = nI (sh j)) (h1 : B (60 + 3 * v + 1) ≤ sh (B (60 + 3 * v)) → Ψ 1 μ) (h0 : ¬ B (60 + 3 * v + 1) ≤ sh (B (60 + 3 * v)) → Ψ 0 μ) : VI N 2 mX12_isShown [.ref 130, .int (nI v)] μ Ψ := by
  have hn := hW.n
  have g := hW.v hv
  have rB := hB.1
  have q := hs9 _ g.1
  refine tX12_isShown_0 (tX12_factOf_0 ?_)
  simp (disch := omega) only [lit, Nat.add_sub_cancel, Nat.not_lt_zero, ↓m1_mI, nI_add, pk_mul, nx_and, nx_or, and31, sh_r, sh_1, nx_nand, Nat.and_one_is_mod, nI_clamp, nI_leI, nI_ltI, nI_eq, tb_1, vp_t, up2_a, up2_b, up2_c, br_1, br_0, true_and, and_true, mI_ne, mI_ne', mI_lt, mI_le, mI_nle, mI_nlt, pk_sub, mI_sub, rB]
  refine ⟨_, rfl, ?_⟩
  simp (disch := omega) only [lit, Nat.add_sub_cancel, Nat.not_lt_zero, ↓m1_mI, nI_add, pk_mul, nx_and, nx_or, and31, sh_r, sh_1, nx_nand, Nat.and_one_is_mod, nI_clamp, nI_leI, nI_ltI, nI_eq, tb_1, vp_t, up2_a, up2_b, up2_c, br_1, br_0, true_and, and_true, mI_ne, mI_ne', mI_lt, mI_le, mI_nle, mI_nlt, pk_sub, mI_sub, hsh]
  exact ⟨fun z => ⟨_, rfl, h0 (by omega)⟩, fun z => ⟨_, rfl, h1 (by omega)⟩⟩
end RV
