/-! the class: evidence and what is shown -/
section CV
variable {N : Nat} {μ : Me} {B T : Nat → Nat} {b : Nat} {e : Nat → Nat}
def eb (e : Nat → Nat) (s : Nat) : Nat := bits 16 (fun f => decide (s ≤ e f))
theorem eb_lt (e : Nat → Nat) (s : Nat) : eb e s < 65536 := bits_lt 16 _
theorem eb_tb {s f : Nat} : (eb e s).testBit f = true ↔ f < 16 ∧ s ≤ e f := by
  unfold eb
  rw [bits_tb, Bool.and_eq_true, decide_eq_true_iff, decide_eq_true_iff]
theorem bit_ext {x y : Nat} (h : ∀ i, x.testBit i = true ↔ y.testBit i = true) : x = y := by
  apply Nat.eq_of_testBit_eq
  intro i
  have := h i
  cases hx : x.testBit i <;> cases hy : y.testBit i <;> simp [hx, hy] at this ⊢
def cEv (e : Nat → Nat) (r : Nat → Int32) : Prop := ∀ s, 1 ≤ s → s ≤ 9 → r s = nI (eb e s)
theorem c_clearE {Ψ : Me → Prop} (K : ∀ μ' : Me, Ag [69] μ.1 μ'.1 → cEv (fun _ => 0) (μ'.1 69) → Ψ μ') : VU N 1 mX4_clear [.ref 68] μ Ψ := by
  refine tX4_clear_0 ?_
  refine vb_for (N := N) (d := 1) (M := mX4_clear) (hd := 2) (τ := Me) (fun i _ => [.ref 68, .int (nI i)]) (fun _ ν => ν) 10 (fun i ν => Ag [69] μ.1 ν.1 ∧ ∀ s, s < i → ν.1 69 s = nI 0) ?_ ?_ 0 μ (by omega) ⟨Ag.rf, fun s hs => absurd hs (Nat.not_lt_zero _)⟩
  · intro i ν hi ⟨hA, h⟩ K'
    have g1 : ¬ 9 < i := by omega
    refine tX4_clear_2 ?_
    simp (disch := omega) only [lit, Nat.add_sub_cancel, Nat.not_lt_zero, ↓m1_mI, nI_add, pk_mul, nx_and, nx_or, and31, sh_r, sh_1, nx_nand, Nat.and_one_is_mod, nI_clamp, nI_leI, nI_ltI, nI_eq, tb_1, vp_t, up2_a, up2_b, up2_c, br_1, br_0, true_and, and_true, mI_ne, mI_ne', mI_lt, mI_le, mI_nle, mI_nlt, pk_sub, mI_sub, eq_false g1]
    refine K' _ ⟨hA.up (by decide), fun s hs => ?_⟩
    by_cases es : s = i
    · subst es; simp only [up2_c]
    · simp (disch := omega) only [up2_b]
      exact h s (by omega)
  · intro ν ⟨hA, h⟩
    refine tX4_clear_2 ?_
    simp (disch := omega) only [lit, Nat.add_sub_cancel, Nat.not_lt_zero, ↓m1_mI, nI_add, pk_mul, nx_and, nx_or, and31, sh_r, sh_1, nx_nand, Nat.and_one_is_mod, nI_clamp, nI_leI, nI_ltI, nI_eq, tb_1, vp_t, up2_a, up2_b, up2_c, br_1, br_0, true_and, and_true, mI_ne, mI_ne', mI_lt, mI_le, mI_nle, mI_nlt, pk_sub, mI_sub, show (9 < 10) = True from eq_true (by decide)]
    refine K ν hA (fun s h1 h2 => ?_)
    rw [h s (by omega)]
    congr 1
    apply bit_ext
    intro i
    rw [eb_tb, Nat.zero_testBit]
    exact ⟨fun q => (by cases q), fun q => (by omega)⟩
theorem c_addE {r0 sd sg : Nat} {Ψ : Me → Prop} (h0 : r0 = 68 ∨ r0 = 70) (hs : sd < 65536) (hg : sg ≤ 9) (he : cEv e (μ.1 (r0 + 1))) (K : ∀ μ' : Me, Ag [r0 + 1] μ.1 μ'.1 → cEv (ad e sd sg) (μ'.1 (r0 + 1)) → Ψ μ') : VU N 1 mX4_add [.ref r0, .int (nI sd), .int (nI sg)] μ Ψ := by
  have hor : ∀ s, s ≤ sg → eb e s ||| sd = eb (ad e sd sg) s := by
    intro s hs2
    apply bit_ext
    intro i
    rw [Nat.testBit_or, Bool.or_eq_true, eb_tb, eb_tb, ad_le]
    constructor
    · rintro (⟨q1, q2⟩ | q)
      · exact ⟨q1, Or.inl q2⟩
      · exact ⟨tb_lt (n := 16) hs q, Or.inr ⟨q, hs2⟩⟩
    · rintro ⟨q1, q2 | q2⟩
      · exact Or.inl ⟨q1, q2⟩
      · exact Or.inr q2.1
  have hno : ∀ s, sg < s → eb e s = eb (ad e sd sg) s := by
    intro s hs2
    apply bit_ext
    intro i
    rw [eb_tb, eb_tb, ad_le]
    exact ⟨fun q => ⟨q.1, Or.inl q.2⟩, fun q => ⟨q.1, q.2.elim id (fun z => by omega)⟩⟩
  refine tX4_add_0 h0 ?_
  have Z := vb_for (N := N) (d := 1) (M := mX4_add) (hd := 2) (Ψ := fun r μ' => r = none ∧ Ψ μ') (τ := Me) (fun i _ => [.ref r0, .int (nI sd), .int (nI sg), .int (nI (i + 1))]) (fun _ ν => ν) sg (fun i ν => Ag [r0 + 1] μ.1 ν.1 ∧ (∀ s, 1 ≤ s → s ≤ i → ν.1 (r0 + 1) s = nI (eb (ad e sd sg) s)) ∧ ∀ s, i < s → s ≤ 9 → ν.1 (r0 + 1) s = nI (eb e s)) ?_ ?_ 0 μ (by omega) ⟨Ag.rf, fun s h1 h2 => by omega, fun s h1 h2 => he s (by omega) h2⟩
  · exact Z
  · intro i ν hi ⟨hA, h1, h2⟩ K'
    have g1 : ¬ sg < i + 1 := by omega
    have g2 : ¬ 9 < i + 1 := by omega
    have r1 := h2 (i + 1) (by omega) (by omega)
    refine tX4_add_2 h0 ?_
    simp (disch := omega) only [lit, Nat.add_sub_cancel, Nat.not_lt_zero, ↓m1_mI, nI_add, pk_mul, nx_and, nx_or, and31, sh_r, sh_1, nx_nand, Nat.and_one_is_mod, nI_clamp, nI_leI, nI_ltI, nI_eq, tb_1, vp_t, up2_a, up2_b, up2_c, br_1, br_0, true_and, and_true, mI_ne, mI_ne', mI_lt, mI_le, mI_nle, mI_nlt, pk_sub, mI_sub, eq_false g1, eq_false g2, r1]
    refine K' _ ⟨hA.up (by simp), fun s q1 q2 => ?_, fun s q1 q2 => ?_⟩
    · by_cases es : s = i + 1
      · subst es
        simp only [up2_c]
        rw [hor _ (by omega)]
      · simp (disch := omega) only [up2_b]
        exact h1 s q1 (by omega)
    · simp (disch := omega) only [up2_b]
      exact h2 s (by omega) q2
  · intro ν ⟨hA, h1, h2⟩
    have g1 : sg < sg + 1 := by omega
    refine tX4_add_2 h0 ?_
    simp (disch := omega) only [lit, Nat.add_sub_cancel, Nat.not_lt_zero, ↓m1_mI, nI_add, pk_mul, nx_and, nx_or, and31, sh_r, sh_1, nx_nand, Nat.and_one_is_mod, nI_clamp, nI_leI, nI_ltI, nI_eq, tb_1, vp_t, up2_a, up2_b, up2_c, br_1, br_0, true_and, and_true, mI_ne, mI_ne', mI_lt, mI_le, mI_nle, mI_nlt, pk_sub, mI_sub, eq_true g1]
    refine K ν hA (fun s q1 q2 => ?_)
    by_cases es : s ≤ sg
    · exact h1 s q1 es
    · rw [h2 s (by omega) q2, hno s (by omega)]
def cSay (B T : Nat → Nat) (I : Nat → Nat → Int32) : Prop := ∀ w, w < B 0 → I 83 w = nI (sn B T w)
def scS : List Nat := [82, 50, 96, 107, 118, 129, 83]
theorem c_findSayings {Ψ : Me → Prop} (hC : CB B 3 μ.1) (hW : WB B) (hL : LW T (lwB B) μ.1) (wT : WT T) (K : ∀ μ' : Me, Ag scS μ.1 μ'.1 → cSay B T μ'.1 → Ψ μ') : VU N 5 mX11_findSayings [.ref 2] μ Ψ := by
  have hn := hW.n
  have h5 := lwB_5 hW
  refine tX11_findSayings_0 ?_
  refine vb_for (N := N) (d := 5) (M := mX11_findSayings) (hd := 2) (τ := Me) (fun i _ => [.ref 2, .int (nI i)]) (fun _ ν => ν) (B 0) (fun i ν => Ag scS μ.1 ν.1 ∧ ∀ w, w < i → ν.1 83 w = nI (sn B T w)) ?_ ?_ 0 μ (by omega) ⟨Ag.rf, fun w hw => absurd hw (Nat.not_lt_zero _)⟩
  · intro i ν hi ⟨hA, hS⟩ K'
    have hC1 : CB B 3 ν.1 := hC.fr (fun a k1 k2 => hA a (by simp [scS]; omega))
    have hL1 : LW T (lwB B) ν.1 := hL.fr (fun a k1 k2 => hA a (by unfold isL5 at h5; simp [scS]; omega))
    have g1 : ¬ B 0 ≤ i := by omega
    have hwi := hW.w hi
    refine tX11_findSayings_2 ?_
    simp (disch := omega) only [lit, Nat.add_sub_cancel, Nat.not_lt_zero, ↓m1_mI, nI_add, pk_mul, nx_and, nx_or, and31, sh_r, sh_1, nx_nand, Nat.and_one_is_mod, nI_clamp, nI_leI, nI_ltI, nI_eq, tb_1, vp_t, up2_a, up2_b, up2_c, br_1, br_0, true_and, and_true, mI_ne, mI_ne', mI_lt, mI_le, mI_nle, mI_nlt, pk_sub, mI_sub, hC1.k0, eq_false g1, hC1.k3]
    refine c_saysAs hC1 hW hL1 wT hi hwi.2.1 (fun μ2 a2 => K' _ ⟨(hA.tr (a2.mono (by decide))).up (by decide), fun w hw => ?_⟩)
    by_cases ew : w = i
    · subst ew; simp only [up2_c]; rfl
    · simp (disch := omega) only [up2_b]
      rw [a2 83 (by decide)]
      exact hS w (by omega)
  · intro ν ⟨hA, hS⟩
    have hC1 : CB B 3 ν.1 := hC.fr (fun a k1 k2 => hA a (by simp [scS]; omega))
    refine tX11_findSayings_2 ?_
    simp (disch := omega) only [lit, Nat.add_sub_cancel, Nat.not_lt_zero, ↓m1_mI, nI_add, pk_mul, nx_and, nx_or, and31, sh_r, sh_1, nx_nand, Nat.and_one_is_mod, nI_clamp, nI_leI, nI_ltI, nI_eq, tb_1, vp_t, up2_a, up2_b, up2_c, br_1, br_0, true_and, and_true, mI_ne, mI_ne', mI_lt, mI_le, mI_nle, mI_nlt, pk_sub, mI_sub, hC1.k0, Nat.le_refl]
    exact K ν hA hS
theorem c_weigh {set : Nat} {Ψ : Me → Prop} (hC : CB B 3 μ.1) (hW : WB B) (hs : set < 2 ^ 30) (hS : cSay B T μ.1) (K : ∀ μ' : Me, Ag [69] μ.1 μ'.1 → cEv (eS B T set (B 0)) (μ'.1 69) → Ψ μ') : VU N 2 mX11_weigh [.ref 2, .int (nI set)] μ Ψ := by
  have hn := hW.n
  refine tX11_weigh_0 (c_clearE (fun μ1 a1 d1 => ?_))
  have hC1 : CB B 3 μ1.1 := hC.fr (fun a k1 k2 => a1 a (by simp; omega))
  have hnd : ndN set (sb B) < 2 ^ 31 := lt31 (ndN_le set (sb B) hs) (by decide)
  simp (disch := omega) only [lit, Nat.add_sub_cancel, Nat.not_lt_zero, ↓m1_mI, nI_add, pk_mul, nx_and, nx_or, and31, sh_r, sh_1, nx_nand, Nat.and_one_is_mod, nI_clamp, nI_leI, nI_ltI, nI_eq, tb_1, vp_t, up2_a, up2_b, up2_c, br_1, br_0, true_and, and_true, mI_ne, mI_ne', mI_lt, mI_le, mI_nle, mI_nlt, pk_sub, mI_sub, hC1.k1]
  refine vb_for (N := N) (d := 2) (M := mX11_weigh) (hd := 24) (τ := Me) (fun i _ => [.ref 2, .null, .int (nI (ndN set (sb B))), .int (nI i)]) (fun _ ν => ν) (B 0) (fun i ν => Ag [69] μ.1 ν.1 ∧ cEv (eS B T set i) (ν.1 69)) ?_ ?_ 0 μ1 (by omega) ⟨a1, d1⟩
  · intro i ν hi ⟨hA, hE⟩ K'
    have hC2 : CB B 3 ν.1 := hC.fr (fun a k1 k2 => hA a (by simp; omega))
    have g1 : ¬ B 0 ≤ i := by omega
    have hwi := hW.w hi
    have hsn := sn_lt B T i
    have r83 : ν.1 83 i = nI (sn B T i) := by rw [hA 83 (by decide)]; exact hS i hi
    have e1 : eS B T set (i + 1) = if (set.testBit i && !stk B i) = true then ad (eS B T set i) (sn B T i) (B (10 + 5 * i + 2)) else eS B T set i := rfl
    have eb1 : (ndN set (sb B)).testBit i = (set.testBit i && !stk B i) := by rw [ndN_tb, sb_tb B hi]; rfl
    refine tX11_weigh_24 ?_
    simp (disch := omega) only [lit, Nat.add_sub_cancel, Nat.not_lt_zero, ↓m1_mI, nI_add, pk_mul, nx_and, nx_or, and31, sh_r, sh_1, nx_nand, Nat.and_one_is_mod, nI_clamp, nI_leI, nI_ltI, nI_eq, tb_1, vp_t, up2_a, up2_b, up2_c, br_1, br_0, true_and, and_true, mI_ne, mI_ne', mI_lt, mI_le, mI_nle, mI_nlt, pk_sub, mI_sub, hC2.k0, eq_false g1, hC2.k4, r83]
    rw [eb1]
    refine ⟨fun q => c_addE (r0 := 68) (Or.inl rfl) hsn (by omega) hE (fun μ3 a3 d3 => K' μ3 ⟨hA.tr a3, ?_⟩), fun q => K' ν ⟨hA, ?_⟩⟩
    · rw [e1, if_pos q]; exact d3
    · rw [e1, if_neg q]; exact hE
  · intro ν ⟨hA, hE⟩
    have hC2 : CB B 3 ν.1 := hC.fr (fun a k1 k2 => hA a (by simp; omega))
    refine tX11_weigh_24 ?_
    simp (disch := omega) only [lit, Nat.add_sub_cancel, Nat.not_lt_zero, ↓m1_mI, nI_add, pk_mul, nx_and, nx_or, and31, sh_r, sh_1, nx_nand, Nat.and_one_is_mod, nI_clamp, nI_leI, nI_ltI, nI_eq, tb_1, vp_t, up2_a, up2_b, up2_c, br_1, br_0, true_and, and_true, mI_ne, mI_ne', mI_lt, mI_le, mI_nle, mI_nlt, pk_sub, mI_sub, hC2.k0, Nat.le_refl]
    exact K ν hA hE
theorem c_weighHeard {k : Nat} {Ψ : Me → Prop} (hC : CB B 3 μ.1) (hW : WB B) (hk : k ≤ B 5) (K : ∀ μ' : Me, Ag [69] μ.1 μ'.1 → cEv (eH B k) (μ'.1 69) → Ψ μ') : VU N 2 mX11_weighHeard [.ref 2, .int (nI k)] μ Ψ := by
  have hn := hW.n
  refine tX11_weighHeard_0 (c_clearE (fun μ1 a1 d1 => ?_))
  refine vb_for (N := N) (d := 2) (M := mX11_weighHeard) (hd := 9) (τ := Me) (fun i _ => [.ref 2, .int (nI k), .int (nI i)]) (fun _ ν => ν) k (fun i ν => Ag [69] μ.1 ν.1 ∧ cEv (eH B i) (ν.1 69)) ?_ ?_ 0 μ1 (by omega) ⟨a1, d1⟩
  · intro i ν hi ⟨hA, hE⟩ K'
    have hC2 : CB B 3 ν.1 := hC.fr (fun a k1 k2 => hA a (by simp; omega))
    have g1 : ¬ k ≤ i := by omega
    have g2 : ¬ B 5 ≤ i := by omega
    have h1 := hW.h (show i < B 5 by omega)
    have hwi := hW.w h1.1
    have e1 : eH B (i + 1) = if (!stk B (B (80 + 3 * i))) = true then ad (eH B i) (B (80 + 3 * i + 1)) (B (10 + 5 * B (80 + 3 * i) + 2)) else eH B i := rfl
    refine tX11_weighHeard_9 ?_
    simp (disch := omega) only [lit, Nat.add_sub_cancel, Nat.not_lt_zero, ↓m1_mI, nI_add, pk_mul, nx_and, nx_or, and31, sh_r, sh_1, nx_nand, Nat.and_one_is_mod, nI_clamp, nI_leI, nI_ltI, nI_eq, tb_1, vp_t, up2_a, up2_b, up2_c, br_1, br_0, true_and, and_true, mI_ne, mI_ne', mI_lt, mI_le, mI_nle, mI_nlt, pk_sub, mI_sub, eq_false g1, eq_false g2, hC2.k10, hC2.k11]
    refine vi_b (fun Ψ => c_isX hC2 hW h1.1) (fun g => K' ν ⟨hA, ?_⟩) (fun g => ?_)
    · rw [e1, stk_iff.mpr g]; exact hE
    · simp (disch := omega) only [lit, Nat.add_sub_cancel, Nat.not_lt_zero, ↓m1_mI, nI_add, pk_mul, nx_and, nx_or, and31, sh_r, sh_1, nx_nand, Nat.and_one_is_mod, nI_clamp, nI_leI, nI_ltI, nI_eq, tb_1, vp_t, up2_a, up2_b, up2_c, br_1, br_0, true_and, and_true, mI_ne, mI_ne', mI_lt, mI_le, mI_nle, mI_nlt, pk_sub, mI_sub, hC2.k12, hC2.k4]
      refine c_addE (r0 := 68) (Or.inl rfl) h1.2.1 (by omega) hE (fun μ3 a3 d3 => K' μ3 ⟨hA.tr a3, ?_⟩)
      rw [e1, show stk B (B (80 + 3 * i)) = false from eq_false_of_ne_true (fun h => g (stk_iff.mp h))]
      exact d3
  · intro ν ⟨hA, hE⟩
    refine tX11_weighHeard_9 ?_
    simp (disch := omega) only [lit, Nat.add_sub_cancel, Nat.not_lt_zero, ↓m1_mI, nI_add, pk_mul, nx_and, nx_or, and31, sh_r, sh_1, nx_nand, Nat.and_one_is_mod, nI_clamp, nI_leI, nI_ltI, nI_eq, tb_1, vp_t, up2_a, up2_b, up2_c, br_1, br_0, true_and, and_true, mI_ne, mI_ne', mI_lt, mI_le, mI_nle, mI_nlt, pk_sub, mI_sub, Nat.le_refl]
    exact K ν hA hE
/-! rules in the order of their facts -/
def FPs (T e : Nat → Nat) (b s : Nat) (od : Nat → Nat) (i x : Nat) : Prop := x < 65536 ∧ ∀ f, f < 16 → (x.testBit f = true ↔ s ≤ e f ∨ ∃ j, j < i ∧ fl T (od j) 1 = f ∧ s ≤ stg T (shP T e b) b (od j))
section
variable {r s i x : Nat} {od : Nat → Nat}
theorem FP_low (wT : WT T) (hs : 1 ≤ s) (ho1 : ∀ i, i < nR T → od i < T 0 ∧ fl T (od i) 0 = 3) (ho2 : ∀ i j, i < j → j < nR T → fl T (od i) 1 < fl T (od j) 1 ∨ (fl T (od i) 1 = fl T (od j) 1 ∧ od i < od j)) (ho3 : ∀ k, k < T 0 → fl T k 0 = 3 → ∃ i, i < nR T ∧ od i = k) (hi : i ≤ nR T) (h : FPs T e b s od i x) {f : Nat} (hf : f < 16) (hlo : i < nR T → f < fl T (od i) 1) : x.testBit f = true ↔ s ≤ shP T e b f := by
  rw [h.2 f hf, shP_le wT hf hs]
  constructor
  · rintro (q | ⟨j, q1, q2, q3⟩)
    · exact Or.inl q
    · exact Or.inr ⟨od j, (ho1 j (by omega)).1, (ho1 j (by omega)).2, q2, q3⟩
  · rintro (q | ⟨k, q1, q2, q3, q4⟩)
    · exact Or.inl q
    · obtain ⟨j, hj, rfl⟩ := ho3 k q1 q2
      refine Or.inr ⟨j, ?_, q3, q4⟩
      rcases Nat.lt_or_ge j i with z | z
      · exact z
      · exfalso
        have hlo := hlo (by omega)
        rcases Nat.eq_or_lt_of_le z with z | z
        · subst z; omega
        · rcases ho2 i j z hj with y | y <;> omega
theorem FP_t (hx : x < 65536) (h : FPs T e b s od i x) (hf : fl T (od i) 1 < 16) (hs : s ≤ stg T (shP T e b) b (od i)) : FPs T e b s od (i + 1) (x ||| 2 ^ fl T (od i) 1) := by
  refine ⟨Nat.or_lt_two_pow (n := 16) hx (Nat.pow_lt_pow_right (by decide) hf), fun f hf2 => ?_⟩
  rw [Nat.testBit_or, Bool.or_eq_true, h.2 f hf2, Nat.testBit_two_pow, decide_eq_true_iff]
  constructor
  · rintro ((q | ⟨j, q1, q2⟩) | q)
    · exact Or.inl q
    · exact Or.inr ⟨j, by omega, q2⟩
    · exact Or.inr ⟨i, by omega, q, hs⟩
  · rintro (q | ⟨j, q1, q2, q3⟩)
    · exact Or.inl (Or.inl q)
    · by_cases ej : j = i
      · subst ej; exact Or.inr q2
      · exact Or.inl (Or.inr ⟨j, by omega, q2, q3⟩)
theorem FP_f (h : FPs T e b s od i x) (hs : ¬ s ≤ stg T (shP T e b) b (od i)) : FPs T e b s od (i + 1) x := by
  refine ⟨h.1, fun f hf2 => ?_⟩
  rw [h.2 f hf2]
  constructor
  · rintro (q | ⟨j, q1, q2⟩)
    · exact Or.inl q
    · exact Or.inr ⟨j, by omega, q2⟩
  · rintro (q | ⟨j, q1, q2, q3⟩)
    · exact Or.inl q
    · by_cases ej : j = i
      · subst ej; exact absurd q3 hs
      · exact Or.inr ⟨j, by omega, q2, q3⟩
theorem FP_0 : FPs T e b s od 0 (eb e s) := by
  refine ⟨eb_lt e s, fun f hf => ?_⟩
  rw [eb_tb]
  exact ⟨fun q => Or.inl q.2, fun q => ⟨hf, q.elim id (fun ⟨j, z, _⟩ => by omega)⟩⟩
theorem FP_c {k a : Nat} (wT : WT T) (hs : 1 ≤ s) (hk : k < T 0) (hr : fl T k 0 = 3) (hx : ∀ f, f < fl T k 1 → (x.testBit f = true ↔ s ≤ shP T e b f)) (ha : ∀ f, f < fl T k 1 → (a.testBit f = true ↔ 1 ≤ shP T e b f)) : s ≤ stg T (shP T e b) b k ↔ (s ≤ fl T k 2 ∧ ndN (fl T k 4) x = 0 ∧ (fl T k 5 &&& a = 0 ∨ k = b)) := by
  have hw := wT.2.1 k hk hr
  rw [stg_le hs, ndN_0, and_0]
  constructor
  · rintro ⟨h1, h2, h3⟩
    refine ⟨h1, fun f hf => ?_, ?_⟩
    · have := tb_lt hw.2.2.2.2.1 hf
      exact (hx f this).mpr (h2 f (by omega) hf)
    · rcases h3 with q | q
      · exact Or.inr q
      · refine Or.inl (fun f hf => ?_)
        have := tb_lt hw.2.2.2.2.2 hf
        have z := q f (by omega) hf
        exact eq_false_of_ne_true (fun y => by have := (ha f this).mp y; omega)
  · rintro ⟨h1, h2, h3⟩
    refine ⟨h1, fun f _ hf => (hx f (tb_lt hw.2.2.2.2.1 hf)).mp (h2 f hf), ?_⟩
    rcases h3 with q | q
    · refine Or.inr (fun f _ hf => ?_)
      have z := q f hf
      rcases Nat.eq_zero_or_pos (shP T e b f) with y | y
      · exact y
      · rw [(ha f (tb_lt hw.2.2.2.2.2 hf)).mpr y] at z
        cases z
    · exact Or.inl q
end
theorem c_atAll {r : Nat} {Ψ : Int32 → Me → Prop} (h5 : isL5 r) (hL : LW T r μ.1) (wT : WT T) (hb : b < 16 ∨ b = 99) (h : Ψ (nI (eb (shP T e b) 1)) μ) : VI N 1 mX5_shownAtAll [.ref r, .int (nI (eb e 1)), .int (bI b)] μ Ψ := by
  obtain ⟨l2, -, -, lR, -, od, lo, ho2, ho3⟩ := hL
  have ho1 : ∀ i, i < nR T → od i < T 0 ∧ fl T (od i) 0 = 3 := fun i hi => (lo i hi).2
  have h16 := wT.1.2
  have hnR : nR T ≤ T 0 := cnt_le _ _
  refine tX5_shownAtAll_0 h5 ?_
  have Z := vb_for (N := N) (d := 1) (M := mX5_shownAtAll) (hd := 5) (Ψ := fun r μ' => ∃ v, r = some (.int v) ∧ Ψ v μ') (τ := Nat) (fun i x => [.ref r, .null, .int (bI b), .int (nI x), .int (nI i)]) (fun _ _ => μ) (nR T) (fun i x => FPs T e b 1 od i x) ?_ ?_ 0 (eb e 1) (by omega) FP_0
  · exact Z
  · intro i x hi hF K'
    have hx := hF.1
    have ⟨hk, hr⟩ := ho1 i hi
    have hw := wT.2.1 _ hk hr
    obtain ⟨q5, q6, q7, q8, q9⟩ := lR _ hk hr
    have g1 : ¬ nR T ≤ i := by omega
    have r4 := (lo i hi).1
    have hlt : fl T (od i) 4 < 65536 ∧ fl T (od i) 5 < 65536 := ⟨wT.1.1 _, wT.1.1 _⟩
    have hnd : ndN (fl T (od i) 4) x < 2 ^ 31 := lt31 (ndN_le _ _ (n := 16) hlt.1) (by decide)
    have han : fl T (od i) 5 &&& x < 2 ^ 31 := Nat.lt_of_le_of_lt Nat.and_le_left (by omega)
    have low : ∀ f, f < fl T (od i) 1 → (x.testBit f = true ↔ 1 ≤ shP T e b f) := fun f hf => FP_low wT (Nat.le_refl _) ho1 ho2 ho3 (by omega) hF (by omega) (fun _ => hf)
    have hc := FP_c (x := x) (a := x) wT (Nat.le_refl 1) hk hr low low
    have KT : 1 ≤ stg T (shP T e b) b (od i) → VB N 1 mX5_shownAtAll 5 [.ref r, .null, .int (bI b), .int (nI (x ||| 2 ^ fl T (od i) 1)), .int (nI (i + 1))] [] μ (fun r μ' => ∃ v, r = some (.int v) ∧ Ψ v μ') := fun q => K' _ (FP_t hx hF hw.1 q)
    have KF : ¬ 1 ≤ stg T (shP T e b) b (od i) → VB N 1 mX5_shownAtAll 5 [.ref r, .null, .int (bI b), .int (nI x), .int (nI (i + 1))] [] μ (fun r μ' => ∃ v, r = some (.int v) ∧ Ψ v μ') := fun q => K' _ (FP_f hF q)
    refine tX5_shownAtAll_5 h5 ?_
    simp (disch := omega) only [lit, Nat.add_sub_cancel, Nat.not_lt_zero, ↓m1_mI, nI_add, pk_mul, nx_and, nx_or, and31, sh_r, sh_1, nx_nand, Nat.and_one_is_mod, nI_clamp, nI_leI, nI_ltI, nI_eq, tb_1, vp_t, up2_a, up2_b, up2_c, br_1, br_0, true_and, and_true, mI_ne, mI_ne', mI_lt, mI_le, mI_nle, mI_nlt, pk_sub, mI_sub, l2, eq_false g1, r4, q5, q8, q9]
    refine ⟨fun z1 => ⟨fun z2 => KT (hc.mpr ⟨hw.2.1, z1, Or.inl z2⟩), fun z2 => ⟨fun z3 => KT (hc.mpr ⟨hw.2.1, z1, Or.inr ((bI_eq hb (by omega)).mp z3)⟩), fun z3 => KF (fun y => ?_)⟩⟩, fun z1 => KF (fun y => z1 (hc.mp y).2.1)⟩
    exact (hc.mp y).2.2.elim z2 (fun w => z3 ((bI_eq hb (by omega)).mpr w))
  · intro x hF
    refine tX5_shownAtAll_5 h5 ?_
    simp (disch := omega) only [lit, Nat.add_sub_cancel, Nat.not_lt_zero, ↓m1_mI, nI_add, pk_mul, nx_and, nx_or, and31, sh_r, sh_1, nx_nand, Nat.and_one_is_mod, nI_clamp, nI_leI, nI_ltI, nI_eq, tb_1, vp_t, up2_a, up2_b, up2_c, br_1, br_0, true_and, and_true, mI_ne, mI_ne', mI_lt, mI_le, mI_nle, mI_nlt, pk_sub, mI_sub, l2, Nat.le_refl]
    have : x = eb (shP T e b) 1 := by
      apply bit_ext
      intro f
      rw [eb_tb]
      constructor
      · intro q
        have hf := tb_lt (n := 16) hF.1 q
        exact ⟨hf, (FP_low wT (Nat.le_refl _) ho1 ho2 ho3 (Nat.le_refl _) hF hf (fun z => by omega)).mp q⟩
      · rintro ⟨hf, q⟩
        exact (FP_low wT (Nat.le_refl _) ho1 ho2 ho3 (Nat.le_refl _) hF hf (fun z => by omega)).mpr q
    subst this
    exact ⟨_, rfl, h⟩
theorem c_shownBy {r s : Nat} {Ψ : Int32 → Me → Prop} (h5 : isL5 r) (hL : LW T r μ.1) (wT : WT T) (hb : b < 16 ∨ b = 99) (hs : 1 ≤ s) (hs9 : s ≤ 9) (h : Ψ (nI (eb (shP T e b) s)) μ) : VI N 1 mX5_shownBy [.ref r, .int (nI s), .int (nI (eb e s)), .int (nI (eb (shP T e b) 1)), .int (bI b)] μ Ψ := by
  obtain ⟨l2, -, -, lR, -, od, lo, ho2, ho3⟩ := hL
  have ho1 : ∀ i, i < nR T → od i < T 0 ∧ fl T (od i) 0 = 3 := fun i hi => (lo i hi).2
  have h16 := wT.1.2
  have hnR : nR T ≤ T 0 := cnt_le _ _
  have ha := eb_lt (shP T e b) 1
  refine tX5_shownBy_0 h5 ?_
  have Z := vb_for (N := N) (d := 1) (M := mX5_shownBy) (hd := 6) (Ψ := fun r μ' => ∃ v, r = some (.int v) ∧ Ψ v μ') (τ := Nat) (fun i x => [.ref r, .int (nI s), .null, .int (nI (eb (shP T e b) 1)), .int (bI b), .int (nI x), .int (nI i)]) (fun _ _ => μ) (nR T) (fun i x => FPs T e b s od i x) ?_ ?_ 0 (eb e s) (by omega) FP_0
  · exact Z
  · intro i x hi hF K'
    have hx := hF.1
    have ⟨hk, hr⟩ := ho1 i hi
    have hw := wT.2.1 _ hk hr
    obtain ⟨q5, q6, q7, q8, q9⟩ := lR _ hk hr
    have g1 : ¬ nR T ≤ i := by omega
    have r4 := (lo i hi).1
    have hlt : fl T (od i) 4 < 65536 ∧ fl T (od i) 5 < 65536 := ⟨wT.1.1 _, wT.1.1 _⟩
    have hnd : ndN (fl T (od i) 4) x < 2 ^ 31 := lt31 (ndN_le _ _ (n := 16) hlt.1) (by decide)
    have han : fl T (od i) 5 &&& eb (shP T e b) 1 < 2 ^ 31 := Nat.lt_of_le_of_lt Nat.and_le_left (by omega)
    have low : ∀ f, f < fl T (od i) 1 → (x.testBit f = true ↔ s ≤ shP T e b f) := fun f hf => FP_low wT hs ho1 ho2 ho3 (by omega) hF (by omega) (fun _ => hf)
    have hc := FP_c (x := x) (a := eb (shP T e b) 1) wT hs hk hr low (fun f hf => by rw [eb_tb]; exact ⟨fun q => q.2, fun q => ⟨by omega, q⟩⟩)
    have KT : s ≤ stg T (shP T e b) b (od i) → VB N 1 mX5_shownBy 6 [.ref r, .int (nI s), .null, .int (nI (eb (shP T e b) 1)), .int (bI b), .int (nI (x ||| 2 ^ fl T (od i) 1)), .int (nI (i + 1))] [] μ (fun r μ' => ∃ v, r = some (.int v) ∧ Ψ v μ') := fun q => K' _ (FP_t hx hF hw.1 q)
    have KF : ¬ s ≤ stg T (shP T e b) b (od i) → VB N 1 mX5_shownBy 6 [.ref r, .int (nI s), .null, .int (nI (eb (shP T e b) 1)), .int (bI b), .int (nI x), .int (nI (i + 1))] [] μ (fun r μ' => ∃ v, r = some (.int v) ∧ Ψ v μ') := fun q => K' _ (FP_f hF q)
    refine tX5_shownBy_6 h5 ?_
    simp (disch := omega) only [lit, Nat.add_sub_cancel, Nat.not_lt_zero, ↓m1_mI, nI_add, pk_mul, nx_and, nx_or, and31, sh_r, sh_1, nx_nand, Nat.and_one_is_mod, nI_clamp, nI_leI, nI_ltI, nI_eq, tb_1, vp_t, up2_a, up2_b, up2_c, br_1, br_0, true_and, and_true, mI_ne, mI_ne', mI_lt, mI_le, mI_nle, mI_nlt, pk_sub, mI_sub, l2, eq_false g1, r4, q5, q6, q8, q9]
    refine ⟨fun z0 => KF (fun y => by have := (hc.mp y).1; omega), fun z0 => ⟨fun z1 => ⟨fun z2 => KT (hc.mpr ⟨by omega, z1, Or.inl z2⟩), fun z2 => ⟨fun z3 => KT (hc.mpr ⟨by omega, z1, Or.inr ((bI_eq hb (by omega)).mp z3)⟩), fun z3 => KF (fun y => ?_)⟩⟩, fun z1 => KF (fun y => z1 (hc.mp y).2.1)⟩⟩
    exact (hc.mp y).2.2.elim z2 (fun w => z3 ((bI_eq hb (by omega)).mpr w))
  · intro x hF
    refine tX5_shownBy_6 h5 ?_
    simp (disch := omega) only [lit, Nat.add_sub_cancel, Nat.not_lt_zero, ↓m1_mI, nI_add, pk_mul, nx_and, nx_or, and31, sh_r, sh_1, nx_nand, Nat.and_one_is_mod, nI_clamp, nI_leI, nI_ltI, nI_eq, tb_1, vp_t, up2_a, up2_b, up2_c, br_1, br_0, true_and, and_true, mI_ne, mI_ne', mI_lt, mI_le, mI_nle, mI_nlt, pk_sub, mI_sub, l2, Nat.le_refl]
    have : x = eb (shP T e b) s := by
      apply bit_ext
      intro f
      rw [eb_tb]
      constructor
      · intro q
        have hf := tb_lt (n := 16) hF.1 q
        exact ⟨hf, (FP_low wT hs ho1 ho2 ho3 (Nat.le_refl _) hF hf (fun z => by omega)).mp q⟩
      · rintro ⟨hf, q⟩
        exact (FP_low wT hs ho1 ho2 ho3 (Nat.le_refl _) hF hf (fun z => by omega)).mpr q
    subst this
    exact ⟨_, rfl, h⟩
theorem c_carries {r r1 g u : Nat} {Ψ : Int32 → Me → Prop} (h5 : isL5 r) (h1 : r1 = 68 ∨ r1 = 70) (hL : LW T r μ.1) (wT : WT T) (hb : b < 16 ∨ b = 99) (he : cEv e (μ.1 (r1 + 1))) (hg : g < 16) (hu : 1 ≤ u) (hu9 : u ≤ 9) (k1 : u ≤ shP T e b g → Ψ 1 μ) (k0 : ¬ u ≤ shP T e b g → Ψ 0 μ) : VI N 2 mX5_carries [.ref r, .ref r1, .int (nI g), .int (nI u), .int (bI b)] μ Ψ := by
  have hl := fun s => eb_lt (shP T e b) s
  have hl1 := hl 1
  have hlu := hl u
  have fin : ∀ s, s = u → VB N 2 mX5_carries 42 [.null, .null, .int (nI g), .null, .null, .int (nI (eb (shP T e b) s))] [] μ (fun r μ' => ∃ v, r = some (.int v) ∧ Ψ v μ') := by
    intro s es
    subst es
    refine tX5_carries_42 ?_
    simp (disch := omega) only [lit, Nat.add_sub_cancel, Nat.not_lt_zero, ↓m1_mI, nI_add, pk_mul, nx_and, nx_or, and31, sh_r, sh_1, nx_nand, Nat.and_one_is_mod, nI_clamp, nI_leI, nI_ltI, nI_eq, tb_1, vp_t, up2_a, up2_b, up2_c, br_1, br_0, true_and, and_true, mI_ne, mI_ne', mI_lt, mI_le, mI_nle, mI_nlt, pk_sub, mI_sub]
    rw [eb_tb]
    exact ⟨fun q => ⟨_, rfl, k1 q.2⟩, fun q => ⟨_, rfl, k0 (fun z => q ⟨hg, z⟩)⟩⟩
  refine tX5_carries_0 h5 h1 ?_
  rw [he 1 (by decide) (by decide)]
  refine c_atAll h5 hL wT hb ?_
  have g9 : ¬ 9 < u := by omega
  simp (disch := omega) only [lit, Nat.add_sub_cancel, Nat.not_lt_zero, ↓m1_mI, nI_add, pk_mul, nx_and, nx_or, and31, sh_r, sh_1, nx_nand, Nat.and_one_is_mod, nI_clamp, nI_leI, nI_ltI, nI_eq, tb_1, vp_t, up2_a, up2_b, up2_c, br_1, br_0, true_and, and_true, mI_ne, mI_ne', mI_lt, mI_le, mI_nle, mI_nlt, pk_sub, mI_sub, eq_false g9]
  refine ⟨fun q => fin 1 (by omega), fun q => ?_⟩
  rw [he u hu hu9]
  exact c_shownBy h5 hL wT hb hu hu9 (fin u rfl)
theorem c_strength {r g : Nat} {Ψ : Int32 → Me → Prop} (h5 : isL5 r) (hL : LW T r μ.1) (wT : WT T) (he : cEv e (μ.1 69)) (he9 : ∀ f, e f ≤ 9) (hg : g < 16) (h : Ψ (nI (shP T e 99 g)) μ) : VI N 2 mX5_strengthOf [.ref r, .ref 68, .int (nI g)] μ Ψ := by
  have h9 : shP T e 99 g ≤ 9 := shN_9 wT he9 16 g
  refine tX5_strengthOf_0 h5 ?_
  rw [he 1 (by decide) (by decide)]
  refine c_atAll (b := 99) h5 hL wT (Or.inr rfl) ?_
  have Z := vb_wf (N := N) (d := 2) (M := mX5_strengthOf) (hd := 16) (Ψ := fun r μ' => ∃ v, r = some (.int v) ∧ Ψ v μ') (τ := Nat) (fun i => [.ref r, .ref 68, .int (nI g), .int (nI (eb (shP T e 99) 1)), .int (nI i)]) (fun _ => μ) (fun i => i) (fun i => i ≤ 9 ∧ shP T e 99 g ≤ i) ?_ 9 ⟨by omega, h9⟩
  · exact Z
  · rintro i ⟨hi, hle⟩ K'
    have hl := eb_lt (shP T e 99) i
    refine tX5_strengthOf_16 h5 ?_
    by_cases e0 : i < 1
    · simp (disch := omega) only [lit, Nat.add_sub_cancel, Nat.not_lt_zero, ↓m1_mI, nI_add, pk_mul, nx_and, nx_or, and31, sh_r, sh_1, nx_nand, Nat.and_one_is_mod, nI_clamp, nI_leI, nI_ltI, nI_eq, tb_1, vp_t, up2_a, up2_b, up2_c, br_1, br_0, true_and, and_true, mI_ne, mI_ne', mI_lt, mI_le, mI_nle, mI_nlt, pk_sub, mI_sub, eq_true e0]
      have : shP T e 99 g = 0 := by omega
      rw [this] at h
      exact ⟨_, rfl, h⟩
    · simp (disch := omega) only [lit, Nat.add_sub_cancel, Nat.not_lt_zero, ↓m1_mI, nI_add, pk_mul, nx_and, nx_or, and31, sh_r, sh_1, nx_nand, Nat.and_one_is_mod, nI_clamp, nI_leI, nI_ltI, nI_eq, tb_1, vp_t, up2_a, up2_b, up2_c, br_1, br_0, true_and, and_true, mI_ne, mI_ne', mI_lt, mI_le, mI_nle, mI_nlt, pk_sub, mI_sub, eq_false e0]
      rw [he i (by omega) hi]
      refine c_shownBy (b := 99) h5 hL wT (Or.inr rfl) (by omega) hi ?_
      simp (disch := omega) only [lit, Nat.add_sub_cancel, Nat.not_lt_zero, ↓m1_mI, nI_add, pk_mul, nx_and, nx_or, and31, sh_r, sh_1, nx_nand, Nat.and_one_is_mod, nI_clamp, nI_leI, nI_ltI, nI_eq, tb_1, vp_t, up2_a, up2_b, up2_c, br_1, br_0, true_and, and_true, mI_ne, mI_ne', mI_lt, mI_le, mI_nle, mI_nlt, pk_sub, mI_sub]
      rw [eb_tb]
      refine ⟨fun q => ⟨_, rfl, ?_⟩, fun q => K' (i - 1) ⟨by omega, ?_⟩ (by omega)⟩
      · have : shP T e 99 g = i := by omega
        rw [this] at h
        exact h
      · have : ¬ i ≤ shP T e 99 g := fun z => q ⟨hg, z⟩
        omega
end CV
