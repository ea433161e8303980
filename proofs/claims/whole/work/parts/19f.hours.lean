/-! the day: hours -/
section DH
variable {N : Nat} {μ : Me} {m K : Nat} {fe : Nat → Nat → Nat} {la : Nat → Nat} {nd : Nat → Nat → Nat}
theorem wr_cN {I : Nat → Nat → Int32} {c h t h' t' : Nat} {x : Int32} (hh : h < 64) (ht : t < 64) (hd : h &&& t = 0) (hh' : h' < 64) (ht' : t' < 64) (hd' : h' &&& t' = 0) (hne : ¬ (h = h' ∧ t = t')) : up2 I c (ro h' t') x c (ro h t) = I c (ro h t) := up2_b (fun q => hne (ro_inj hh ht hd hh' ht' hd' q))
theorem c_playHour {Ψ : Me → Prop} (h78 : ∀ b, b < 64 → μ.1 78 b = nI (sprN 6 b)) (h75 : μ.1 75 0 = nI m) (hf : ∀ i, i < m → ∀ mn, mn < 6 → μ.1 77 (i * 6 + mn) = nI (fe i mn)) (hfe : ∀ i mn, fe i mn ≤ 9999) (hm6 : m ≤ 6) (hK : K ≤ 2) (hnd : ∀ h t, nd h t ≤ 1000000) (hr : cN m K nd (μ.1 80)) (k : ∀ μ' : Me, Ag [80, 81] μ.1 μ'.1 → cN m K (fun h t => ahN fe (clP m K nd) h t m) (μ'.1 80) → cN m K (clP m K nd) (μ'.1 81) → Ψ μ') : VU N 3 mX2_playHour [.ref 75, .int (nI (2 ^ m)), .int (nI K)] μ Ψ := by
  have hp : 2 ^ m ≤ 2 ^ 6 := Nat.pow_le_pow_right (by decide) hm6
  have hcl : ∀ h t, clP m K nd h t ≤ 1000000 := fun h t => clP_6 hnd
  refine tX2_playHour_0 ?_
  refine vb_for (N := N) (d := 3) (M := mX2_playHour) (hd := 2) (τ := Me) (fun i _ => [.ref 75, .int (nI (2 ^ m)), .int (nI K), .int (nI i)]) (fun _ ν => ν) (2 ^ m) (fun i ν => Ag [81] μ.1 ν.1 ∧ ∀ h t, h < i → t < 2 ^ m → h &&& t = 0 → cn16 t ≤ K → ν.1 81 (ro h t) = nI (clP m K nd h t)) ?_ ?_ 0 μ (Nat.zero_le _) ⟨Ag.rf, fun h t hh => by omega⟩
  · intro i ν hi ⟨hA, hE⟩ K'
    have g1 : ¬ 2 ^ m ≤ i := by omega
    refine tX2_playHour_2 ?_
    simp (disch := omega) only [lit, Nat.add_sub_cancel, Nat.not_lt_zero, ↓m1_mI, nI_add, pk_mul, nx_and, nx_or, and31, sh_r, sh_1, nx_nand, Nat.and_one_is_mod, nI_clamp, nI_leI, nI_ltI, nI_eq, tb_1, vp_t, up2_a, up2_b, up2_c, br_1, br_0, true_and, and_true, mI_ne, mI_ne', mI_lt, mI_le, mI_nle, mI_nlt, pk_sub, mI_sub, eq_false g1]
    refine vb_for (N := N) (d := 3) (M := mX2_playHour) (hd := 10) (τ := Me) (fun j _ => [.ref 75, .int (nI (2 ^ m)), .int (nI K), .int (nI i), .int (nI j)]) (fun _ ν => ν) (2 ^ m) (fun j ξ => Ag [81] μ.1 ξ.1 ∧ ∀ h t, t < 2 ^ m → (h < i ∨ (h = i ∧ t < j)) → h &&& t = 0 → cn16 t ≤ K → ξ.1 81 (ro h t) = nI (clP m K nd h t)) ?_ ?_ 0 ν (Nat.zero_le _) ⟨hA, fun h t ht hq hd hpc => hE h t (by omega) ht hd hpc⟩
    · intro j ξ hj ⟨hA2, hE2⟩ K2
      have g2 : ¬ 2 ^ m ≤ j := by omega
      have han : i &&& j < 2 ^ 31 := Nat.lt_of_le_of_lt Nat.and_le_left (by omega)
      have hp6 := pc_6 j (by omega)
      have x78 : ∀ b, b < 64 → ξ.1 78 b = nI (sprN 6 b) := by rw [hA2 78 (by decide)]; exact h78
      have skip : ¬ (i &&& j = 0 ∧ cn16 j ≤ K) → VB N 3 mX2_playHour 10 [.ref 75, .int (nI (2 ^ m)), .int (nI K), .int (nI i), .int (nI (j + 1))] [] ξ (fun r μ' => r = none ∧ Ψ μ') := by
        intro q
        refine K2 ξ ⟨hA2, fun h t ht hq hd hpc => ?_⟩
        by_cases e : h = i ∧ t = j
        · obtain ⟨rfl, rfl⟩ := e
          exact absurd ⟨hd, hpc⟩ q
        · exact hE2 h t ht (by omega) hd hpc
      refine tX2_playHour_10 ?_
      simp (disch := omega) only [lit, Nat.add_sub_cancel, Nat.not_lt_zero, ↓m1_mI, nI_add, pk_mul, nx_and, nx_or, and31, sh_r, sh_1, nx_nand, Nat.and_one_is_mod, nI_clamp, nI_leI, nI_ltI, nI_eq, tb_1, vp_t, up2_a, up2_b, up2_c, br_1, br_0, true_and, and_true, mI_ne, mI_ne', mI_lt, mI_le, mI_nle, mI_nlt, pk_sub, mI_sub, eq_false g2]
      refine ⟨fun z => c_bc (by omega) ?_, fun z => skip (fun y => z y.1)⟩
      simp (disch := omega) only [lit, Nat.add_sub_cancel, Nat.not_lt_zero, ↓m1_mI, nI_add, pk_mul, nx_and, nx_or, and31, sh_r, sh_1, nx_nand, Nat.and_one_is_mod, nI_clamp, nI_leI, nI_ltI, nI_eq, tb_1, vp_t, up2_a, up2_b, up2_c, br_1, br_0, true_and, and_true, mI_ne, mI_ne', mI_lt, mI_le, mI_nle, mI_nlt, pk_sub, mI_sub]
      refine ⟨fun z2 => skip (fun y => by omega), fun z2 => ?_⟩
      refine c_rowOf x78 (by omega) (by omega) ?_
      refine c_behind x78 (by rw [hA2 75 (by decide)]; exact h75) hm6 hK hnd (by rw [hA2 80 (by decide)]; exact hr) hi hj z (by omega) ?_
      have hro := ro_lt (show i < 64 by omega) (show j < 64 by omega)
      simp (disch := omega) only [lit, Nat.add_sub_cancel, Nat.not_lt_zero, ↓m1_mI, nI_add, pk_mul, nx_and, nx_or, and31, sh_r, sh_1, nx_nand, Nat.and_one_is_mod, nI_clamp, nI_leI, nI_ltI, nI_eq, tb_1, vp_t, up2_a, up2_b, up2_c, br_1, br_0, true_and, and_true, mI_ne, mI_ne', mI_lt, mI_le, mI_nle, mI_nlt, pk_sub, mI_sub]
      refine K2 _ ⟨hA2.up (by decide), fun h t ht hq hd hpc => ?_⟩
      by_cases e : h = i ∧ t = j
      · obtain ⟨rfl, rfl⟩ := e
        simp only [up2_c]
      · simp only [wr_cN (show h < 64 by omega) (show t < 64 by omega) hd (show i < 64 by omega) (show j < 64 by omega) z e]
        exact hE2 h t ht (by omega) hd hpc
    · intro ξ ⟨hA2, hE2⟩
      refine tX2_playHour_10 ?_
      simp (disch := omega) only [lit, Nat.add_sub_cancel, Nat.not_lt_zero, ↓m1_mI, nI_add, pk_mul, nx_and, nx_or, and31, sh_r, sh_1, nx_nand, Nat.and_one_is_mod, nI_clamp, nI_leI, nI_ltI, nI_eq, tb_1, vp_t, up2_a, up2_b, up2_c, br_1, br_0, true_and, and_true, mI_ne, mI_ne', mI_lt, mI_le, mI_nle, mI_nlt, pk_sub, mI_sub, Nat.le_refl]
      exact K' ξ ⟨hA2, fun h t hh ht hd hpc => hE2 h t ht (by omega) hd hpc⟩
  · intro ν ⟨hA, hE⟩
    have hE' : cN m K (clP m K nd) (ν.1 81) := fun h t hh ht hd hpc => hE h t hh ht hd hpc
    refine tX2_playHour_2 ?_
    simp (disch := omega) only [lit, Nat.add_sub_cancel, Nat.not_lt_zero, ↓m1_mI, nI_add, pk_mul, nx_and, nx_or, and31, sh_r, sh_1, nx_nand, Nat.and_one_is_mod, nI_clamp, nI_leI, nI_ltI, nI_eq, tb_1, vp_t, up2_a, up2_b, up2_c, br_1, br_0, true_and, and_true, mI_ne, mI_ne', mI_lt, mI_le, mI_nle, mI_nlt, pk_sub, mI_sub, Nat.le_refl]
    refine vb_for (N := N) (d := 3) (M := mX2_playHour) (hd := 66) (τ := Me) (fun i _ => [.ref 75, .int (nI (2 ^ m)), .int (nI K), .int (nI i)]) (fun _ ν => ν) (2 ^ m) (fun i ζ => Ag [80] ν.1 ζ.1 ∧ ∀ h t, h < i → t < 2 ^ m → h &&& t = 0 → cn16 t ≤ K → ζ.1 80 (ro h t) = nI (ahN fe (clP m K nd) h t m)) ?_ ?_ 0 ν (Nat.zero_le _) ⟨Ag.rf, fun h t hh => by omega⟩
    · intro i ζ hi ⟨hA1, hE1⟩ K'
      have g1 : ¬ 2 ^ m ≤ i := by omega
      refine tX2_playHour_66 ?_
      simp (disch := omega) only [lit, Nat.add_sub_cancel, Nat.not_lt_zero, ↓m1_mI, nI_add, pk_mul, nx_and, nx_or, and31, sh_r, sh_1, nx_nand, Nat.and_one_is_mod, nI_clamp, nI_leI, nI_ltI, nI_eq, tb_1, vp_t, up2_a, up2_b, up2_c, br_1, br_0, true_and, and_true, mI_ne, mI_ne', mI_lt, mI_le, mI_nle, mI_nlt, pk_sub, mI_sub, eq_false g1]
      refine vb_for (N := N) (d := 3) (M := mX2_playHour) (hd := 74) (τ := Me) (fun j _ => [.ref 75, .int (nI (2 ^ m)), .int (nI K), .int (nI i), .int (nI j)]) (fun _ ν => ν) (2 ^ m) (fun j ξ => Ag [80] ν.1 ξ.1 ∧ ∀ h t, t < 2 ^ m → (h < i ∨ (h = i ∧ t < j)) → h &&& t = 0 → cn16 t ≤ K → ξ.1 80 (ro h t) = nI (ahN fe (clP m K nd) h t m)) ?_ ?_ 0 ζ (Nat.zero_le _) ⟨hA1, fun h t ht hq hd hpc => hE1 h t (by omega) ht hd hpc⟩
      · intro j ξ hj ⟨hA2, hE2⟩ K2
        have g2 : ¬ 2 ^ m ≤ j := by omega
        have han : i &&& j < 2 ^ 31 := Nat.lt_of_le_of_lt Nat.and_le_left (by omega)
        have hp6 := pc_6 j (by omega)
        have x78 : ∀ b, b < 64 → ξ.1 78 b = nI (sprN 6 b) := by rw [hA2 78 (by decide), hA 78 (by decide)]; exact h78
        have skip : ¬ (i &&& j = 0 ∧ cn16 j ≤ K) → VB N 3 mX2_playHour 74 [.ref 75, .int (nI (2 ^ m)), .int (nI K), .int (nI i), .int (nI (j + 1))] [] ξ (fun r μ' => r = none ∧ Ψ μ') := by
          intro q
          refine K2 ξ ⟨hA2, fun h t ht hq hd hpc => ?_⟩
          by_cases e : h = i ∧ t = j
          · obtain ⟨rfl, rfl⟩ := e
            exact absurd ⟨hd, hpc⟩ q
          · exact hE2 h t ht (by omega) hd hpc
        refine tX2_playHour_74 ?_
        simp (disch := omega) only [lit, Nat.add_sub_cancel, Nat.not_lt_zero, ↓m1_mI, nI_add, pk_mul, nx_and, nx_or, and31, sh_r, sh_1, nx_nand, Nat.and_one_is_mod, nI_clamp, nI_leI, nI_ltI, nI_eq, tb_1, vp_t, up2_a, up2_b, up2_c, br_1, br_0, true_and, and_true, mI_ne, mI_ne', mI_lt, mI_le, mI_nle, mI_nlt, pk_sub, mI_sub, eq_false g2]
        refine ⟨fun z => c_bc (by omega) ?_, fun z => skip (fun y => z y.1)⟩
        simp (disch := omega) only [lit, Nat.add_sub_cancel, Nat.not_lt_zero, ↓m1_mI, nI_add, pk_mul, nx_and, nx_or, and31, sh_r, sh_1, nx_nand, Nat.and_one_is_mod, nI_clamp, nI_leI, nI_ltI, nI_eq, tb_1, vp_t, up2_a, up2_b, up2_c, br_1, br_0, true_and, and_true, mI_ne, mI_ne', mI_lt, mI_le, mI_nle, mI_nlt, pk_sub, mI_sub]
        refine ⟨fun z2 => skip (fun y => by omega), fun z2 => ?_⟩
        refine c_rowOf x78 (by omega) (by omega) ?_
        refine c_ahead x78 (by rw [hA2 75 (by decide), hA 75 (by decide)]; exact h75) (by rw [hA2 77 (by decide), hA 77 (by decide)]; exact hf) hfe hm6 hcl (by rw [hA2 81 (by decide)]; exact hE') hi hj z (by omega) ?_
        have hro := ro_lt (show i < 64 by omega) (show j < 64 by omega)
        simp (disch := omega) only [lit, Nat.add_sub_cancel, Nat.not_lt_zero, ↓m1_mI, nI_add, pk_mul, nx_and, nx_or, and31, sh_r, sh_1, nx_nand, Nat.and_one_is_mod, nI_clamp, nI_leI, nI_ltI, nI_eq, tb_1, vp_t, up2_a, up2_b, up2_c, br_1, br_0, true_and, and_true, mI_ne, mI_ne', mI_lt, mI_le, mI_nle, mI_nlt, pk_sub, mI_sub]
        refine K2 _ ⟨hA2.up (by decide), fun h t ht hq hd hpc => ?_⟩
        by_cases e : h = i ∧ t = j
        · obtain ⟨rfl, rfl⟩ := e
          simp only [up2_c]
        · simp only [wr_cN (show h < 64 by omega) (show t < 64 by omega) hd (show i < 64 by omega) (show j < 64 by omega) z e]
          exact hE2 h t ht (by omega) hd hpc
      · intro ξ ⟨hA2, hE2⟩
        refine tX2_playHour_74 ?_
        simp (disch := omega) only [lit, Nat.add_sub_cancel, Nat.not_lt_zero, ↓m1_mI, nI_add, pk_mul, nx_and, nx_or, and31, sh_r, sh_1, nx_nand, Nat.and_one_is_mod, nI_clamp, nI_leI, nI_ltI, nI_eq, tb_1, vp_t, up2_a, up2_b, up2_c, br_1, br_0, true_and, and_true, mI_ne, mI_ne', mI_lt, mI_le, mI_nle, mI_nlt, pk_sub, mI_sub, Nat.le_refl]
        exact K' ξ ⟨hA2, fun h t hh ht hd hpc => hE2 h t ht (by omega) hd hpc⟩
    · intro ζ ⟨hA1, hE1⟩
      refine tX2_playHour_66 ?_
      simp (disch := omega) only [lit, Nat.add_sub_cancel, Nat.not_lt_zero, ↓m1_mI, nI_add, pk_mul, nx_and, nx_or, and31, sh_r, sh_1, nx_nand, Nat.and_one_is_mod, nI_clamp, nI_leI, nI_ltI, nI_eq, tb_1, vp_t, up2_a, up2_b, up2_c, br_1, br_0, true_and, and_true, mI_ne, mI_ne', mI_lt, mI_le, mI_nle, mI_nlt, pk_sub, mI_sub, Nat.le_refl]
      exact k ζ ((hA.mono (by decide)).tr (hA1.mono (by decide))) (fun h t hh ht hd hpc => hE1 h t hh ht hd hpc) (by rw [hA1 81 (by decide)]; exact hE')
theorem c_play {n : Nat} {Ψ : Me → Prop} (h78 : ∀ b, b < 64 → μ.1 78 b = nI (sprN 6 b)) (h75 : μ.1 75 0 = nI m) (hf : ∀ i, i < m → ∀ mn, mn < 6 → μ.1 77 (i * 6 + mn) = nI (fe i mn)) (hfe : ∀ i mn, fe i mn ≤ 9999) (hm6 : m ≤ 6) (hK : K ≤ 2) (hn : n ≤ 6) (hla : ∀ h, la h ≤ 1000000) (h79 : ∀ h, h < 2 ^ m → μ.1 79 h = nI (la h)) (k : ∀ μ' : Me, Ag [80, 81] μ.1 μ'.1 → cN m K (ndD m K fe la n) (μ'.1 80) → (∀ j, n = j + 1 → cN m K (clP m K (ndD m K fe la j)) (μ'.1 81)) → Ψ μ') : VU N 4 mX2_play [.ref 75, .int (nI n), .int (nI K)] μ Ψ := by
  have hp : 2 ^ m ≤ 2 ^ 6 := Nat.pow_le_pow_right (by decide) hm6
  refine tX2_play_0 ?_
  simp (disch := omega) only [lit, Nat.add_sub_cancel, Nat.not_lt_zero, ↓m1_mI, nI_add, pk_mul, nx_and, nx_or, and31, sh_r, sh_1, nx_nand, Nat.and_one_is_mod, nI_clamp, nI_leI, nI_ltI, nI_eq, tb_1, vp_t, up2_a, up2_b, up2_c, br_1, br_0, true_and, and_true, mI_ne, mI_ne', mI_lt, mI_le, mI_nle, mI_nlt, pk_sub, mI_sub, h75]
  refine vb_for (N := N) (d := 4) (M := mX2_play) (hd := 10) (τ := Me) (fun i _ => [.ref 75, .int (nI n), .int (nI K), .int (nI (2 ^ m)), .int (nI i)]) (fun _ ν => ν) (2 ^ m) (fun i ν => Ag [80] μ.1 ν.1 ∧ ∀ h t, h < i → t < 2 ^ m → h &&& t = 0 → ν.1 80 (ro h t) = nI (la h)) ?_ ?_ 0 μ (Nat.zero_le _) ⟨Ag.rf, fun h t hh => by omega⟩
  · intro i ν hi ⟨hA, hE⟩ K'
    have g1 : ¬ 2 ^ m ≤ i := by omega
    have g2 : ¬ 64 ≤ i := by omega
    refine tX2_play_10 ?_
    simp (disch := omega) only [lit, Nat.add_sub_cancel, Nat.not_lt_zero, ↓m1_mI, nI_add, pk_mul, nx_and, nx_or, and31, sh_r, sh_1, nx_nand, Nat.and_one_is_mod, nI_clamp, nI_leI, nI_ltI, nI_eq, tb_1, vp_t, up2_a, up2_b, up2_c, br_1, br_0, true_and, and_true, mI_ne, mI_ne', mI_lt, mI_le, mI_nle, mI_nlt, pk_sub, mI_sub, eq_false g1, eq_false g2]
    refine vb_for (N := N) (d := 4) (M := mX2_play) (hd := 26) (τ := Me) (fun j _ => [.ref 75, .int (nI n), .int (nI K), .int (nI (2 ^ m)), .int (nI i), .int (nI j)]) (fun _ ν => ν) (2 ^ m) (fun j ξ => Ag [80] μ.1 ξ.1 ∧ ∀ h t, t < 2 ^ m → (h < i ∨ (h = i ∧ t < j)) → h &&& t = 0 → ξ.1 80 (ro h t) = nI (la h)) ?_ ?_ 0 ν (Nat.zero_le _) ⟨hA, fun h t ht hq hd => hE h t (by omega) ht hd⟩
    · intro j ξ hj ⟨hA2, hE2⟩ K2
      have g3 : ¬ 2 ^ m ≤ j := by omega
      have x78 : ∀ b, b < 64 → ξ.1 78 b = nI (sprN 6 b) := by rw [hA2 78 (by decide)]; exact h78
      have x79 : ξ.1 79 i = nI (la i) := by rw [hA2 79 (by decide)]; exact h79 i hi
      have hro := ro_lt (show i < 64 by omega) (show j < 64 by omega)
      refine tX2_play_26 ?_
      simp (disch := omega) only [lit, Nat.add_sub_cancel, Nat.not_lt_zero, ↓m1_mI, nI_add, pk_mul, nx_and, nx_or, and31, sh_r, sh_1, nx_nand, Nat.and_one_is_mod, nI_clamp, nI_leI, nI_ltI, nI_eq, tb_1, vp_t, up2_a, up2_b, up2_c, br_1, br_0, true_and, and_true, mI_ne, mI_ne', mI_lt, mI_le, mI_nle, mI_nlt, pk_sub, mI_sub, eq_false g3]
      refine c_rowOf x78 (by omega) (by omega) ?_
      simp (disch := omega) only [lit, Nat.add_sub_cancel, Nat.not_lt_zero, ↓m1_mI, nI_add, pk_mul, nx_and, nx_or, and31, sh_r, sh_1, nx_nand, Nat.and_one_is_mod, nI_clamp, nI_leI, nI_ltI, nI_eq, tb_1, vp_t, up2_a, up2_b, up2_c, br_1, br_0, true_and, and_true, mI_ne, mI_ne', mI_lt, mI_le, mI_nle, mI_nlt, pk_sub, mI_sub, x79]
      refine K2 _ ⟨hA2.up (by decide), fun h t ht hq hd => ?_⟩
      have hjl : ndN j i < 64 := ndN_le j i (n := 6) (by omega)
      rw [ro_nd (h := i) (t := j)]
      by_cases e : h = i ∧ t = ndN j i
      · obtain ⟨rfl, rfl⟩ := e
        simp only [up2_c]
      · simp only [wr_cN (show h < 64 by omega) (show t < 64 by omega) hd (show i < 64 by omega) hjl (nd_dis i j) e]
        by_cases e2 : h = i ∧ t = j
        · obtain ⟨rfl, rfl⟩ := e2
          exfalso
          apply e
          refine ⟨rfl, ?_⟩
          apply Nat.eq_of_testBit_eq
          intro u
          rw [ndN_tb]
          cases hu : h.testBit u
          · simp
          · rw [(and_0 _ _).mp hd u hu]; rfl
        · exact hE2 h t ht (by omega) hd
    · intro ξ ⟨hA2, hE2⟩
      refine tX2_play_26 ?_
      simp (disch := omega) only [lit, Nat.add_sub_cancel, Nat.not_lt_zero, ↓m1_mI, nI_add, pk_mul, nx_and, nx_or, and31, sh_r, sh_1, nx_nand, Nat.and_one_is_mod, nI_clamp, nI_leI, nI_ltI, nI_eq, tb_1, vp_t, up2_a, up2_b, up2_c, br_1, br_0, true_and, and_true, mI_ne, mI_ne', mI_lt, mI_le, mI_nle, mI_nlt, pk_sub, mI_sub, Nat.le_refl]
      exact K' ξ ⟨hA2, fun h t hh ht hd => hE2 h t ht (by omega) hd⟩
  · intro ν ⟨hA, hE⟩
    refine tX2_play_10 ?_
    simp (disch := omega) only [lit, Nat.add_sub_cancel, Nat.not_lt_zero, ↓m1_mI, nI_add, pk_mul, nx_and, nx_or, and31, sh_r, sh_1, nx_nand, Nat.and_one_is_mod, nI_clamp, nI_leI, nI_ltI, nI_eq, tb_1, vp_t, up2_a, up2_b, up2_c, br_1, br_0, true_and, and_true, mI_ne, mI_ne', mI_lt, mI_le, mI_nle, mI_nlt, pk_sub, mI_sub, Nat.le_refl]
    refine vb_for (N := N) (d := 4) (M := mX2_play) (hd := 67) (τ := Me) (fun i _ => [.ref 75, .int (nI n), .int (nI K), .int (nI (2 ^ m)), .int (nI i)]) (fun _ ν => ν) n (fun i ζ => Ag [80, 81] μ.1 ζ.1 ∧ cN m K (ndD m K fe la i) (ζ.1 80) ∧ ∀ j, i = j + 1 → cN m K (clP m K (ndD m K fe la j)) (ζ.1 81)) ?_ ?_ 0 ν (Nat.zero_le _) ⟨hA.mono (by decide), fun h t hh ht hd _ => hE h t hh ht hd, fun j hj => by omega⟩
    · intro i ζ hi ⟨hA1, hE1, _⟩ K'
      have g1 : ¬ n ≤ i := by omega
      have g2 : ¬ 6 ≤ i := by omega
      refine tX2_play_67 ?_
      simp (disch := omega) only [lit, Nat.add_sub_cancel, Nat.not_lt_zero, ↓m1_mI, nI_add, pk_mul, nx_and, nx_or, and31, sh_r, sh_1, nx_nand, Nat.and_one_is_mod, nI_clamp, nI_leI, nI_ltI, nI_eq, tb_1, vp_t, up2_a, up2_b, up2_c, br_1, br_0, true_and, and_true, mI_ne, mI_ne', mI_lt, mI_le, mI_nle, mI_nlt, pk_sub, mI_sub, eq_false g1, eq_false g2]
      refine c_playHour (fe := fe) (nd := ndD m K fe la i) (by rw [hA1 78 (by decide)]; exact h78) (by rw [hA1 75 (by decide)]; exact h75) (by rw [hA1 77 (by decide)]; exact hf) hfe hm6 hK (ndD_6 hla i) hE1 (fun μ2 a2 q1 q2 => ?_)
      refine K' μ2 ⟨hA1.tr a2, q1, fun j hj => ?_⟩
      have : i = j := by omega
      subst this
      exact q2
    · intro ζ ⟨hA1, hE1, hE2⟩
      refine tX2_play_67 ?_
      simp (disch := omega) only [lit, Nat.add_sub_cancel, Nat.not_lt_zero, ↓m1_mI, nI_add, pk_mul, nx_and, nx_or, and31, sh_r, sh_1, nx_nand, Nat.and_one_is_mod, nI_clamp, nI_leI, nI_ltI, nI_eq, tb_1, vp_t, up2_a, up2_b, up2_c, br_1, br_0, true_and, and_true, mI_ne, mI_ne', mI_lt, mI_le, mI_nle, mI_nlt, pk_sub, mI_sub, Nat.le_refl]
      exact k ζ hA1 hE1 hE2
end DH
