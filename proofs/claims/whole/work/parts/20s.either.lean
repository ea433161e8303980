/-! the class reads what is asked, with and, or -/
section CS2
variable {N : Nat} {bt : Nat → Nat} {tn m fee : Nat}
theorem c_eithF {f k : Nat} {i j : Nat} {μ : Me} {Φ : Me → Prop} (hj : j < 300) (hi : i < 300) (h : CF bt tn m f k μ.1) (K : ∀ I, CFr μ.1 I → CF bt tn m f k I → Φ (I, μ.2)) : VB N 41 mX6_either 22 [.ref 51, .null, .int (nI i), .int (nI j)] [] μ (fun r μ' => r = none ∧ Φ μ') := by
  have e83 : ∀ I, CFr μ.1 I → CF bt tn m f k I → VB N 41 mX6_either 83 [.ref 51, .null, .int (nI i)] [] (I, μ.2) (fun r μ' => r = none ∧ Φ μ') := by
    intro I fr h'
    refine tX6_either_83 (c_sortF (μ := (I, μ.2)) h' ?_)
    simp (disch := omega) only [lit, Nat.add_sub_cancel, Nat.not_lt_zero, ↓m1_mI, nI_add, pk_mul, nx_and, nx_or, and31, sh_r, sh_1, nx_nand, Nat.and_one_is_mod, nI_clamp, nI_leI, nI_ltI, nI_eq, tb_1, vp_t, up2_a, up2_b, up2_c, br_1, br_0, true_and, and_true, mI_ne, mI_ne', mI_lt, mI_le, mI_nle, mI_nlt, pk_sub, mI_sub, eq_false (show ¬ (21 : Nat) = 9 by decide)]
    refine tX6_either_97 ?_
    simp (disch := omega) only [lit, Nat.add_sub_cancel, Nat.not_lt_zero, ↓m1_mI, nI_add, pk_mul, nx_and, nx_or, and31, sh_r, sh_1, nx_nand, Nat.and_one_is_mod, nI_clamp, nI_leI, nI_ltI, nI_eq, tb_1, vp_t, up2_a, up2_b, up2_c, br_1, br_0, true_and, and_true, mI_ne, mI_ne', mI_lt, mI_le, mI_nle, mI_nlt, pk_sub, mI_sub, eq_true (show (0 : Nat) = 0 from rfl)]
    refine tX6_either_4 ?_
    simp (disch := omega) only [lit, Nat.add_sub_cancel, Nat.not_lt_zero, ↓m1_mI, nI_add, pk_mul, nx_and, nx_or, and31, sh_r, sh_1, nx_nand, Nat.and_one_is_mod, nI_clamp, nI_leI, nI_ltI, nI_eq, tb_1, vp_t, up2_a, up2_b, up2_c, br_1, br_0, true_and, and_true, mI_ne, mI_ne', mI_lt, mI_le, mI_nle, mI_nlt, pk_sub, mI_sub, eq_true (show (0 : Nat) = 0 from rfl)]
    have := K I fr h'
    exact ⟨fun _ => this, fun _ => this⟩
  refine tX6_either_22 ?_
  simp (disch := omega) only [lit, Nat.add_sub_cancel, Nat.not_lt_zero, ↓m1_mI, nI_add, pk_mul, nx_and, nx_or, and31, sh_r, sh_1, nx_nand, Nat.and_one_is_mod, nI_clamp, nI_leI, nI_ltI, nI_eq, tb_1, vp_t, up2_a, up2_b, up2_c, br_1, br_0, true_and, and_true, mI_ne, mI_ne', mI_lt, mI_le, mI_nle, mI_nlt, pk_sub, mI_sub, eq_false (show ¬ 300 ≤ j by omega)]
  refine c_sortF h ?_
  simp (disch := omega) only [lit, Nat.add_sub_cancel, Nat.not_lt_zero, ↓m1_mI, nI_add, pk_mul, nx_and, nx_or, and31, sh_r, sh_1, nx_nand, Nat.and_one_is_mod, nI_clamp, nI_leI, nI_ltI, nI_eq, tb_1, vp_t, up2_a, up2_b, up2_c, br_1, br_0, true_and, and_true, mI_ne, mI_ne', mI_lt, mI_le, mI_nle, mI_nlt, pk_sub, mI_sub, eq_false (show ¬ (21 : Nat) = 10 by decide)]
  refine tX6_either_69 ?_
  exact ⟨fun _ => e83 μ.1 CFr.rf h, fun _ => c_emitF h (fun I q1 q2 => e83 I q1 q2)⟩
theorem c_eithL (ask : C3 N bt tn m fee 8 0 40) : ∀ n,
    (∀ k L o i (μ : Me) (Φ : Me → Prop), m - k < n → CKt bt tn m k L μ.1 → L.length + ok1 o ≤ k → μ.1 51 6 = nI fee → 2 * i ≤ k → (o = 0 ↔ i = 0) → o ≤ 1 → Rdg bt tn m (Re (kT bt tn) (kV bt tn) fee 0 0 o k) L μ Φ → VB N 41 mX6_either 4 [.ref 51, .int (nI 1), .int (nI i)] [] μ (fun r μ' => r = none ∧ Φ μ')) ∧
    (∀ k L o i j (μ : Me) (Φ : Me → Prop), m - k < n → CKt bt tn m k L μ.1 → L.length + ok1 o ≤ k → μ.1 51 6 = nI fee → 2 * i + 1 ≤ k → 2 * j ≤ k → (o = 0 ↔ i = 0) → o ≤ 1 → Rdg bt tn m (Re (kT bt tn) (kV bt tn) fee 1 0 o k) L μ Φ → VB N 41 mX6_either 22 [.ref 51, .null, .int (nI i), .int (nI j)] [] μ (fun r μ' => r = none ∧ Φ μ')) := by
  obtain ⟨u1, u2, u3, u4, u5⟩ := Re.rules (T := kT bt tn) (V := kV bt tn) (fee := fee)
  intro n
  induction n with
  | zero => exact ⟨fun k L o i μ Φ h => absurd h (by omega), fun k L o i j μ Φ h => absurd h (by omega)⟩
  | succ n ih =>
    obtain ⟨ihO, ihI⟩ := ih
    refine ⟨?_, ?_⟩
    · intro k L o i μ Φ hn h hL h6 hi hoi ho K
      have hm := h.1.1
      have hkm := h.2.1
      refine tX6_either_4 ?_
      simp (disch := omega) only [lit, Nat.add_sub_cancel, Nat.not_lt_zero, ↓m1_mI, nI_add, pk_mul, nx_and, nx_or, and31, sh_r, sh_1, nx_nand, Nat.and_one_is_mod, nI_clamp, nI_leI, nI_ltI, nI_eq, tb_1, vp_t, up2_a, up2_b, up2_c, br_1, br_0, true_and, and_true, mI_ne, mI_ne', mI_lt, mI_le, mI_nle, mI_nlt, pk_sub, mI_sub, eq_false (show ¬ 300 ≤ i by omega), eq_false (show ¬ (1 : Nat) = 0 by decide)]
      refine ask μ _ k L h (by omega) h6 (fun f k1 c I hr fr hok hno => ?_)
      by_cases ef : f = 0
      · subst ef
        have hk1 := hok rfl
        obtain ⟨r1, r2, r3⟩ := hr.len
        have r3 := r3 rfl
        refine ihI k1 (L ++ c) o i 0 (I, μ.2) Φ (by have := hk1.2.1; omega) hk1 (by rw [List.length_append]; omega) ((fr.2.1 6 (by decide) (by decide) (by decide)).trans h6) (by omega) (by omega) hoi ho (fun f2 k2 c2 I2 hr2 fr2 ho2 hn2 => ?_)
        have := u2 0 o k k1 c f2 k2 c2 hr hr2
        rw [show pb 0 21 = [] from rfl, List.append_nil] at this
        exact K f2 k2 _ I2 this (fr.tr fr2) (fun e => by rw [← List.append_assoc]; exact ho2 e) hn2
      · exact c_eithF (bt := bt) (tn := tn) (m := m) (f := f) (k := k1) (μ := (I, μ.2)) (by decide) (by omega) (hno ef) (fun I2 q1 q2 => K.no (u1 0 o k f k1 c hr ef) ef (fr.tr q1) q2)
    · intro k L o i j μ Φ hn h hL h6 hi hj hoi ho K
      have hm := h.1.1
      have hkm := h.2.1
      have hb := kT_lt h.1.2.2.1 k
      have e83 : kT bt tn k ≠ 10 → ∀ I, CFr μ.1 I → CKt bt tn m k (L ++ pb o 22) I → VB N 41 mX6_either 83 [.ref 51, .null, .int (nI i)] [] (I, μ.2) (fun r μ' => r = none ∧ Φ μ') := by
        intro g I fr hk
        refine tX6_either_83 (c_sort (μ := (I, μ.2)) hk ?_)
        simp (disch := omega) only [lit, Nat.add_sub_cancel, Nat.not_lt_zero, ↓m1_mI, nI_add, pk_mul, nx_and, nx_or, and31, sh_r, sh_1, nx_nand, Nat.and_one_is_mod, nI_clamp, nI_leI, nI_ltI, nI_eq, tb_1, vp_t, up2_a, up2_b, up2_c, br_1, br_0, true_and, and_true, mI_ne, mI_ne', mI_lt, mI_le, mI_nle, mI_nlt, pk_sub, mI_sub]
        refine ⟨fun q => ?_, fun q => ?_⟩
        · have hlt := ((h.1.get hkm).2.2 (by omega)).1
          refine tX6_either_97 ?_
          have h5 : I 51 5 = nI k := hk.2.2.1
          simp (disch := omega) only [lit, Nat.add_sub_cancel, Nat.not_lt_zero, ↓m1_mI, nI_add, pk_mul, nx_and, nx_or, and31, sh_r, sh_1, nx_nand, Nat.and_one_is_mod, nI_clamp, nI_leI, nI_ltI, nI_eq, tb_1, vp_t, up2_a, up2_b, up2_c, br_1, br_0, true_and, and_true, mI_ne, mI_ne', mI_lt, mI_le, mI_nle, mI_nlt, pk_sub, mI_sub, eq_false (show ¬ (1 : Nat) = 0 by decide), h5]
          have fr0 : CFr I (up2 I 51 5 (nI (k + 1))) := CFr.at (by omega)
          have fr1 := fr.tr fr0
          refine ihO (k + 1) (L ++ pb o 22) 1 (i + 1) (up2 I 51 5 (nI (k + 1)), μ.2) Φ (by omega) (hk.nx (by omega)) (by rw [List.length_append, pb_l]; have : ok1 1 = 1 := rfl; omega) ((fr1.2.1 6 (by decide) (by decide) (by decide)).trans h6) (by omega) (by omega) (by decide) (fun f k1 c I2 hr fr2 hok hno => ?_)
          exact K f k1 _ I2 (u4 o k f k1 c q hr) (fr1.tr fr2) (fun e => by rw [← List.append_assoc]; exact hok e) hno
        · refine tX6_either_97 ?_
          simp (disch := omega) only [lit, Nat.add_sub_cancel, Nat.not_lt_zero, ↓m1_mI, nI_add, pk_mul, nx_and, nx_or, and31, sh_r, sh_1, nx_nand, Nat.and_one_is_mod, nI_clamp, nI_leI, nI_ltI, nI_eq, tb_1, vp_t, up2_a, up2_b, up2_c, br_1, br_0, true_and, and_true, mI_ne, mI_ne', mI_lt, mI_le, mI_nle, mI_nlt, pk_sub, mI_sub, eq_true (show (0 : Nat) = 0 from rfl)]
          refine tX6_either_4 ?_
          have fin : Φ (I, μ.2) := K.ok (u5 o k g q) fr hk
          simp (disch := omega) only [lit, Nat.add_sub_cancel, Nat.not_lt_zero, ↓m1_mI, nI_add, pk_mul, nx_and, nx_or, and31, sh_r, sh_1, nx_nand, Nat.and_one_is_mod, nI_clamp, nI_leI, nI_ltI, nI_eq, tb_1, vp_t, up2_a, up2_b, up2_c, br_1, br_0, true_and, and_true, mI_ne, mI_ne', mI_lt, mI_le, mI_nle, mI_nlt, pk_sub, mI_sub, eq_true (show (0 : Nat) = 0 from rfl)]
          exact ⟨fun _ => fin, fun _ => fin⟩
      have e69 : kT bt tn k ≠ 10 → VB N 41 mX6_either 69 [.ref 51, .null, .int (nI i)] [] μ (fun r μ' => r = none ∧ Φ μ') := by
        intro g
        refine tX6_either_69 ?_
        simp (disch := omega) only [lit, Nat.add_sub_cancel, Nat.not_lt_zero, ↓m1_mI, nI_add, pk_mul, nx_and, nx_or, and31, sh_r, sh_1, nx_nand, Nat.and_one_is_mod, nI_clamp, nI_leI, nI_ltI, nI_eq, tb_1, vp_t, up2_a, up2_b, up2_c, br_1, br_0, true_and, and_true, mI_ne, mI_ne', mI_lt, mI_le, mI_nle, mI_nlt, pk_sub, mI_sub]
        refine ⟨fun q => ?_, fun q => ?_⟩
        · have : o = 0 := hoi.mpr (by omega)
          subst this
          exact e83 g μ.1 CFr.rf (by rw [show pb 0 22 = [] from rfl, List.append_nil]; exact h)
        · have ho0 : o = 1 := by
            have : ¬ o = 0 := fun e => q (by have := hoi.mp e; omega)
            omega
          subst ho0
          have e1 : ok1 1 = 1 := rfl
          exact c_emit (o := 22) (v := 0) h (by omega) (fun I fr hk => e83 g I fr hk)
      refine tX6_either_22 ?_
      simp (disch := omega) only [lit, Nat.add_sub_cancel, Nat.not_lt_zero, ↓m1_mI, nI_add, pk_mul, nx_and, nx_or, and31, sh_r, sh_1, nx_nand, Nat.and_one_is_mod, nI_clamp, nI_leI, nI_ltI, nI_eq, tb_1, vp_t, up2_a, up2_b, up2_c, br_1, br_0, true_and, and_true, mI_ne, mI_ne', mI_lt, mI_le, mI_nle, mI_nlt, pk_sub, mI_sub, eq_false (show ¬ 300 ≤ j by omega)]
      refine c_sort h ?_
      rw [h.2.2.1]
      simp (disch := omega) only [lit, Nat.add_sub_cancel, Nat.not_lt_zero, ↓m1_mI, nI_add, pk_mul, nx_and, nx_or, and31, sh_r, sh_1, nx_nand, Nat.and_one_is_mod, nI_clamp, nI_leI, nI_ltI, nI_eq, tb_1, vp_t, up2_a, up2_b, up2_c, br_1, br_0, true_and, and_true, mI_ne, mI_ne', mI_lt, mI_le, mI_nle, mI_nlt, pk_sub, mI_sub]
      refine ⟨fun q => ?_, fun q => e69 q⟩
      have hlt := ((h.1.get hkm).2.2 (by omega)).1
      have fr0 : CFr μ.1 (up2 μ.1 51 5 (nI (k + 1))) := CFr.at (by omega)
      refine ask (up2 μ.1 51 5 (nI (k + 1)), μ.2) _ (k + 1) L (h.nx (by omega)) (by omega) ((fr0.2.1 6 (by decide) (by decide) (by decide)).trans h6) (fun f k1 c I hr fr hok hno => ?_)
      by_cases ef : f = 0
      · subst ef
        have hk1 := hok rfl
        obtain ⟨r1, r2, r3⟩ := hr.len
        have r3 := r3 rfl
        have hm1 := hk1.2.1
        refine c_emit (o := 21) (v := 0) (μ := (I, μ.2)) hk1 (by rw [List.length_append]; omega) (fun I1 fr1 hk2 => ?_)
        have e1 : L ++ c ++ [(21, 0)] = L ++ (c ++ pb 1 21) := by rw [List.append_assoc]; rfl
        rw [e1] at hk2
        have fr2 := (fr0.tr fr).tr fr1
        refine ihI k1 _ o i (j + 1) (I1, μ.2) Φ (by omega) hk2 (by rw [List.length_append, List.length_append, pb_l]; have : ok1 1 = 1 := rfl; omega) ((fr2.2.1 6 (by decide) (by decide) (by decide)).trans h6) (by omega) (by omega) hoi ho (fun f2 k2 c2 I2 hr2 fr3 ho2 hn2 => ?_)
        exact K f2 k2 _ I2 (u3 o k f2 k2 _ q (u2 1 o (k + 1) k1 c f2 k2 c2 hr hr2)) (fr2.tr fr3) (fun e => by rw [← List.append_assoc]; exact ho2 e) hn2
      · refine c_emitF (μ := (I, μ.2)) (hno ef) (fun I1 fr1 hk2 => ?_)
        exact c_eithF (bt := bt) (tn := tn) (m := m) (f := f) (k := k1) (μ := (I1, μ.2)) (by omega) (by omega) hk2 (fun I2 q1 q2 => K.no (u3 o k f k1 _ q (u1 1 o (k + 1) f k1 c hr ef)) ef (((fr0.tr fr).tr fr1).tr q1) q2)
theorem c_eith (hf : fee ≤ 1) {μ : Me} {Φ : Me → Prop} {k : Nat} {L : Cd} (h : CKt bt tn m k L μ.1) (hL : L.length ≤ k) (h6 : μ.1 51 6 = nI fee) (K : Rdg bt tn m (Re (kT bt tn) (kV bt tn) fee 0 0 0 k) L μ Φ) : VU N 41 mX6_either [.ref 51] μ Φ := by
  refine tX6_either_0 ?_
  exact (c_eithL (c_ask hf 8 0 40 (by decide) (by decide)) (m - k + 1)).1 k L 0 0 μ Φ (by omega) h (by show L.length + 0 ≤ k; omega) h6 (by omega) ⟨fun _ => rfl, fun _ => rfl⟩ (by decide) K
end CS2
