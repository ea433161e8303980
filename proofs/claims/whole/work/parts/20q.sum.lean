/-! the class reads sums and operands -/
section CQ
variable {N : Nat} {bt : Nat → Nat} {tn m : Nat}
/-- a call of the reader that reads by R: what it leaves -/
def Rdg (bt : Nat → Nat) (tn m : Nat) (R : Nat → Nat → Cd → Prop) (L : Cd) (μ : Me) (Φ : Me → Prop) : Prop := ∀ f k1 c I, R f k1 c → CFr μ.1 I → (f = 0 → CKt bt tn m k1 (L ++ c) I) → (f ≠ 0 → CF bt tn m f k1 I) → Φ (I, μ.2)
theorem Rdg.ok {R : Nat → Nat → Cd → Prop} {L c : Cd} {μ : Me} {Φ : Me → Prop} {k1 : Nat} {I : Nat → Nat → Int32} (h : Rdg bt tn m R L μ Φ) (hr : R 0 k1 c) (fr : CFr μ.1 I) (hk : CKt bt tn m k1 (L ++ c) I) : Φ (I, μ.2) := h 0 k1 c I hr fr (fun _ => hk) (fun e => absurd rfl e)
theorem Rdg.no {R : Nat → Nat → Cd → Prop} {L : Cd} {μ : Me} {Φ : Me → Prop} {f k1 : Nat} {I : Nat → Nat → Int32} (h : Rdg bt tn m R L μ Φ) {c : Cd} (hr : R f k1 c) (hf : f ≠ 0) (fr : CFr μ.1 I) (hk : CF bt tn m f k1 I) : Φ (I, μ.2) := h f k1 c I hr fr (fun e => absurd e hf) (fun _ => hk)
def C1 (N : Nat) (bt : Nat → Nat) (tn m fee d l : Nat) : Prop := ∀ (μ : Me) (Φ : Me → Prop) k L, CKt bt tn m k L μ.1 → L.length ≤ k → μ.1 51 6 = nI fee → Rdg bt tn m (Rd (kT bt tn) (kV bt tn) fee 0 0 0 d k) L μ Φ → VU N l mX6_one [.ref 51, .int (nI d)] μ Φ
def C2 (N : Nat) (bt : Nat → Nat) (tn m fee d l : Nat) : Prop := ∀ (μ : Me) (Φ : Me → Prop) k L, CKt bt tn m k L μ.1 → L.length ≤ k → μ.1 51 6 = nI fee → Rdg bt tn m (Rd (kT bt tn) (kV bt tn) fee 1 0 0 d k) L μ Φ → VU N l mX6_sum [.ref 51, .int (nI d)] μ Φ
theorem cit_op {t : Nat} (h : t = 43 ∨ t = 45 ∨ t = 42 ∨ t = 47) : cit (rop t) 0 = 20000 + t := by
  rcases h with e | e | e | e <;> subst e <;> rfl
theorem c_sumF {d f k l l2 : Nat} {x2 : Int32} {i j : Nat} {μ : Me} {Φ : Me → Prop} (h12 : 12 ≤ l) (hl : l2 + 1 ≤ l) (hj : j < 300) (hi : i < 300) (h : CF bt tn m f k μ.1) (K : ∀ I, CFr μ.1 I → CF bt tn m f k I → Φ (I, μ.2)) : VB N l mX6_sum 27 [.ref 51, .int (nI d), .int x2, .null, .int (nI i), .int (nI j)] [] μ (fun r μ' => r = none ∧ Φ μ') := by
  have e110 : ∀ μ' : Me, CFr μ.1 μ'.1 → μ'.2 = μ.2 → CF bt tn m f k μ'.1 → VB N l mX6_sum 110 [.ref 51, .int (nI d), .null, .null, .int (nI i)] [] μ' (fun r μ' => r = none ∧ Φ μ') := by
    intro μ' fr e2 h'
    refine tX6_sum_110 (d2 := l2) h12 hl (c_sortF h' ?_)
    simp (disch := omega) only [lit, Nat.add_sub_cancel, Nat.not_lt_zero, ↓m1_mI, nI_add, pk_mul, nx_and, nx_or, and31, sh_r, sh_1, nx_nand, Nat.and_one_is_mod, nI_clamp, nI_leI, nI_ltI, nI_eq, tb_1, vp_t, up2_a, up2_b, up2_c, br_1, br_0, true_and, and_true, mI_ne, mI_ne', mI_lt, mI_le, mI_nle, mI_nlt, pk_sub, mI_sub, eq_false (show ¬ (21 : Nat) = 43 by decide), eq_false (show ¬ (21 : Nat) = 45 by decide)]
    refine tX6_sum_132 (d2 := l2) h12 hl ?_
    simp (disch := omega) only [lit, Nat.add_sub_cancel, Nat.not_lt_zero, ↓m1_mI, nI_add, pk_mul, nx_and, nx_or, and31, sh_r, sh_1, nx_nand, Nat.and_one_is_mod, nI_clamp, nI_leI, nI_ltI, nI_eq, tb_1, vp_t, up2_a, up2_b, up2_c, br_1, br_0, true_and, and_true, mI_ne, mI_ne', mI_lt, mI_le, mI_nle, mI_nlt, pk_sub, mI_sub, eq_true (show (0 : Nat) = 0 from rfl)]
    refine tX6_sum_7 (d2 := l2) h12 hl ?_
    simp (disch := omega) only [lit, Nat.add_sub_cancel, Nat.not_lt_zero, ↓m1_mI, nI_add, pk_mul, nx_and, nx_or, and31, sh_r, sh_1, nx_nand, Nat.and_one_is_mod, nI_clamp, nI_leI, nI_ltI, nI_eq, tb_1, vp_t, up2_a, up2_b, up2_c, br_1, br_0, true_and, and_true, mI_ne, mI_ne', mI_lt, mI_le, mI_nle, mI_nlt, pk_sub, mI_sub, eq_true (show (0 : Nat) = 0 from rfl)]
    have := K μ'.1 fr h'
    rw [← e2] at this
    exact ⟨fun _ => this, fun _ => this⟩
  refine tX6_sum_27 (d2 := l2) h12 hl ?_
  simp (disch := omega) only [lit, Nat.add_sub_cancel, Nat.not_lt_zero, ↓m1_mI, nI_add, pk_mul, nx_and, nx_or, and31, sh_r, sh_1, nx_nand, Nat.and_one_is_mod, nI_clamp, nI_leI, nI_ltI, nI_eq, tb_1, vp_t, up2_a, up2_b, up2_c, br_1, br_0, true_and, and_true, mI_ne, mI_ne', mI_lt, mI_le, mI_nle, mI_nlt, pk_sub, mI_sub, eq_false (show ¬ 300 ≤ j by omega)]
  refine c_sortF h ?_
  simp (disch := omega) only [lit, Nat.add_sub_cancel, Nat.not_lt_zero, ↓m1_mI, nI_add, pk_mul, nx_and, nx_or, and31, sh_r, sh_1, nx_nand, Nat.and_one_is_mod, nI_clamp, nI_leI, nI_ltI, nI_eq, tb_1, vp_t, up2_a, up2_b, up2_c, br_1, br_0, true_and, and_true, mI_ne, mI_ne', mI_lt, mI_le, mI_nle, mI_nlt, pk_sub, mI_sub, eq_false (show ¬ (21 : Nat) = 42 by decide)]
  refine c_sortF h ?_
  simp (disch := omega) only [lit, Nat.add_sub_cancel, Nat.not_lt_zero, ↓m1_mI, nI_add, pk_mul, nx_and, nx_or, and31, sh_r, sh_1, nx_nand, Nat.and_one_is_mod, nI_clamp, nI_leI, nI_ltI, nI_eq, tb_1, vp_t, up2_a, up2_b, up2_c, br_1, br_0, true_and, and_true, mI_ne, mI_ne', mI_lt, mI_le, mI_nle, mI_nlt, pk_sub, mI_sub, eq_false (show ¬ (21 : Nat) = 47 by decide)]
  refine tX6_sum_93 (d2 := l2) h12 hl ?_
  refine ⟨fun _ => e110 μ CFr.rf rfl h, fun _ => c_emitF h (fun I q1 q2 => e110 (I, μ.2) q1 rfl q2)⟩
theorem c_sumL {fee d l1 l : Nat} (hd8 : d ≤ 8) (h12 : 12 ≤ l) (hl : l1 + 1 ≤ l) (one : C1 N bt tn m fee d l1) : ∀ n,
    (∀ k L a i (μ : Me) (Φ : Me → Prop), m - k < n → CKt bt tn m k L μ.1 → L.length + ok1 a ≤ k → μ.1 51 6 = nI fee → 2 * i ≤ k → (a = 0 ↔ i = 0) → (a = 0 ∨ a = 43 ∨ a = 45) → Rdg bt tn m (Rd (kT bt tn) (kV bt tn) fee 1 a 0 d k) L μ Φ → VB N l mX6_sum 7 [.ref 51, .int (nI d), .int (nI a), .int (nI 1), .int (nI i)] [] μ (fun r μ' => r = none ∧ Φ μ')) ∧
    (∀ k L a i j (μ : Me) (Φ : Me → Prop), m - k < n → CKt bt tn m k L μ.1 → L.length + ok1 a ≤ k → μ.1 51 6 = nI fee → 2 * i + 1 ≤ k → 2 * j ≤ k → (a = 0 ↔ i = 0) → (a = 0 ∨ a = 43 ∨ a = 45) → Rdg bt tn m (Rd (kT bt tn) (kV bt tn) fee 2 a 0 d k) L μ Φ → VB N l mX6_sum 27 [.ref 51, .int (nI d), .int (nI a), .null, .int (nI i), .int (nI j)] [] μ (fun r μ' => r = none ∧ Φ μ')) := by
  have RU := Rd.rules (T := kT bt tn) (V := kV bt tn) (fee := fee)
  obtain ⟨_, _, _, _, _, _, _, _, _, _, u11, u12, u13, u14, u15⟩ := RU
  intro n
  induction n with
  | zero => exact ⟨fun k L a i μ Φ h => absurd h (by omega), fun k L a i j μ Φ h => absurd h (by omega)⟩
  | succ n ih =>
    obtain ⟨ihO, ihI⟩ := ih
    refine ⟨?_, ?_⟩
    · intro k L a i μ Φ hn h hL h6 hi hai ha K
      have hm := h.1.1
      have hkm := h.2.1
      refine tX6_sum_7 (d2 := l1) h12 hl ?_
      simp (disch := omega) only [lit, Nat.add_sub_cancel, Nat.not_lt_zero, ↓m1_mI, nI_add, pk_mul, nx_and, nx_or, and31, sh_r, sh_1, nx_nand, Nat.and_one_is_mod, nI_clamp, nI_leI, nI_ltI, nI_eq, tb_1, vp_t, up2_a, up2_b, up2_c, br_1, br_0, true_and, and_true, mI_ne, mI_ne', mI_lt, mI_le, mI_nle, mI_nlt, pk_sub, mI_sub, eq_false (show ¬ 300 ≤ i by omega), eq_false (show ¬ (1 : Nat) = 0 by decide)]
      refine one μ _ k L h (by omega) h6 (fun f k1 c I hr fr hok hno => ?_)
      by_cases ef : f = 0
      · subst ef
        have hk1 := hok rfl
        obtain ⟨r1, r2, r3, r4⟩ := hr.len
        have r3 := r3 (by decide) rfl
        have r4 := r4 rfl
        rw [if_pos rfl] at r4
        refine ihI k1 (L ++ c) a i 0 (I, μ.2) Φ (by have := hk1.2.1; omega) hk1 (by rw [List.length_append]; omega) ((fr.2.1 6 (by decide) (by decide) (by decide)).trans h6) (by omega) (by omega) hai ha (fun f2 k2 c2 I2 hr2 fr2 ho2 hn2 => ?_)
        have := u12 a 0 d k k1 c f2 k2 c2 hr hr2
        rw [pe_0, List.append_nil] at this
        exact K f2 k2 _ I2 this (fr.tr fr2) (fun e => by rw [← List.append_assoc]; exact ho2 e) hn2
      · exact c_sumF (bt := bt) (tn := tn) (m := m) (f := f) (k := k1) (l2 := l1) h12 hl (by decide) (by omega) (hno ef) (fun I2 q1 q2 => K.no (u11 a 0 d k f k1 c hr ef) ef (fr.tr q1) q2)
    · intro k L a i j μ Φ hn h hL h6 hi hj hai ha K
      have hm := h.1.1
      have hkm := h.2.1
      have hb := kT_lt h.1.2.2.1 k
      have e53 : (kT bt tn k = 42 ∨ kT bt tn k = 47) → VB N l mX6_sum 53 [.ref 51, .int (nI d), .int (nI a), .null, .int (nI i), .int (nI j)] [] μ (fun r μ' => r = none ∧ Φ μ') := by
        intro g
        have hlt := ((h.1.get hkm).2.2 (by omega)).1
        refine tX6_sum_53 (d2 := l1) h12 hl (c_sort h ?_)
        rw [h.2.2.1]
        simp (disch := omega) only [lit, Nat.add_sub_cancel, Nat.not_lt_zero, ↓m1_mI, nI_add, pk_mul, nx_and, nx_or, and31, sh_r, sh_1, nx_nand, Nat.and_one_is_mod, nI_clamp, nI_leI, nI_ltI, nI_eq, tb_1, vp_t, up2_a, up2_b, up2_c, br_1, br_0, true_and, and_true, mI_ne, mI_ne', mI_lt, mI_le, mI_nle, mI_nlt, pk_sub, mI_sub]
        have fr0 : CFr μ.1 (up2 μ.1 51 5 (nI (k + 1))) := CFr.at (by omega)
        refine one (up2 μ.1 51 5 (nI (k + 1)), μ.2) _ (k + 1) L (h.nx (by omega)) (by omega) ((fr0.2.1 6 (by decide) (by decide) (by decide)).trans h6) (fun f k1 c I hr fr hok hno => ?_)
        by_cases ef : f = 0
        · subst ef
          have hk1 := hok rfl
          obtain ⟨r1, r2, r3, r4⟩ := hr.len
          have r3 := r3 (by decide) rfl
          have r4 := r4 rfl
          rw [if_pos rfl] at r4
          have hm1 := hk1.2.1
          rw [← cit_op (t := kT bt tn k) (by omega)]
          refine c_emit (μ := (I, μ.2)) hk1 (by rw [List.length_append]; omega) (fun I1 fr1 hk2 => ?_)
          have e1 : L ++ c ++ [(rop (kT bt tn k), 0)] = L ++ (c ++ pe (kT bt tn k)) := by rw [pe_1 (by omega), List.append_assoc]
          rw [e1] at hk2
          have fr2 := (fr0.tr fr).tr fr1
          refine ihI k1 _ a i (j + 1) (I1, μ.2) Φ (by omega) hk2 (by rw [List.length_append, List.length_append, pe_l, ok1, if_neg (by omega)]; omega) ((fr2.2.1 6 (by decide) (by decide) (by decide)).trans h6) (by omega) (by omega) hai ha (fun f2 k2 c2 I2 hr2 fr3 ho2 hn2 => ?_)
          exact K f2 k2 _ I2 (u13 a d k f2 k2 _ g (u12 a (kT bt tn k) d (k + 1) k1 c f2 k2 c2 hr hr2)) (fr2.tr fr3) (fun e => by rw [← List.append_assoc]; exact ho2 e) hn2
        · refine c_emitF (μ := (I, μ.2)) (hno ef) (fun I1 fr1 hk2 => ?_)
          exact c_sumF (bt := bt) (tn := tn) (m := m) (f := f) (k := k1) (l2 := l1) (μ := (I1, μ.2)) h12 hl (by omega) (by omega) hk2 (fun I2 q1 q2 => K.no (u13 a d k f k1 _ g (u11 a (kT bt tn k) d (k + 1) f k1 c hr ef)) ef (((fr0.tr fr).tr fr1).tr q1) q2)
      have e110 : ¬ (kT bt tn k = 42 ∨ kT bt tn k = 47) → ∀ I, CFr μ.1 I → CKt bt tn m k (L ++ pe a) I → VB N l mX6_sum 110 [.ref 51, .int (nI d), .null, .null, .int (nI i)] [] (I, μ.2) (fun r μ' => r = none ∧ Φ μ') := by
        intro g I fr hk
        refine tX6_sum_110 (d2 := l1) h12 hl (c_sort hk ?_)
        have go : (kT bt tn k = 43 ∨ kT bt tn k = 45) → VB N l mX6_sum 127 [.ref 51, .int (nI d), .int (nI (kT bt tn k)), .null, .int (nI i)] [] (I, μ.2) (fun r μ' => r = none ∧ Φ μ') := by
          intro g2
          have hlt := ((h.1.get hkm).2.2 (by omega)).1
          refine tX6_sum_127 (d2 := l1) h12 hl (tX6_sum_132 (d2 := l1) h12 hl ?_)
          have h5 : I 51 5 = nI k := hk.2.2.1
          simp (disch := omega) only [lit, Nat.add_sub_cancel, Nat.not_lt_zero, ↓m1_mI, nI_add, pk_mul, nx_and, nx_or, and31, sh_r, sh_1, nx_nand, Nat.and_one_is_mod, nI_clamp, nI_leI, nI_ltI, nI_eq, tb_1, vp_t, up2_a, up2_b, up2_c, br_1, br_0, true_and, and_true, mI_ne, mI_ne', mI_lt, mI_le, mI_nle, mI_nlt, pk_sub, mI_sub, eq_false (show ¬ (1 : Nat) = 0 by decide), h5]
          have fr0 : CFr I (up2 I 51 5 (nI (k + 1))) := CFr.at (by omega)
          have fr1 := fr.tr fr0
          refine ihO (k + 1) (L ++ pe a) (kT bt tn k) (i + 1) (up2 I 51 5 (nI (k + 1)), μ.2) Φ (by omega) (hk.nx (by omega)) (by rw [List.length_append, pe_l, show ok1 (kT bt tn k) = 1 from if_neg (by omega)]; omega) ((fr1.2.1 6 (by decide) (by decide) (by decide)).trans h6) (by omega) (by omega) (by omega) (fun f k1 c I2 hr fr2 hok hno => ?_)
          exact K f k1 _ I2 (u14 a d k f k1 c g2 hr) (fr1.tr fr2) (fun e => by rw [← List.append_assoc]; exact hok e) hno
        simp (disch := omega) only [lit, Nat.add_sub_cancel, Nat.not_lt_zero, ↓m1_mI, nI_add, pk_mul, nx_and, nx_or, and31, sh_r, sh_1, nx_nand, Nat.and_one_is_mod, nI_clamp, nI_leI, nI_ltI, nI_eq, tb_1, vp_t, up2_a, up2_b, up2_c, br_1, br_0, true_and, and_true, mI_ne, mI_ne', mI_lt, mI_le, mI_nle, mI_nlt, pk_sub, mI_sub]
        refine ⟨fun q => go (Or.inl q), fun q1 => ⟨fun q => go (Or.inr q), fun q2 => ?_⟩⟩
        refine tX6_sum_132 (d2 := l1) h12 hl ?_
        simp (disch := omega) only [lit, Nat.add_sub_cancel, Nat.not_lt_zero, ↓m1_mI, nI_add, pk_mul, nx_and, nx_or, and31, sh_r, sh_1, nx_nand, Nat.and_one_is_mod, nI_clamp, nI_leI, nI_ltI, nI_eq, tb_1, vp_t, up2_a, up2_b, up2_c, br_1, br_0, true_and, and_true, mI_ne, mI_ne', mI_lt, mI_le, mI_nle, mI_nlt, pk_sub, mI_sub, eq_true (show (0 : Nat) = 0 from rfl)]
        refine tX6_sum_7 (d2 := l1) h12 hl ?_
        have fin : Φ (I, μ.2) := K.ok (u15 a d k (by omega) (by omega) q1 q2) fr hk
        simp (disch := omega) only [lit, Nat.add_sub_cancel, Nat.not_lt_zero, ↓m1_mI, nI_add, pk_mul, nx_and, nx_or, and31, sh_r, sh_1, nx_nand, Nat.and_one_is_mod, nI_clamp, nI_leI, nI_ltI, nI_eq, tb_1, vp_t, up2_a, up2_b, up2_c, br_1, br_0, true_and, and_true, mI_ne, mI_ne', mI_lt, mI_le, mI_nle, mI_nlt, pk_sub, mI_sub, eq_true (show (0 : Nat) = 0 from rfl)]
        exact ⟨fun _ => fin, fun _ => fin⟩
      have e93 : ¬ (kT bt tn k = 42 ∨ kT bt tn k = 47) → VB N l mX6_sum 93 [.ref 51, .int (nI d), .int (nI a), .null, .int (nI i)] [] μ (fun r μ' => r = none ∧ Φ μ') := by
        intro g
        refine tX6_sum_93 (d2 := l1) h12 hl ?_
        simp (disch := omega) only [lit, Nat.add_sub_cancel, Nat.not_lt_zero, ↓m1_mI, nI_add, pk_mul, nx_and, nx_or, and31, sh_r, sh_1, nx_nand, Nat.and_one_is_mod, nI_clamp, nI_leI, nI_ltI, nI_eq, tb_1, vp_t, up2_a, up2_b, up2_c, br_1, br_0, true_and, and_true, mI_ne, mI_ne', mI_lt, mI_le, mI_nle, mI_nlt, pk_sub, mI_sub]
        refine ⟨fun q => ?_, fun q => ?_⟩
        · have : a = 0 := hai.mpr (by omega)
          subst this
          exact e110 g μ.1 CFr.rf (by rw [pe_0, List.append_nil]; exact h)
        · have ha0 : ¬ a = 0 := fun e => q (by have := hai.mp e; omega)
          rw [← cit_op (t := a) (by omega)]
          refine c_emit h (by unfold ok1 at hL; rw [if_neg ha0] at hL; omega) (fun I fr hk => e110 g I fr ?_)
          rw [pe_1 ha0]
          exact hk
      refine tX6_sum_27 (d2 := l1) h12 hl ?_
      simp (disch := omega) only [lit, Nat.add_sub_cancel, Nat.not_lt_zero, ↓m1_mI, nI_add, pk_mul, nx_and, nx_or, and31, sh_r, sh_1, nx_nand, Nat.and_one_is_mod, nI_clamp, nI_leI, nI_ltI, nI_eq, tb_1, vp_t, up2_a, up2_b, up2_c, br_1, br_0, true_and, and_true, mI_ne, mI_ne', mI_lt, mI_le, mI_nle, mI_nlt, pk_sub, mI_sub, eq_false (show ¬ 300 ≤ j by omega)]
      refine c_sort h ?_
      simp (disch := omega) only [lit, Nat.add_sub_cancel, Nat.not_lt_zero, ↓m1_mI, nI_add, pk_mul, nx_and, nx_or, and31, sh_r, sh_1, nx_nand, Nat.and_one_is_mod, nI_clamp, nI_leI, nI_ltI, nI_eq, tb_1, vp_t, up2_a, up2_b, up2_c, br_1, br_0, true_and, and_true, mI_ne, mI_ne', mI_lt, mI_le, mI_nle, mI_nlt, pk_sub, mI_sub]
      refine ⟨fun q => e53 (Or.inl q), fun q1 => c_sort h ?_⟩
      simp (disch := omega) only [lit, Nat.add_sub_cancel, Nat.not_lt_zero, ↓m1_mI, nI_add, pk_mul, nx_and, nx_or, and31, sh_r, sh_1, nx_nand, Nat.and_one_is_mod, nI_clamp, nI_leI, nI_ltI, nI_eq, tb_1, vp_t, up2_a, up2_b, up2_c, br_1, br_0, true_and, and_true, mI_ne, mI_ne', mI_lt, mI_le, mI_nle, mI_nlt, pk_sub, mI_sub]
      exact ⟨fun q => e53 (Or.inr q), fun q2 => e93 (by omega)⟩
theorem c_sum {fee d l1 l : Nat} (hd8 : d ≤ 8) (h12 : 12 ≤ l) (hl : l1 + 1 ≤ l) (one : C1 N bt tn m fee d l1) : C2 N bt tn m fee d l := by
  intro μ Φ k L h hL h6 K
  refine tX6_sum_0 (d2 := l1) h12 hl ?_
  exact (c_sumL hd8 h12 hl one (m - k + 1)).1 k L 0 0 μ Φ (by omega) h (by show L.length + 0 ≤ k; omega) h6 (by omega) ⟨fun _ => rfl, fun _ => rfl⟩ (Or.inl rfl) K
theorem fgn_b {fee x : Nat} (h : fgn fee x) : 12 ≤ x ∧ x ≤ 18 := by
  unfold fgn at h
  split at h <;> omega
theorem c_oneS {fee d l l2 : Nat} (hf : fee ≤ 1) (hd : d ≤ 8) (h12 : 12 ≤ l) (hl : l2 + 1 ≤ l) (one : d < 8 → C1 N bt tn m fee (d + 1) l2) (sum : d < 8 → C2 N bt tn m fee (d + 1) l2) : C1 N bt tn m fee d l := by
  have RU := Rd.rules (T := kT bt tn) (V := kV bt tn) (fee := fee)
  obtain ⟨u1, u2, u3, u4, u5, u6, u7, u8, u9, u10, _⟩ := RU
  intro μ Φ k L h hL h6 K
  have hm := h.1.1
  have hkm := h.2.1
  have hb := kT_lt h.1.2.2.1 k
  have hv := kV_le (bt := bt) (tn := tn) k
  have h5 := h.2.2.1
  have fr0 : CFr μ.1 (up2 μ.1 51 5 (nI (k + 1))) := CFr.at (by omega)
  have e88 : ∀ o v : Nat, kT bt tn k ≠ 21 → Rd (kT bt tn) (kV bt tn) fee 0 0 0 d k 0 (k + 1) [(o, v)] → VB N l mX6_one 88 [.ref 51] [.int (nI (cit o v)), .ref 57] μ (fun r μ' => r = none ∧ Φ μ') := by
    intro o v g hr
    have hlt := ((h.1.get hkm).2.2 g).1
    refine tX6_one_88 (d2 := l2) h12 hl (c_emit h (by omega) (fun I fr hk => ⟨rfl, ?_⟩))
    have e5 : I 51 5 = nI k := hk.2.2.1
    simp (disch := omega) only [lit, Nat.add_sub_cancel, Nat.not_lt_zero, ↓m1_mI, nI_add, pk_mul, nx_and, nx_or, and31, sh_r, sh_1, nx_nand, Nat.and_one_is_mod, nI_clamp, nI_leI, nI_ltI, nI_eq, tb_1, vp_t, up2_a, up2_b, up2_c, br_1, br_0, true_and, and_true, mI_ne, mI_ne', mI_lt, mI_le, mI_nle, mI_nlt, pk_sub, mI_sub, e5]
    exact K.ok hr (fr.tr (CFr.at (by omega))) (hk.nx g)
  have e63 : (kT bt tn k = 20 → kV bt tn k ≤ 9999) → ¬ fgn fee (kT bt tn k) → (kT bt tn k = 20 ∨ (12 ≤ kT bt tn k ∧ kT bt tn k ≤ 18)) → VB N l mX6_one 63 [.ref 51, .null, .int (nI (kT bt tn k))] [] μ (fun r μ' => r = none ∧ Φ μ') := by
    intro g1 g2 g3
    refine tX6_one_63 (d2 := l2) h12 hl ?_
    simp (disch := omega) only [lit, Nat.add_sub_cancel, Nat.not_lt_zero, ↓m1_mI, nI_add, pk_mul, nx_and, nx_or, and31, sh_r, sh_1, nx_nand, Nat.and_one_is_mod, nI_clamp, nI_leI, nI_ltI, nI_eq, tb_1, vp_t, up2_a, up2_b, up2_c, br_1, br_0, true_and, and_true, mI_ne, mI_ne', mI_lt, mI_le, mI_nle, mI_nlt, pk_sub, mI_sub]
    refine ⟨fun q => c_valt h (fun v ev => ?_), fun q => ?_⟩
    · rw [ev (by omega)]
      exact e88 0 (kV bt tn k) (by omega) (u2 d k q (g1 q))
    · have e : 10000 + kT bt tn k - 12 = cit 1 (kT bt tn k - 12) := by
        unfold cit
        rw [if_neg (by decide), if_pos rfl]
        omega
      rw [e]
      exact e88 1 (kT bt tn k - 12) (by omega) (u4 d k (by omega) (by omega) g2)
  have e124 : (kT bt tn k = 40 ∨ kT bt tn k = 45) → VB N l mX6_one 124 [.ref 51, .int (nI d), .int (nI (kT bt tn k))] [] μ (fun r μ' => r = none ∧ Φ μ') := by
    intro g
    have hlt := ((h.1.get hkm).2.2 (by omega)).1
    refine tX6_one_124 (d2 := l2) h12 hl ?_
    rw [h5]
    simp (disch := omega) only [lit, Nat.add_sub_cancel, Nat.not_lt_zero, ↓m1_mI, nI_add, pk_mul, nx_and, nx_or, and31, sh_r, sh_1, nx_nand, Nat.and_one_is_mod, nI_clamp, nI_leI, nI_ltI, nI_eq, tb_1, vp_t, up2_a, up2_b, up2_c, br_1, br_0, true_and, and_true, mI_ne, mI_ne', mI_lt, mI_le, mI_nle, mI_nlt, pk_sub, mI_sub]
    refine ⟨fun g8 => ⟨fun q => ?_, fun q => ?_⟩, fun g8 => ?_⟩
    · have q5 : kT bt tn k = 45 := q
      refine one g8 (up2 μ.1 51 5 (nI (k + 1)), μ.2) _ (k + 1) L (h.nx (by omega)) (by omega) ((fr0.2.1 6 (by decide) (by decide) (by decide)).trans h6) (fun f k1 c I hr fr hok hno => ?_)
      by_cases ef : f = 0
      · subst ef
        obtain ⟨r1, r2, r3, r4⟩ := hr.len
        have r3 := r3 (by decide) rfl
        have r4 := r4 rfl
        rw [if_pos rfl] at r4
        have hm1 := (hok rfl).2.1
        refine c_emit (o := 2) (v := 0) (μ := (I, μ.2)) (hok rfl) (by rw [List.length_append]; omega) (fun I1 fr1 hk1 => ?_)
        exact K.ok (u10 d k 0 k1 c q5 g8 hr) ((fr0.tr fr).tr fr1) (by rw [← List.append_assoc]; exact hk1)
      · refine c_emitF (μ := (I, μ.2)) (hno ef) (fun I1 fr1 hk1 => ?_)
        exact K.no (u10 d k f k1 c q5 g8 hr) ef ((fr0.tr fr).tr fr1) hk1
    · have q4 : kT bt tn k = 40 := by omega
      refine sum g8 (up2 μ.1 51 5 (nI (k + 1)), μ.2) _ (k + 1) L (h.nx (by omega)) (by omega) ((fr0.2.1 6 (by decide) (by decide) (by decide)).trans h6) (fun f k1 c I hr fr hok hno => ?_)
      by_cases ef : f = 0
      · subst ef
        have hk0 := hok rfl
        have e5 : I 51 5 = nI k1 := hk0.2.2.1
        have hm1 := hk0.2.1
        have hb1 := kT_lt h.1.2.2.1 k1
        refine c_sort (μ := (I, μ.2)) hk0 ?_
        simp (disch := omega) only [lit, Nat.add_sub_cancel, Nat.not_lt_zero, ↓m1_mI, nI_add, pk_mul, nx_and, nx_or, and31, sh_r, sh_1, nx_nand, Nat.and_one_is_mod, nI_clamp, nI_leI, nI_ltI, nI_eq, tb_1, vp_t, up2_a, up2_b, up2_c, br_1, br_0, true_and, and_true, mI_ne, mI_ne', mI_lt, mI_le, mI_nle, mI_nlt, pk_sub, mI_sub, e5]
        refine ⟨fun g1 => ?_, fun g1 => ?_⟩
        · exact K.ok (u7 d k k1 c q4 g8 hr g1) ((fr0.tr fr).tr (CFr.at (by omega))) (hk0.nx (by omega))
        · exact c_fail (f := 1) (μ := (I, μ.2)) hk0 (by decide) (by decide) (fun I1 fr1 hk1 => K.no (u8 d k k1 c q4 g8 hr g1) (by decide) ((fr0.tr fr).tr fr1) hk1)
      · refine c_sortF (μ := (I, μ.2)) (hno ef) ?_
        simp (disch := omega) only [lit, Nat.add_sub_cancel, Nat.not_lt_zero, ↓m1_mI, nI_add, pk_mul, nx_and, nx_or, and31, sh_r, sh_1, nx_nand, Nat.and_one_is_mod, nI_clamp, nI_leI, nI_ltI, nI_eq, tb_1, vp_t, up2_a, up2_b, up2_c, br_1, br_0, true_and, and_true, mI_ne, mI_ne', mI_lt, mI_le, mI_nle, mI_nlt, pk_sub, mI_sub, eq_false (show ¬ (21 : Nat) = 41 by decide)]
        exact c_failF (μ := (I, μ.2)) (hno ef) (K.no (u9 d k f k1 c q4 g8 hr ef) ef (fr0.tr fr) (hno ef))
    · exact c_fail (f := 3) h (by decide) (by decide) (fun I fr hk => K.no (u6 d k g (by omega)) (by decide) fr hk)
  have e29 : (kT bt tn k = 20 → kV bt tn k ≤ 9999) → VB N l mX6_one 29 [.ref 51, .int (nI d), .int (nI (kT bt tn k))] [] μ (fun r μ' => r = none ∧ Φ μ') := by
    intro g1
    refine tX6_one_29 (d2 := l2) h12 hl (vi_b (fun Ψ => c_forg (x := kT bt tn k) (fee := fee) (by omega) hf h6) (fun g => ?_) (fun g => ?_))
    · have := fgn_b g
      exact c_fail (f := 5) h (by decide) (by decide) (fun I fr hk => ⟨rfl, K.no (u3 d k (by omega) (by omega) g) (by decide) fr hk⟩)
    · have e104 : kT bt tn k ≠ 20 → ¬ (12 ≤ kT bt tn k ∧ kT bt tn k ≤ 18) → VB N l mX6_one 104 [.ref 51, .int (nI d), .int (nI (kT bt tn k))] [] μ (fun r μ' => r = none ∧ Φ μ') := by
        intro q1 q2
        refine tX6_one_104 (d2 := l2) h12 hl ?_
        simp (disch := omega) only [lit, Nat.add_sub_cancel, Nat.not_lt_zero, ↓m1_mI, nI_add, pk_mul, nx_and, nx_or, and31, sh_r, sh_1, nx_nand, Nat.and_one_is_mod, nI_clamp, nI_leI, nI_ltI, nI_eq, tb_1, vp_t, up2_a, up2_b, up2_c, br_1, br_0, true_and, and_true, mI_ne, mI_ne', mI_lt, mI_le, mI_nle, mI_nlt, pk_sub, mI_sub]
        refine ⟨fun q => e124 (Or.inl q), fun q3 => ⟨fun q => e124 (Or.inr q), fun q4 => ?_⟩⟩
        exact c_fail (f := 1) h (by decide) (by decide) (fun I fr hk => K.no (u5 d k q1 q2 q3 q4) (by decide) fr hk)
      simp (disch := omega) only [lit, Nat.add_sub_cancel, Nat.not_lt_zero, ↓m1_mI, nI_add, pk_mul, nx_and, nx_or, and31, sh_r, sh_1, nx_nand, Nat.and_one_is_mod, nI_clamp, nI_leI, nI_ltI, nI_eq, tb_1, vp_t, up2_a, up2_b, up2_c, br_1, br_0, true_and, and_true, mI_ne, mI_ne', mI_lt, mI_le, mI_nle, mI_nlt, pk_sub, mI_sub]
      exact ⟨fun q => e63 g1 g (Or.inl q), fun q1 => ⟨fun q => e104 q1 (by omega), fun q2 => ⟨fun q => e104 q1 (by omega), fun q3 => e63 g1 g (Or.inr (by omega))⟩⟩⟩
  refine tX6_one_0 (d2 := l2) h12 hl (c_sort h ?_)
  simp (disch := omega) only [lit, Nat.add_sub_cancel, Nat.not_lt_zero, ↓m1_mI, nI_add, pk_mul, nx_and, nx_or, and31, sh_r, sh_1, nx_nand, Nat.and_one_is_mod, nI_clamp, nI_leI, nI_ltI, nI_eq, tb_1, vp_t, up2_a, up2_b, up2_c, br_1, br_0, true_and, and_true, mI_ne, mI_ne', mI_lt, mI_le, mI_nle, mI_nlt, pk_sub, mI_sub]
  refine ⟨fun q => c_valt h (fun v ev => ?_), fun q => e29 (fun e => absurd e q)⟩
  rw [ev (by omega)]
  simp (disch := omega) only [lit, Nat.add_sub_cancel, Nat.not_lt_zero, ↓m1_mI, nI_add, pk_mul, nx_and, nx_or, and31, sh_r, sh_1, nx_nand, Nat.and_one_is_mod, nI_clamp, nI_leI, nI_ltI, nI_eq, tb_1, vp_t, up2_a, up2_b, up2_c, br_1, br_0, true_and, and_true, mI_ne, mI_ne', mI_lt, mI_le, mI_nle, mI_nlt, pk_sub, mI_sub]
  refine ⟨fun q2 => e29 (fun _ => q2), fun q2 => ?_⟩
  exact c_fail (f := 2) h (by decide) (by decide) (fun I fr hk => K.no (u1 d k q (by omega)) (by decide) fr hk)
theorem c_one {fee : Nat} (hf : fee ≤ 1) : ∀ n d l, d + n = 8 → 12 + 2 * n ≤ l → C1 N bt tn m fee d l := by
  intro n
  induction n with
  | zero =>
    intro d l hd hl
    exact c_oneS (l2 := l - 1) hf (by omega) (by omega) (by omega) (fun q => absurd q (by omega)) (fun q => absurd q (by omega))
  | succ n ih =>
    intro d l hd hl
    exact c_oneS (l2 := l - 1) hf (by omega) (by omega) (by omega) (fun _ => ih (d + 1) (l - 1) (by omega) (by omega)) (fun _ => c_sum (l1 := l - 2) (by omega) (by omega) (by omega) (ih (d + 1) (l - 2) (by omega) (by omega)))
theorem c_sum0 {fee d l : Nat} (hf : fee ≤ 1) (hd : d ≤ 8) (hl : 13 + 2 * (8 - d) ≤ l) : C2 N bt tn m fee d l := c_sum (l1 := l - 1) hd (by omega) (by omega) (c_one hf (8 - d) d (l - 1) (by omega) (by omega))
end CQ
