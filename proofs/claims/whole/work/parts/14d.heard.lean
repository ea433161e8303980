/-! of, hear, kinds -/
section HK
variable {N : Nat} {μ : Me} {B B' R T tp : Nat → Nat} {tn : Nat} {ft fp : Int32} {I : Nat → Nat → Int32} {Ψ : Int32 → Me → Prop}
def hdP (B : Nat → Nat) (w : Nat) : Prop := ∃ i, i < B 5 ∧ B (80 + 3 * i) = w
theorem c_heard {w : Nat} (hC : CB B 3 μ.1) (hW : WB B) (hw : w < 2 ^ 31) (h1 : hdP B w → Ψ 1 μ) (h0 : ¬ hdP B w → Ψ 0 μ) : VI N 1 mX7_has [.ref 13, .int (nI w)] μ Ψ := by
  have hn := hW.n
  refine tX7_has_0 ?_
  refine vb_wf (τ := Nat) (fun i => [.ref 13, .int (nI w), .int (nI i)]) (fun _ => μ) (fun i => B 5 - i) (fun i => i ≤ B 5 ∧ ∀ j, j < i → B (80 + 3 * j) ≠ w) ?_ 0 ⟨Nat.zero_le _, fun j hj => absurd hj (Nat.not_lt_zero _)⟩
  rintro i ⟨hi, hno⟩ K
  refine tX7_has_2 ?_
  by_cases e : i = B 5
  · subst e
    simp (disch := omega) only [lit, Nat.add_sub_cancel, Nat.not_lt_zero, ↓m1_mI, nI_add, pk_mul, nx_and, nx_or, and31, sh_r, sh_1, nx_nand, Nat.and_one_is_mod, nI_clamp, nI_leI, nI_ltI, nI_eq, tb_1, vp_t, up2_a, up2_b, up2_c, br_1, br_0, true_and, and_true, mI_ne, mI_ne', mI_lt, mI_le, mI_nle, mI_nlt, pk_sub, mI_sub, hC.k10, Nat.le_refl]
    exact ⟨_, rfl, h0 (fun ⟨j, hj, he⟩ => hno j hj he)⟩
  · have g1 : ¬ B 5 ≤ i := by omega
    have g2 := hW.h (show i < B 5 by omega)
    simp (disch := omega) only [lit, Nat.add_sub_cancel, Nat.not_lt_zero, ↓m1_mI, nI_add, pk_mul, nx_and, nx_or, and31, sh_r, sh_1, nx_nand, Nat.and_one_is_mod, nI_clamp, nI_leI, nI_ltI, nI_eq, tb_1, vp_t, up2_a, up2_b, up2_c, br_1, br_0, true_and, and_true, mI_ne, mI_ne', mI_lt, mI_le, mI_nle, mI_nlt, pk_sub, mI_sub, hC.k10, eq_false g1, hC.k11]
    refine ⟨fun e2 => ⟨_, rfl, h1 ⟨i, by omega, e2⟩⟩, fun e2 => K (i + 1) ⟨by omega, fun j hj => ?_⟩ (by omega)⟩
    by_cases ej : j = i
    · subst ej; exact e2
    · exact hno j (by omega)
theorem r_heard {w : Nat} (hB : rowB B (μ.1 131)) (hW : WB B) (hw : w < 2 ^ 31) (h1 : hdP B w → Ψ 1 μ) (h0 : ¬ hdP B w → Ψ 0 μ) : VI N 1 mX12_isHeard [.ref 130, .int (nI w)] μ Ψ := by
  have hn := hW.n
  have rB := hB.1
  refine tX12_isHeard_0 ?_
  refine vb_wf (τ := Nat) (fun i => [.ref 130, .int (nI w), .int (nI i)]) (fun _ => μ) (fun i => B 5 - i) (fun i => i ≤ B 5 ∧ ∀ j, j < i → B (80 + 3 * j) ≠ w) ?_ 0 ⟨Nat.zero_le _, fun j hj => absurd hj (Nat.not_lt_zero _)⟩
  rintro i ⟨hi, hno⟩ K
  refine tX12_isHeard_2 ?_
  by_cases e : i = B 5
  · subst e
    simp (disch := omega) only [lit, Nat.add_sub_cancel, Nat.not_lt_zero, ↓m1_mI, nI_add, pk_mul, nx_and, nx_or, and31, sh_r, sh_1, nx_nand, Nat.and_one_is_mod, nI_clamp, nI_leI, nI_ltI, nI_eq, tb_1, vp_t, up2_a, up2_b, up2_c, br_1, br_0, true_and, and_true, mI_ne, mI_ne', mI_lt, mI_le, mI_nle, mI_nlt, pk_sub, mI_sub, rB, Nat.le_refl]
    exact ⟨_, rfl, h0 (fun ⟨j, hj, he⟩ => hno j hj he)⟩
  · have g1 : ¬ B 5 ≤ i := by omega
    have g2 := hW.h (show i < B 5 by omega)
    simp (disch := omega) only [lit, Nat.add_sub_cancel, Nat.not_lt_zero, ↓m1_mI, nI_add, pk_mul, nx_and, nx_or, and31, sh_r, sh_1, nx_nand, Nat.and_one_is_mod, nI_clamp, nI_leI, nI_ltI, nI_eq, tb_1, vp_t, up2_a, up2_b, up2_c, br_1, br_0, true_and, and_true, mI_ne, mI_ne', mI_lt, mI_le, mI_nle, mI_nlt, pk_sub, mI_sub, rB, eq_false g1]
    refine ⟨fun e2 => ⟨_, rfl, h1 ⟨i, by omega, e2⟩⟩, fun e2 => K (i + 1) ⟨by omega, fun j hj => ?_⟩ (by omega)⟩
    by_cases ej : j = i
    · subst ej; exact e2
    · exact hno j (by omega)
theorem scE_C {I I' : Nat → Nat → Int32} (h : Ag scE I I') : Ag scC I I' := h.mono (by decide)
theorem sc1_R {I I' : Nat → Nat → Int32} (h : Ag [136, 138] I I') : Ag scR I I' := h.mono (by decide)
theorem k_of {x1 x2 : Int32} {Φ : Int32 → Int32 → Me → Prop} (h : IV μ.1) (K : ∀ v (μ' : Me), IV μ'.1 → μ'.1 0 = μ.1 0 → Φ v v μ') : VI N 5 mX11_of [.ref 2, .int x1, .int x2] μ (fun v μ1 => μ1.1 0 = μ.1 0 ∧ VI N 6 mX12_of [.ref 130, .int x1, .int x2] μ1 (fun v' μ2 => Φ v v' μ2)) := by
  have h' := h
  obtain ⟨B, B', R, tp, tn, ft, fp, hw, hc, hr⟩ := h
  have hn := hw.1.n
  refine tX11_of_0 (vi_b (fun Ψ => c_isW hc.1 hw.1) (fun g => ?_) (fun g => ⟨_, rfl, rfl, tX12_of_0 (vi_b (fun Ψ => r_isW hr.1 hw.1) (fun g' => absurd g' g) (fun _ => ⟨_, rfl, K _ _ h' rfl⟩))⟩))
  obtain ⟨w, hwl, rfl⟩ := g
  have h1 := hw.1.w hwl
  have rB := hr.1.1
  have hL := hc.ruL hw
  have hT := hr.ruT
  have wT := hw.ruT
  refine ⟨fun e => ?_, fun e => ?_, fun e => ?_, fun e => ?_, fun e => ?_⟩
  · subst e
    simp (disch := omega) only [lit, Nat.add_sub_cancel, Nat.not_lt_zero, ↓m1_mI, nI_add, pk_mul, nx_and, nx_or, and31, sh_r, sh_1, nx_nand, Nat.and_one_is_mod, nI_clamp, nI_leI, nI_ltI, nI_eq, tb_1, vp_t, up2_a, up2_b, up2_c, br_1, br_0, true_and, and_true, mI_ne, mI_ne', mI_lt, mI_le, mI_nle, mI_nlt, pk_sub, mI_sub, hc.1.k3]
    refine c_saysAs hc.1 hw.1 hL wT hwl h1.2.1 (fun μ1 a1 => ⟨_, rfl, ?_⟩)
    have hB1 : rowB B (μ1.1 131) := by rw [a1 131 (by decide)]; exact hr.1
    try refine And.intro (by first | rfl | exact hA 0 (by decide) | exact b3 0 (by decide) | exact b2 0 (by decide) | exact a1 0 (by decide) | exact a1 0 (by omega) | exact a3 0 (by decide) (by decide) | simp (disch := omega) only [up2_ne]) ?_
    refine tX12_of_0 (vi_b (fun Ψ => r_isW hB1 hw.1) (fun _ => ?_) (fun g => absurd ⟨w, hwl, rfl⟩ g))
    refine ⟨fun _ => r_saysNow hB1 hw.1 (hT.fr (a1 133 (by decide))) wT hwl (fun μ2 a2 => ⟨_, rfl, K _ _ (IV.same hw hc hr (scE_C a1) (sc1_R a2)) ?_⟩), fun e => absurd e (by decide), fun e => absurd e (by decide), fun e => absurd e (by decide), fun e => absurd e (by decide)⟩
    rw [a2 0 (by decide), a1 0 (by decide)]
  · subst e
    simp (disch := omega) only [lit, Nat.add_sub_cancel, Nat.not_lt_zero, ↓m1_mI, nI_add, pk_mul, nx_and, nx_or, and31, sh_r, sh_1, nx_nand, Nat.and_one_is_mod, nI_clamp, nI_leI, nI_ltI, nI_eq, tb_1, vp_t, up2_a, up2_b, up2_c, br_1, br_0, true_and, and_true, mI_ne, mI_ne', mI_lt, mI_le, mI_nle, mI_nlt, pk_sub, mI_sub, hc.1.k10]
    refine c_feeNow hc.1 hw.1 hL wT hwl (by omega) (fun μ1 a1 => ⟨_, rfl, ?_⟩)
    have hB1 : rowB B (μ1.1 131) := by rw [a1 131 (by decide)]; exact hr.1
    try refine And.intro (by first | rfl | exact hA 0 (by decide) | exact b3 0 (by decide) | exact b2 0 (by decide) | exact a1 0 (by decide) | exact a1 0 (by omega) | exact a3 0 (by decide) (by decide) | simp (disch := omega) only [up2_ne]) ?_
    refine tX12_of_0 (vi_b (fun Ψ => r_isW hB1 hw.1) (fun _ => ?_) (fun g => absurd ⟨w, hwl, rfl⟩ g))
    rw [hB1.1 5 (by decide)]
    refine ⟨fun e => absurd e (by decide), fun _ => r_feeOf hB1 hw.1 (hT.fr (a1 133 (by decide))) wT hwl (by omega) (fun μ2 a2 => ⟨_, rfl, K _ _ (IV.same hw hc hr (scE_C a1) (sc1_R a2)) ?_⟩), fun e => absurd e (by decide), fun e => absurd e (by decide), fun e => absurd e (by decide)⟩
    rw [a2 0 (by decide), a1 0 (by decide)]
  · subst e
    have fin : ∀ v : Int32, v = nI (B (10 + 5 * w + 4)) → μ.1 0 = μ.1 0 ∧ VI N 6 mX12_of [.ref 130, .int (nI w), .int 2] μ (fun v' μ2 => Φ v v' μ2) := by
      intro v hv
      subst hv
      try refine And.intro (by first | rfl | exact hA 0 (by decide) | exact b3 0 (by decide) | exact b2 0 (by decide) | exact a1 0 (by decide) | exact a1 0 (by omega) | exact a3 0 (by decide) (by decide) | simp (disch := omega) only [up2_ne]) ?_
      refine tX12_of_0 (vi_b (fun Ψ => r_isW hr.1 hw.1) (fun _ => ?_) (fun g => absurd ⟨w, hwl, rfl⟩ g))
      refine ⟨fun e => absurd e (by decide), fun e => absurd e (by decide), fun _ => ?_, fun e => absurd e (by decide), fun e => absurd e (by decide)⟩
      simp (disch := omega) only [lit, Nat.add_sub_cancel, Nat.not_lt_zero, ↓m1_mI, nI_add, pk_mul, nx_and, nx_or, and31, sh_r, sh_1, nx_nand, Nat.and_one_is_mod, nI_clamp, nI_leI, nI_ltI, nI_eq, tb_1, vp_t, up2_a, up2_b, up2_c, br_1, br_0, true_and, and_true, mI_ne, mI_ne', mI_lt, mI_le, mI_nle, mI_nlt, pk_sub, mI_sub, rB]
      exact ⟨_, rfl, K _ _ h' rfl⟩
    refine vi_b (fun Ψ => c_isX hc.1 hw.1 hwl) (fun g => ⟨_, rfl, fin _ (by rw [g]; rfl)⟩) (fun g => ⟨_, rfl, fin _ ?_⟩)
    have : B (10 + 5 * w + 4) = 0 := by omega
    rw [this]; rfl
  · subst e
    have fin : ∀ v : Int32, (hdP B w → v = 1) → (¬ hdP B w → v = 0) → μ.1 0 = μ.1 0 ∧ VI N 6 mX12_of [.ref 130, .int (nI w), .int 3] μ (fun v' μ2 => Φ v v' μ2) := by
      intro v hv hv0
      try refine And.intro (by first | rfl | exact hA 0 (by decide) | exact b3 0 (by decide) | exact b2 0 (by decide) | exact a1 0 (by decide) | exact a1 0 (by omega) | exact a3 0 (by decide) (by decide) | simp (disch := omega) only [up2_ne]) ?_
      refine tX12_of_0 (vi_b (fun Ψ => r_isW hr.1 hw.1) (fun _ => ?_) (fun g => absurd ⟨w, hwl, rfl⟩ g))
      refine ⟨fun e => absurd e (by decide), fun e => absurd e (by decide), fun e => absurd e (by decide), fun _ => ?_, fun e => absurd e (by decide)⟩
      refine vi_b (fun Ψ => r_heard hr.1 hw.1 (by omega)) (fun g => ⟨_, rfl, ?_⟩) (fun g => ⟨_, rfl, ?_⟩)
      · rw [hv g]; exact K _ _ h' rfl
      · rw [hv0 g]; exact K _ _ h' rfl
    exact vi_b (fun Ψ => c_heard hc.1 hw.1 (by omega)) (fun g => ⟨_, rfl, fin _ (fun _ => rfl) (fun q => absurd g q)⟩) (fun g => ⟨_, rfl, fin _ (fun q => absurd q g) (fun _ => rfl)⟩)
  · refine ⟨_, rfl, rfl, tX12_of_0 (vi_b (fun Ψ => r_isW hr.1 hw.1) (fun _ => ?_) (fun g => absurd ⟨w, hwl, rfl⟩ g))⟩
    have ne : ∀ y : Int32, 0 ≤ y.toInt → y.toInt ≤ 3 → ¬ x2 = y := by
      intro y q1 q2 q3
      subst q3
      omega
    exact ⟨fun q => absurd q (ne _ (by decide) (by decide)), fun q => absurd q (ne _ (by decide) (by decide)), fun q => absurd q (ne _ (by decide) (by decide)), fun q => absurd q (ne _ (by decide) (by decide)), fun _ => ⟨_, rfl, K _ _ h' rfl⟩⟩
/-! hear -/
theorem php : ∀ (m n : Nat) (f : Nat → Nat), (∀ i, i < n → f i < m) → (∀ i j, i < n → j < n → f i = f j → i = j) → n ≤ m := by
  intro m
  induction m with
  | zero =>
    intro n f h1 _
    rcases Nat.eq_zero_or_pos n with h | h
    · omega
    · have := h1 0 h
      omega
  | succ m ih =>
    intro n f h1 h2
    rcases Nat.eq_zero_or_pos n with h | h
    · omega
    · obtain ⟨k, rfl⟩ : ∃ k, n = k + 1 := ⟨n - 1, by omega⟩
      have := ih k (fun i => if f i = m then f k else f i) (fun i hi => ?_) (fun i j hi hj e => ?_)
      · omega
      · have a := h1 i (by omega)
        have b := h1 k (by omega)
        by_cases e : f i = m
        · rw [if_pos e]
          have : f k ≠ m := fun q => by
            have := h2 i k (by omega) (by omega) (e.trans q.symm)
            omega
          omega
        · rw [if_neg e]; omega
      · by_cases e1 : f i = m
        · rw [if_pos e1] at e
          by_cases e2 : f j = m
          · exact h2 i j (by omega) (by omega) (e1.trans e2.symm)
          · rw [if_neg e2] at e
            have := h2 k j (by omega) (by omega) e
            omega
        · rw [if_neg e1] at e
          by_cases e2 : f j = m
          · rw [if_pos e2] at e
            have := h2 i k (by omega) (by omega) e
            omega
          · rw [if_neg e2] at e
            exact h2 i j (by omega) (by omega) e
theorem hd_room {w : Nat} (hW : WB B) (hw : w < B 0) (h : ¬ hdP B w) : B 5 < B 0 := by
  have := php (B 0) (B 5 + 1) (fun i => if i < B 5 then B (80 + 3 * i) else w) (fun i hi => ?_) (fun i j hi hj e => ?_)
  · omega
  · split
    · exact (hW.h (by assumption)).1
    · exact hw
  · by_cases e1 : i < B 5
    · rw [if_pos e1] at e
      by_cases e2 : j < B 5
      · rw [if_pos e2] at e
        exact hW.2.2.2.2.1 i j e1 e2 e
      · rw [if_neg e2] at e
        exact absurd ⟨i, e1, e⟩ h
    · rw [if_neg e1] at e
      by_cases e2 : j < B 5
      · rw [if_pos e2] at e
        exact absurd ⟨j, e2, e.symm⟩ h
      · omega
theorem CB_hear {a b c : Nat} (hC : CB B 3 I) (hW : WB B) (hl : B 5 < 10) : CB (nhB B a b c) 3 (up2 (up2 (up2 (up2 I 14 (B 5) (nI a)) 15 (B 5) (nI b)) 16 (B 5) (nI c)) 13 0 (nI (B 5 + 1))) := by
  have hn := hW.n
  obtain ⟨c1, c2, c3, c4, c5⟩ := hC
  unfold CB nhB
  simp (disch := omega) only [up2_ne]
  refine ⟨cHd_ub (cHd_ub (cHd_ub (cHd_ub c1 ?_) ?_) ?_) ?_, ?_, ?_, ?_, ?_⟩
  iterate 4 omega
  · refine cRoll_ub (cRoll_ub (cRoll_ub (cRoll_ub c2 ?_ ?_) ?_ ?_) ?_ ?_) ?_ ?_
    all_goals first | omega | (intro i hi; simp (disch := omega) only [ub_n] at hi; omega)
  · refine cRow_ub (cRow_ub (cRow_ub (cRow_ub c3 ?_ ?_) ?_ ?_) ?_ ?_) ?_ ?_
    all_goals first | omega | (intro i hi; simp (disch := omega) only [ub_n] at hi; omega)
  · refine cRow_add c4 (by omega) up2_c (fun i => ?_) (fun i => ?_) (fun i => ?_) <;> (rw [up2_eq] <;> try simp (disch := omega) only [up2_a])
  · refine cRow_ub (cRow_ub (cRow_ub (cRow_ub c5 ?_ ?_) ?_ ?_) ?_ ?_) ?_ ?_
    all_goals first | omega | (intro i hi; simp (disch := omega) only [ub_n] at hi; omega)
theorem WB_hear {a b c : Nat} (hW : WB B) (ha : a < B 0) (hh : ¬ hdP B a) (hb : b < 65536) (hc : c ≤ 9999) : WB (nhB B a b c) := by
  have hn := hW.n
  have hl := hd_room hW ha hh
  obtain ⟨⟨w0, _⟩, w1, w2, w3, w4, w5⟩ := hW
  unfold WB nhB
  rw [ub_e]
  (try simp (disch := omega) only [ub_n])
  refine ⟨⟨fun k => ?_, by omega⟩, fun i hi => ?_, fun i hi => ?_, fun i hi => ?_, fun i j hi hj => ?_, fun i hi => ?_⟩
  · have := w0 k
    unfold ub
    repeat' split
    all_goals omega
  · have := w1 i hi
    (try simp (disch := omega) only [ub_n])
    exact this
  · have := w2 i hi
    (try simp (disch := omega) only [ub_n])
    exact this
  · by_cases e : i = B 5
    · subst e
      simp (disch := omega) only [ub_n, ub_e]
      omega
    · have := w3 i (by omega)
      (try simp (disch := omega) only [ub_n])
      exact this
  · by_cases e : i = B 5
    · subst e
      by_cases e2 : j = B 5
      · intro _; exact e2.symm
      · simp (disch := omega) only [ub_n, ub_e]
        intro q
        exact absurd ⟨j, by omega, q.symm⟩ hh
    · by_cases e2 : j = B 5
      · subst e2
        simp (disch := omega) only [ub_n, ub_e]
        intro q
        exact absurd ⟨i, by omega, q⟩ hh
      · simp (disch := omega) only [ub_n]
        exact w4 i j (by omega) (by omega)
  · have := w5 i hi
    (try simp (disch := omega) only [ub_n])
    exact this
theorem nmP_ub {w kd mn f k v : Nat} (hw : w < 10) (hk : 60 ≤ k) : nmP (ub B k v) w kd mn f = nmP B w kd mn f := by
  funext x
  unfold nmP
  rw [ub_n (by omega), ub_n (by omega), ub_n (by omega)]
theorem saysP_ub {w kd k v : Nat} (hw : w < 10) (hk : 60 ≤ k) : saysP (ub B k v) T w kd = saysP B T w kd := by
  unfold saysP
  apply bits_ext
  intro f _
  rw [nmP_ub hw hk, ub_n (by omega)]
theorem feeP_ub {w mn k v : Nat} (hw : w < 10) (hk : 60 ≤ k) : feeP (ub B k v) T w mn = feeP B T w mn := by
  unfold feeP
  rw [ub_n (by omega), nmP_ub hw hk, ub_n (by omega)]
theorem WB_junk {k v : Nat} (hW : WB B) (hk : 80 + 3 * B 5 ≤ k) (hk2 : k < 110) (hv : v < 65536) : WB (ub B k v) := by
  have hn := hW.n
  obtain ⟨⟨w0, _⟩, w1, w2, w3, w4, w5⟩ := hW
  unfold WB
  (try simp (disch := omega) only [ub_n])
  refine ⟨⟨fun k => ?_, by omega⟩, fun i hi => ?_, fun i hi => ?_, fun i hi => ?_, fun i j hi hj => ?_, fun i hi => ?_⟩
  · have := w0 k
    unfold ub
    repeat' split
    all_goals omega
  · (try simp (disch := omega) only [ub_n]); exact w1 i hi
  · (try simp (disch := omega) only [ub_n]); exact w2 i hi
  · (try simp (disch := omega) only [ub_n]); exact w3 i hi
  · (try simp (disch := omega) only [ub_n]); exact w4 i j hi hj
  · (try simp (disch := omega) only [ub_n]); exact w5 i hi
theorem r_hear {w : Nat} (hB : rowB B (μ.1 131)) (hW : WB B) (hT : RuL B T μ.1) (wT : WT T) (hw : w < B 0) (hx : ¬ B (10 + 5 * w + 4) = 1) (hh : ¬ hdP B w) (K : ∀ μ' : Me, Ag [131, 136, 138] μ.1 μ'.1 → rowB (nhB B w (saysP B T w (B (10 + 5 * w + 1))) (feeP B T w (B 5))) (μ'.1 131) → Ψ (nI (feeP B T w (B 5))) μ') : VI N 6 mX12_hear [.ref 130, .int (nI w)] μ Ψ := by
  have hn := hW.n
  have rB := hB.1
  have hl := hd_room hW hw hh
  have hs := saysP_lt B T w (B (10 + 5 * w + 1))
  have hfe := feeP_le (T := T) (mn := B 5) hW hw
  refine tX12_hear_0 (vi_b (fun Ψ => r_isW hB hW) (fun _ => ?_) (fun g => absurd ⟨w, hw, rfl⟩ g))
  refine vi_b (fun Ψ => r_isX hB hW hw) (fun g => absurd g hx) (fun _ => ?_)
  refine vi_b (fun Ψ => r_heard hB hW (by omega)) (fun g => absurd g hh) (fun _ => ?_)
  simp (disch := omega) only [lit, Nat.add_sub_cancel, Nat.not_lt_zero, ↓m1_mI, nI_add, pk_mul, nx_and, nx_or, and31, sh_r, sh_1, nx_nand, Nat.and_one_is_mod, nI_clamp, nI_leI, nI_ltI, nI_eq, tb_1, vp_t, up2_a, up2_b, up2_c, br_1, br_0, true_and, and_true, mI_ne, mI_ne', mI_lt, mI_le, mI_nle, mI_nlt, pk_sub, mI_sub, rB]
  have hB1 : rowB (ub B (80 + 3 * B 5) w) ((((up2 μ.1 131 (80 + 3 * B 5) (nI w), μ.2) : Me).1) 131) := rowB_up hB (by omega)
  have hW1 : WB (ub B (80 + 3 * B 5) w) := WB_junk hW (by omega) (by omega) (by omega)
  have hT1 : RuL (ub B (80 + 3 * B 5) w) T (((up2 μ.1 131 (80 + 3 * B 5) (nI w), μ.2) : Me).1) := by
    unfold RuL at *
    rw [ub_n (by omega)]
    simp (disch := omega) only [up2_ne]
    exact hT
  have e0 : ub B (80 + 3 * B 5) w 0 = B 0 := ub_n (by omega)
  have e1 : ub B (80 + 3 * B 5) w (10 + 5 * w + 1) = B (10 + 5 * w + 1) := ub_n (by omega)
  have e5 : ub B (80 + 3 * B 5) w 5 = B 5 := ub_n (by omega)
  refine r_saysNow hB1 hW1 hT1 wT (by rw [e0]; exact hw) (fun μ2 a2 => ?_)
  rw [e1, saysP_ub (by omega) (by omega)]
  have hB2 : rowB (ub (ub B (80 + 3 * B 5) w) (80 + 3 * B 5 + 1) (saysP B T w (B (10 + 5 * w + 1)))) ((((up2 μ2.1 131 (80 + 3 * B 5 + 1) (nI (saysP B T w (B (10 + 5 * w + 1)))), μ2.2) : Me).1) 131) := by
    refine rowB_up ?_ (by omega)
    rw [a2 131 (by decide)]
    exact hB1
  have hW2 : WB (ub (ub B (80 + 3 * B 5) w) (80 + 3 * B 5 + 1) (saysP B T w (B (10 + 5 * w + 1)))) := WB_junk hW1 (by rw [e5]; omega) (by omega) hs
  have hT2 : RuL (ub (ub B (80 + 3 * B 5) w) (80 + 3 * B 5 + 1) (saysP B T w (B (10 + 5 * w + 1)))) T (((up2 μ2.1 131 (80 + 3 * B 5 + 1) (nI (saysP B T w (B (10 + 5 * w + 1)))), μ2.2) : Me).1) := by
    unfold RuL at *
    rw [ub_n (by omega), ub_n (by omega)]
    simp (disch := omega) only [up2_ne]
    rw [a2 133 (by decide)]
    simp (disch := omega) only [up2_ne]
    exact hT
  have e05 : ub (ub B (80 + 3 * B 5) w) (80 + 3 * B 5 + 1) (saysP B T w (B (10 + 5 * w + 1))) 5 = B 5 := by rw [ub_n (by omega)]; exact e5
  have e00 : ub (ub B (80 + 3 * B 5) w) (80 + 3 * B 5 + 1) (saysP B T w (B (10 + 5 * w + 1))) 0 = B 0 := by rw [ub_n (by omega)]; exact e0
  have r25 : up2 μ2.1 131 (80 + 3 * B 5 + 1) (nI (saysP B T w (B (10 + 5 * w + 1)))) 131 5 = nI (B 5) := by
    have := hB2.1 5 (by decide)
    rw [e05] at this
    exact this
  rw [up2_b (by omega)] at r25
  simp (disch := omega) only [lit, Nat.add_sub_cancel, Nat.not_lt_zero, ↓m1_mI, nI_add, pk_mul, nx_and, nx_or, and31, sh_r, sh_1, nx_nand, Nat.and_one_is_mod, nI_clamp, nI_leI, nI_ltI, nI_eq, tb_1, vp_t, up2_a, up2_b, up2_c, br_1, br_0, true_and, and_true, mI_ne, mI_ne', mI_lt, mI_le, mI_nle, mI_nlt, pk_sub, mI_sub, r25]
  refine r_feeOf hB2 hW2 hT2 wT (by rw [e00]; exact hw) (by omega) (fun μ3 a3 => ?_)
  rw [feeP_ub (by omega) (by omega), feeP_ub (by omega) (by omega)]
  have hB3 : rowB (ub (ub B (80 + 3 * B 5) w) (80 + 3 * B 5 + 1) (saysP B T w (B (10 + 5 * w + 1)))) (μ3.1 131) := by
    rw [a3 131 (by decide)]
    exact hB2
  have r35 : μ3.1 131 5 = nI (B 5) := by
    have := hB3.1 5 (by decide)
    rw [e05] at this
    exact this
  simp (disch := omega) only [lit, Nat.add_sub_cancel, Nat.not_lt_zero, ↓m1_mI, nI_add, pk_mul, nx_and, nx_or, and31, sh_r, sh_1, nx_nand, Nat.and_one_is_mod, nI_clamp, nI_leI, nI_ltI, nI_eq, tb_1, vp_t, up2_a, up2_b, up2_c, br_1, br_0, true_and, and_true, mI_ne, mI_ne', mI_lt, mI_le, mI_nle, mI_nlt, pk_sub, mI_sub, r35]
  refine ⟨_, rfl, K _ ?_ (rowB_up (rowB_up hB3 (by omega)) (by omega))⟩
  refine Ag.up (Ag.up ?_ (by decide)) (by decide)
  have a3' : Ag [131, 136, 138] _ _ := a3.mono (by decide)
  refine Ag.tr ?_ a3'
  refine Ag.up ?_ (by decide)
  have a2' : Ag [131, 136, 138] _ _ := a2.mono (by decide)
  refine Ag.tr ?_ a2'
  exact Ag.up Ag.rf (by decide)
theorem k_hear {x1 : Int32} {Φ : Int32 → Int32 → Me → Prop} (h : IV μ.1) (K : ∀ v (μ' : Me), IV μ'.1 → μ'.1 0 = μ.1 0 → Φ v v μ') : VI N 5 mX11_hear [.ref 2, .int x1] μ (fun v μ1 => μ1.1 0 = μ.1 0 ∧ VI N 6 mX12_hear [.ref 130, .int x1] μ1 (fun v' μ2 => Φ v v' μ2)) := by
  have h' := h
  obtain ⟨B, B', R, tp, tn, ft, fp, hw, hc, hr⟩ := h
  have hn := hw.1.n
  have hL := hc.ruL hw
  have hT := hr.ruT
  have wT := hw.ruT
  refine tX11_hear_0 (vi_b (fun Ψ => c_isW hc.1 hw.1) (fun g => ?_) (fun g => ⟨_, rfl, rfl, tX12_hear_0 (vi_b (fun Ψ => r_isW hr.1 hw.1) (fun g' => absurd g' g) (fun _ => ⟨_, rfl, K _ _ h' rfl⟩))⟩))
  obtain ⟨w, hwl, rfl⟩ := g
  have h1 := hw.1.w hwl
  refine vi_b (fun Ψ => c_isX hc.1 hw.1 hwl) (fun g => ⟨_, rfl, rfl, tX12_hear_0 (vi_b (fun Ψ => r_isW hr.1 hw.1) (fun _ => vi_b (fun Ψ => r_isX hr.1 hw.1 hwl) (fun _ => ⟨_, rfl, K _ _ h' rfl⟩) (fun g' => absurd g g')) (fun g => absurd ⟨w, hwl, rfl⟩ g))⟩) (fun hx => ?_)
  refine vi_b (fun Ψ => c_heard hc.1 hw.1 (by omega)) (fun g => ⟨_, rfl, rfl, tX12_hear_0 (vi_b (fun Ψ => r_isW hr.1 hw.1) (fun _ => vi_b (fun Ψ => r_isX hr.1 hw.1 hwl) (fun g' => absurd g' hx) (fun _ => vi_b (fun Ψ => r_heard hr.1 hw.1 (by omega)) (fun _ => ⟨_, rfl, K _ _ h' rfl⟩) (fun g' => absurd g g'))) (fun g => absurd ⟨w, hwl, rfl⟩ g))⟩) (fun hh => ?_)
  have hl := hd_room hw.1 hwl hh
  rw [hc.1.k10]
  refine c_feeNow hc.1 hw.1 hL wT hwl (by omega) (fun μ1 a1 => ?_)
  have hC1 : CB B 3 μ1.1 := hc.1.fr (fun a k1 k2 => a1 a (by simp [scE]; omega))
  have hL1 : LW (txB B R) (lwB B) μ1.1 := (hc.fr hw (fun a ha _ => scE_C a1 a ha)).ruL hw
  simp (disch := omega) only [lit, Nat.add_sub_cancel, Nat.not_lt_zero, ↓m1_mI, nI_add, pk_mul, nx_and, nx_or, and31, sh_r, sh_1, nx_nand, Nat.and_one_is_mod, nI_clamp, nI_leI, nI_ltI, nI_eq, tb_1, vp_t, up2_a, up2_b, up2_c, br_1, br_0, true_and, and_true, mI_ne, mI_ne', mI_lt, mI_le, mI_nle, mI_nlt, pk_sub, mI_sub, hC1.k3]
  refine c_saysAs hC1 hw.1 hL1 wT hwl h1.2.1 (fun μ2 a2 => ?_)
  have hC2 : CB B 3 μ2.1 := hC1.fr (fun a k1 k2 => a2 a (by simp [scE]; omega))
  refine tX7_add_0 ?_
  have g10 : ¬ 10 ≤ B 5 := by omega
  simp (disch := omega) only [lit, Nat.add_sub_cancel, Nat.not_lt_zero, ↓m1_mI, nI_add, pk_mul, nx_and, nx_or, and31, sh_r, sh_1, nx_nand, Nat.and_one_is_mod, nI_clamp, nI_leI, nI_ltI, nI_eq, tb_1, vp_t, up2_a, up2_b, up2_c, br_1, br_0, true_and, and_true, mI_ne, mI_ne', mI_lt, mI_le, mI_nle, mI_nlt, pk_sub, mI_sub, hC2.k10, eq_false g10]
  refine ⟨_, rfl, ?_⟩
  have a3 : ∀ a, a ∉ scC → a ∉ ktR → up2 (up2 (up2 (up2 μ2.1 14 (B 5) (nI w)) 15 (B 5) (nI (saysP B (txB B R) w (B (10 + 5 * w + 1))))) 16 (B 5) (nI (feeP B (txB B R) w (B 5)))) 13 0 (nI (B 5 + 1)) a = μ.1 a := by
    intro a ha hk
    rw [up2_ne (fun e => hk (by rw [e]; decide)), up2_ne (fun e => hk (by rw [e]; decide)), up2_ne (fun e => hk (by rw [e]; decide)), up2_ne (fun e => hk (by rw [e]; decide)), scE_C a2 a ha, scE_C a1 a ha]
  have hB3 : rowB B ((((up2 (up2 (up2 (up2 μ2.1 14 (B 5) (nI w)) 15 (B 5) (nI (saysP B (txB B R) w (B (10 + 5 * w + 1))))) 16 (B 5) (nI (feeP B (txB B R) w (B 5)))) 13 0 (nI (B 5 + 1)), μ2.2) : Me).1) 131) := by
    show rowB B (up2 (up2 (up2 (up2 μ2.1 14 (B 5) (nI w)) 15 (B 5) (nI (saysP B (txB B R) w (B (10 + 5 * w + 1))))) 16 (B 5) (nI (feeP B (txB B R) w (B 5)))) 13 0 (nI (B 5 + 1)) 131)
    rw [a3 131 (scC_ge (by decide)) (ktR_ge (by decide))]
    exact hr.1
  try refine And.intro (by first | rfl | exact hA 0 (by decide) | exact b3 0 (by decide) | exact b2 0 (by decide) | exact a1 0 (by decide) | exact a1 0 (by omega) | exact a3 0 (by decide) (by decide) | simp (disch := omega) only [up2_ne]) ?_
  refine r_hear hB3 hw.1 (hT.fr (a3 133 (scC_ge (by decide)) (ktR_ge (by decide)))) wT hwl hx hh (fun μ4 a4 hb4 => ?_)
  refine K _ _ (IV.court hw hc hr (WB_hear hw.1 hwl hh (saysP_lt _ _ _ _) (feeP_le hw.1 hwl)) ?_ a3 (CB_hear hC2 hw.1 (by omega)) (fun a ha h131 => a4 a ?_) hb4) ?_
  · unfold nhB
    (try simp (disch := omega) only [ub_n])
  · intro q
    simp at q
    rcases q with q | q | q
    · exact h131 q
    · exact ha (q ▸ by decide)
    · exact ha (q ▸ by decide)
  · rw [a4 0 (by decide)]
    exact a3 0 (by decide) (by decide)
end HK
