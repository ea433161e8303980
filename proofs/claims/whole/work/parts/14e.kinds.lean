/-! kinds -/
section KD
variable {N : Nat} {μ : Me} {B B' R T tp : Nat → Nat} {tn : Nat} {ft fp : Int32} {I : Nat → Nat → Int32} {Ψ : Int32 → Me → Prop}
def allB (n : Nat) (p : Nat → Bool) : Bool := match n with
  | 0 => true
  | n + 1 => allB n p && p n
theorem allB_f {n : Nat} {p : Nat → Bool} {i : Nat} (hi : i < n) (h : p i = false) : allB n p = false := by
  induction n with
  | zero => omega
  | succ n ih =>
    show (allB n p && p n) = false
    by_cases e : i = n
    · subst e; rw [h, Bool.and_false]
    · rw [ih (by omega), Bool.false_and]
def fitQ (B : Nat → Nat) (w sd i : Nat) : Bool := !decide (B (110 + 3 * i) = w) || decide (sd / 2 ^ B (110 + 3 * i + 1) % 2 = B (110 + 3 * i + 2))
theorem c_fit {w sd : Nat} (hC : CB B 3 μ.1) (hW : WB B) (hw : w < 2 ^ 31) (hs : sd < 65536) (h1 : allB (B 6) (fitQ B w sd) = true → Ψ 1 μ) (h0 : ¬ allB (B 6) (fitQ B w sd) = true → Ψ 0 μ) : VI N 1 mX9_fit [.ref 17, .int (nI w), .int (nI sd)] μ Ψ := by
  have hn := hW.n
  refine tX9_fit_0 ?_
  refine vb_wf (τ := Nat) (fun i => [.ref 17, .int (nI w), .int (nI sd), .int (nI i)]) (fun _ => μ) (fun i => B 6 - i) (fun i => i ≤ B 6 ∧ allB i (fitQ B w sd) = true) ?_ 0 ⟨Nat.zero_le _, rfl⟩
  rintro i ⟨hi, hno⟩ K
  refine tX9_fit_2 ?_
  by_cases e : i = B 6
  · subst e
    simp (disch := omega) only [lit, Nat.add_sub_cancel, Nat.not_lt_zero, ↓m1_mI, nI_add, pk_mul, nx_and, nx_or, and31, sh_r, sh_1, nx_nand, Nat.and_one_is_mod, nI_clamp, nI_leI, nI_ltI, nI_eq, tb_1, vp_t, up2_a, up2_b, up2_c, br_1, br_0, true_and, and_true, mI_ne, mI_ne', mI_lt, mI_le, mI_nle, mI_nlt, pk_sub, mI_sub, hC.k14, Nat.le_refl]
    exact ⟨_, rfl, h1 hno⟩
  · have g1 : ¬ B 6 ≤ i := by omega
    have hi' : i < B 6 := by omega
    have g2 := hW.s hi'
    simp (disch := omega) only [lit, Nat.add_sub_cancel, Nat.not_lt_zero, ↓m1_mI, nI_add, pk_mul, nx_and, nx_or, and31, sh_r, sh_1, nx_nand, Nat.and_one_is_mod, nI_clamp, nI_leI, nI_ltI, nI_eq, tb_1, vp_t, up2_a, up2_b, up2_c, br_1, br_0, true_and, and_true, mI_ne, mI_ne', mI_lt, mI_le, mI_nle, mI_nlt, pk_sub, mI_sub, hC.k14, eq_false g1, hC.k15, hC.k16, hC.k17]
    have nx : fitQ B w sd i = true → VB N 1 mX9_fit 2 [.ref 17, .int (nI w), .int (nI sd), .int (nI (i + 1))] [] μ (fun r μ' => ∃ v, r = some (.int v) ∧ Ψ v μ') := fun q => K (i + 1) ⟨by omega, by show (allB i _ && _) = true; rw [hno, q]; rfl⟩ (by omega)
    refine ⟨fun e1 => ⟨fun e2 => nx ?_, fun e2 => ⟨_, rfl, h0 ?_⟩⟩, fun e1 => nx ?_⟩
    · unfold fitQ; rw [decide_eq_true e2, Bool.or_true]
    · rw [allB_f hi' (by unfold fitQ; rw [decide_eq_true e1, decide_eq_false e2]; rfl)]; decide
    · unfold fitQ; rw [decide_eq_false e1]; rfl
def kindsP (B T : Nat → Nat) (w : Nat) : Nat := bits 4 (fun kd => allB (B 6) (fitQ B w (saysP B T w kd)))
theorem c_kinds {w : Nat} (hC : CB B 3 μ.1) (hW : WB B) (hL : LW T (lwB B) μ.1) (wT : WT T) (hw : w < B 0) (K : ∀ μ' : Me, Ag scE μ.1 μ'.1 → Ψ (nI (kindsP B T w)) μ') : VI N 5 mX11_kinds [.ref 2, .int (nI w)] μ Ψ := by
  have hn := hW.n
  have h5 := lwB_5 hW
  refine tX11_kinds_0 (vi_b (fun Ψ => c_isW hC hW) (fun _ => ?_) (fun g => absurd ⟨w, hw, rfl⟩ g))
  have Z := vb_for (N := N) (d := 5) (M := mX11_kinds) (hd := 14) (Ψ := fun r μ' => ∃ v, r = some (.int v) ∧ Ψ v μ') (τ := Me) (fun i _ => [.ref 2, .int (nI w), .int (nI (bits i (fun kd => allB (B 6) (fitQ B w (saysP B T w kd))))), .int (nI i)]) (fun _ ν => ν) 4 (fun _ ν => Ag scE μ.1 ν.1) ?_ ?_ 0 μ (by omega) Ag.rf
  · exact Z
  · intro i ν hi hA K'
    have g1 : ¬ 4 ≤ i := by omega
    have hC1 : CB B 3 ν.1 := hC.fr (fun a k1 k2 => hA a (by simp [scE]; omega))
    have hL1 : LW T (lwB B) ν.1 := hL.fr (fun a k1 k2 => hA a (by unfold isL5 at h5; simp [scE]; omega))
    have hs := saysP_lt B T w i
    refine tX11_kinds_14 ?_
    simp (disch := omega) only [lit, Nat.add_sub_cancel, Nat.not_lt_zero, ↓m1_mI, nI_add, pk_mul, nx_and, nx_or, and31, sh_r, sh_1, nx_nand, Nat.and_one_is_mod, nI_clamp, nI_leI, nI_ltI, nI_eq, tb_1, vp_t, up2_a, up2_b, up2_c, br_1, br_0, true_and, and_true, mI_ne, mI_ne', mI_lt, mI_le, mI_nle, mI_nlt, pk_sub, mI_sub, eq_false g1]
    refine c_saysAs hC1 hW hL1 wT hw hi (fun μ2 a2 => ?_)
    have hC2 : CB B 3 μ2.1 := hC1.fr (fun a k1 k2 => a2 a (by simp [scE]; omega))
    have Kn := K' μ2 (hA.tr a2)
    refine vi_b (fun Ψ => c_fit hC2 hW (by omega) hs) (fun g => ?_) (fun g => ?_)
    · rw [← bits_t g] at Kn
      exact Kn
    · rw [← bits_f g] at Kn
      exact Kn
  · intro ν hA
    refine tX11_kinds_14 ?_
    simp (disch := omega) only [lit, Nat.add_sub_cancel, Nat.not_lt_zero, ↓m1_mI, nI_add, pk_mul, nx_and, nx_or, and31, sh_r, sh_1, nx_nand, Nat.and_one_is_mod, nI_clamp, nI_leI, nI_ltI, nI_eq, tb_1, vp_t, up2_a, up2_b, up2_c, br_1, br_0, true_and, and_true, mI_ne, mI_ne', mI_lt, mI_le, mI_nle, mI_nlt, pk_sub, mI_sub, Nat.le_refl]
    exact ⟨_, rfl, K ν hA⟩
theorem r_kinds {w : Nat} (hB : rowB B (μ.1 131)) (hW : WB B) (hT : RuL B T μ.1) (wT : WT T) (hw : w < B 0) (K : ∀ μ' : Me, Ag [136, 138] μ.1 μ'.1 → Ψ (nI (kindsP B T w)) μ') : VI N 5 mX12_kinds [.ref 130, .int (nI w)] μ Ψ := by
  have hn := hW.n
  refine tX12_kinds_0 (vi_b (fun Ψ => r_isW hB hW) (fun _ => ?_) (fun g => absurd ⟨w, hw, rfl⟩ g))
  have Z := vb_for (N := N) (d := 5) (M := mX12_kinds) (hd := 14) (Ψ := fun r μ' => ∃ v, r = some (.int v) ∧ Ψ v μ') (τ := Me) (fun i _ => [.ref 130, .int (nI w), .int (nI (bits i (fun kd => allB (B 6) (fitQ B w (saysP B T w kd))))), .int (nI i)]) (fun _ ν => ν) 4 (fun _ ν => Ag [136, 138] μ.1 ν.1) ?_ ?_ 0 μ (by omega) Ag.rf
  · exact Z
  · intro i ν hi hA K'
    have g1 : ¬ 4 ≤ i := by omega
    have hB1 : rowB B (ν.1 131) := by rw [hA 131 (by decide)]; exact hB
    have hs := saysP_lt B T w i
    refine tX12_kinds_14 ?_
    simp (disch := omega) only [lit, Nat.add_sub_cancel, Nat.not_lt_zero, ↓m1_mI, nI_add, pk_mul, nx_and, nx_or, and31, sh_r, sh_1, nx_nand, Nat.and_one_is_mod, nI_clamp, nI_leI, nI_ltI, nI_eq, tb_1, vp_t, up2_a, up2_b, up2_c, br_1, br_0, true_and, and_true, mI_ne, mI_ne', mI_lt, mI_le, mI_nle, mI_nlt, pk_sub, mI_sub, eq_false g1]
    refine r_saidBy hB1 hW (hT.fr (hA 133 (by decide))) wT hw hi (fun μ2 a2 => ?_)
    have hB2 : rowB B (μ2.1 131) := by rw [a2 131 (by decide)]; exact hB1
    have rB := hB2.1
    have Kn := K' μ2 (hA.tr a2)
    refine vb_up (fun j => [.ref 130, .int (nI w), .int (nI (bits i (fun kd => allB (B 6) (fitQ B w (saysP B T w kd))))), .int (nI i), .int (nI (saysP B T w i)), .int (b32 (allB j (fitQ B w (saysP B T w i)))), .int (nI j)]) (fun _ => μ2) (B 6) (fun j hj Kj => ?_) ?_
    · have g2 : ¬ B 6 ≤ j := by omega
      have g3 := hW.s hj
      refine tX12_kinds_33 ?_
      simp (disch := omega) only [lit, Nat.add_sub_cancel, Nat.not_lt_zero, ↓m1_mI, nI_add, pk_mul, nx_and, nx_or, and31, sh_r, sh_1, nx_nand, Nat.and_one_is_mod, nI_clamp, nI_leI, nI_ltI, nI_eq, tb_1, vp_t, up2_a, up2_b, up2_c, br_1, br_0, true_and, and_true, mI_ne, mI_ne', mI_lt, mI_le, mI_nle, mI_nlt, pk_sub, mI_sub, rB, eq_false g2]
      have es : allB (j + 1) (fitQ B w (saysP B T w i)) = (allB j (fitQ B w (saysP B T w i)) && fitQ B w (saysP B T w i) j) := rfl
      rw [es] at Kj
      cases hb : allB j (fitQ B w (saysP B T w i)) with
      | false =>
        rw [hb] at Kj
        refine ⟨fun _ => Kj, fun e => absurd rfl e⟩
      | true =>
        rw [hb, Bool.true_and] at Kj
        refine ⟨fun e => absurd e (by decide), fun _ => ⟨fun e1 => ⟨fun e2 => ?_, fun e2 => ?_⟩, fun e1 => ?_⟩⟩
        · have : fitQ B w (saysP B T w i) j = true := by unfold fitQ; rw [decide_eq_true e2, Bool.or_true]
          rw [this] at Kj; exact Kj
        · have : fitQ B w (saysP B T w i) j = false := by unfold fitQ; rw [decide_eq_true e1, decide_eq_false e2]; rfl
          rw [this] at Kj; exact Kj
        · have : fitQ B w (saysP B T w i) j = true := by unfold fitQ; rw [decide_eq_false e1]; rfl
          rw [this] at Kj; exact Kj
    · refine tX12_kinds_33 ?_
      simp (disch := omega) only [lit, Nat.add_sub_cancel, Nat.not_lt_zero, ↓m1_mI, nI_add, pk_mul, nx_and, nx_or, and31, sh_r, sh_1, nx_nand, Nat.and_one_is_mod, nI_clamp, nI_leI, nI_ltI, nI_eq, tb_1, vp_t, up2_a, up2_b, up2_c, br_1, br_0, true_and, and_true, mI_ne, mI_ne', mI_lt, mI_le, mI_nle, mI_nlt, pk_sub, mI_sub, rB, Nat.le_refl, Nat.or_zero]
      cases hb : allB (B 6) (fitQ B w (saysP B T w i)) with
      | false =>
        rw [← bits_f (p := fun kd => allB (B 6) (fitQ B w (saysP B T w kd))) (by rw [hb]; decide)] at Kn
        exact ⟨fun _ => Kn, fun e => absurd rfl e⟩
      | true =>
        rw [← bits_t (p := fun kd => allB (B 6) (fitQ B w (saysP B T w kd))) hb] at Kn
        exact ⟨fun e => absurd e (by decide), fun _ => Kn⟩
  · intro ν hA
    refine tX12_kinds_14 ?_
    simp (disch := omega) only [lit, Nat.add_sub_cancel, Nat.not_lt_zero, ↓m1_mI, nI_add, pk_mul, nx_and, nx_or, and31, sh_r, sh_1, nx_nand, Nat.and_one_is_mod, nI_clamp, nI_leI, nI_ltI, nI_eq, tb_1, vp_t, up2_a, up2_b, up2_c, br_1, br_0, true_and, and_true, mI_ne, mI_ne', mI_lt, mI_le, mI_nle, mI_nlt, pk_sub, mI_sub, Nat.le_refl]
    exact ⟨_, rfl, K ν hA⟩
theorem k_kinds {x1 : Int32} {Φ : Int32 → Int32 → Me → Prop} (h : IV μ.1) (K : ∀ v (μ' : Me), IV μ'.1 → μ'.1 0 = μ.1 0 → Φ v v μ') : VI N 5 mX11_kinds [.ref 2, .int x1] μ (fun v μ1 => μ1.1 0 = μ.1 0 ∧ VI N 5 mX12_kinds [.ref 130, .int x1] μ1 (fun v' μ2 => Φ v v' μ2)) := by
  have h' := h
  obtain ⟨B, B', R, tp, tn, ft, fp, hw, hc, hr⟩ := h
  have hn := hw.1.n
  by_cases g : ∃ w, w < B 0 ∧ x1 = nI w
  · obtain ⟨w, hwl, rfl⟩ := g
    refine c_kinds hc.1 hw.1 (hc.ruL hw) hw.ruT hwl (fun μ1 a1 => ?_)
    have hB1 : rowB B (μ1.1 131) := by rw [a1 131 (by decide)]; exact hr.1
    try refine And.intro (by first | rfl | exact hA 0 (by decide) | exact b3 0 (by decide) | exact b2 0 (by decide) | exact a1 0 (by decide) | exact a1 0 (by omega) | exact a3 0 (by decide) (by decide) | simp (disch := omega) only [up2_ne]) ?_
    refine r_kinds hB1 hw.1 (hr.ruT.fr (a1 133 (by decide))) hw.ruT hwl (fun μ2 a2 => K _ _ (IV.same hw hc hr (scE_C a1) (sc1_R a2)) ?_)
    rw [a2 0 (by decide), a1 0 (by decide)]
  · exact tX11_kinds_0 (vi_b (fun Ψ => c_isW hc.1 hw.1) (fun q => absurd q g) (fun _ => ⟨_, rfl, rfl, tX12_kinds_0 (vi_b (fun Ψ => r_isW hr.1 hw.1) (fun q => absurd q g) (fun _ => ⟨_, rfl, K _ _ h' rfl⟩))⟩))
end KD
