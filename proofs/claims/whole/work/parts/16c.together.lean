/-! together -/
section TG
variable {N : Nat} {μ : Me} {B B' R T tp : Nat → Nat} {tn : Nat} {ft fp : Int32} {e : Nat → Nat}
def togP (B T : Nat → Nat) (o p : Nat) : Bool := allB (2 ^ B 0) (fun st => fB B T (eS B T st (B 0)) 99 o == fB B T (eS B T st (B 0)) 99 p) && exB (2 ^ B 0) (fun st => fB B T (eS B T st (B 0)) 99 o)
theorem togP_no {o p st : Nat} (hs : st < 2 ^ B 0) (h : fB B T (eS B T st (B 0)) 99 o ≠ fB B T (eS B T st (B 0)) 99 p) : togP B T o p = false := by
  unfold togP
  rw [allB_f hs (by simpa using h), Bool.false_and]
theorem togP_yes {o p : Nat} (h : ∀ st, st < 2 ^ B 0 → fB B T (eS B T st (B 0)) 99 o = fB B T (eS B T st (B 0)) 99 p) : togP B T o p = exB (2 ^ B 0) (fun st => fB B T (eS B T st (B 0)) 99 o) := by
  unfold togP
  rw [allB_iff.mpr (fun st hs => by simpa using h st hs), Bool.true_and]
theorem among_2 {o p : Nat} (ho : o < B 1) (hp : p < B 1) (hne : o ≠ p) : (bits (B 1) (fun i => (2 ^ o ||| 2 ^ p).testBit i && fB B T e 99 i) = 0 ↔ fB B T e 99 o = false ∧ fB B T e 99 p = false) ∧ (bits (B 1) (fun i => (2 ^ o ||| 2 ^ p).testBit i && fB B T e 99 i) = 2 ^ o ||| 2 ^ p ↔ fB B T e 99 o = true ∧ fB B T e 99 p = true) := by
  have tb : ∀ i, (bits (B 1) (fun i => (2 ^ o ||| 2 ^ p).testBit i && fB B T e 99 i)).testBit i = (decide (i < B 1) && ((decide (o = i) || decide (p = i)) && fB B T e 99 i)) := by
    intro i
    rw [bits_tb, Nat.testBit_or, Nat.testBit_two_pow, Nat.testBit_two_pow]
  have t2 : ∀ i, (2 ^ o ||| 2 ^ p).testBit i = (decide (o = i) || decide (p = i)) := by
    intro i
    rw [Nat.testBit_or, Nat.testBit_two_pow, Nat.testBit_two_pow]
  constructor
  · constructor
    · intro h
      have h1 := tb o
      have h2 := tb p
      rw [h, Nat.zero_testBit] at h1 h2
      simp [ho, hp] at h1 h2
      exact ⟨h1, h2⟩
    · rintro ⟨h1, h2⟩
      apply Nat.eq_of_testBit_eq
      intro i
      rw [tb, Nat.zero_testBit]
      by_cases e1 : o = i
      · subst e1; rw [h1]; simp
      · by_cases e2 : p = i
        · subst e2; rw [h2]; simp
        · simp [e1, e2]
  · constructor
    · intro h
      have h1 := tb o
      have h2 := tb p
      rw [h, t2] at h1 h2
      simp [ho, hp] at h1 h2
      exact ⟨h1, h2⟩
    · rintro ⟨h1, h2⟩
      apply Nat.eq_of_testBit_eq
      intro i
      rw [tb, t2]
      by_cases e1 : o = i
      · subst e1; rw [h1]; simp [ho]
      · by_cases e2 : p = i
        · subst e2; rw [h2]; simp [hp]
        · simp [e1, e2]
theorem c_together {o p : Nat} {Ψ : Int32 → Me → Prop} (hC : CB B 3 μ.1) (hW : WB B) (hL : LW T (lwB B) μ.1) (wT : WT T) (ho : o < B 1) (hp : p < B 1) (hne : o ≠ p) (K : ∀ μ' : Me, Ag scW μ.1 μ'.1 → Ψ (b32 (togP B T o p)) μ') : VI N 6 mX11_together [.ref 2, .int (nI o), .int (nI p)] μ Ψ := by
  have hn := hW.n
  have h5 := lwB_5 hW
  have hpw : 2 ^ B 0 ≤ 2 ^ 10 := Nat.pow_le_pow_right (by decide) (by omega)
  have hsb := sb_lt hW
  have hb : 2 ^ o ||| 2 ^ p < 64 := Nat.or_lt_two_pow (n := 6) (p2_lt (by omega)) (p2_lt (by omega))
  have hb0 : 2 ^ o ||| 2 ^ p ≠ 0 := by
    intro q
    have : (2 ^ o ||| 2 ^ p).testBit o = true := by rw [Nat.testBit_or, Nat.testBit_two_pow]; simp
    rw [q, Nat.zero_testBit] at this
    cases this
  refine tX11_together_0 (vi_b (fun Ψ => c_isV hC hW) (fun _ => vi_b (fun Ψ => c_isV hC hW) (fun _ => ?_) (fun g => absurd ⟨p, hp, rfl⟩ g)) (fun g => absurd ⟨o, ho, rfl⟩ g))
  refine ⟨fun q => absurd (nI_inj q (by omega) (by omega)) hne, fun _ => ?_⟩
  refine c_findSayings hC hW hL wT (fun μ1 a1 d1 => ?_)
  have b1 : Ag scW μ.1 μ1.1 := a1.mono (by decide)
  have hC1 := hC.sW b1
  simp (disch := omega) only [lit, Nat.add_sub_cancel, Nat.not_lt_zero, ↓m1_mI, nI_add, pk_mul, nx_and, nx_or, and31, sh_r, sh_1, nx_nand, Nat.and_one_is_mod, nI_clamp, nI_leI, nI_ltI, nI_eq, tb_1, vp_t, up2_a, up2_b, up2_c, br_1, br_0, true_and, and_true, mI_ne, mI_ne', mI_lt, mI_le, mI_nle, mI_nlt, pk_sub, mI_sub, hC1.k0]
  refine vb_wf (N := N) (d := 6) (M := mX11_together) (hd := 55) (τ := Nat × Me) (fun x => [.ref 2, .null, .null, .int (nI (2 ^ o ||| 2 ^ p)), .int (b32 (exB x.1 (fun st => us B st && fB B T (eS B T st (B 0)) 99 o))), .int (nI (2 ^ B 0)), .int (nI x.1)]) (fun x => x.2) (fun x => 2 ^ B 0 - x.1) (fun x => x.1 ≤ 2 ^ B 0 ∧ Ag scW μ.1 x.2.1 ∧ cSay B T x.2.1 ∧ ∀ st, st < x.1 → us B st = true → fB B T (eS B T st (B 0)) 99 o = fB B T (eS B T st (B 0)) 99 p) ?_ (0, μ1) ⟨Nat.zero_le _, b1, d1, fun st hs => by omega⟩
  rintro ⟨i, ν⟩ ⟨hi, hA, hS, hQ⟩ K'
  dsimp only at hi hA hS hQ K' ⊢
  have hC2 := hC.sW hA
  refine tX11_together_55 ?_
  by_cases ei : i = 2 ^ B 0
  · subst ei
    simp (disch := omega) only [lit, Nat.add_sub_cancel, Nat.not_lt_zero, ↓m1_mI, nI_add, pk_mul, nx_and, nx_or, and31, sh_r, sh_1, nx_nand, Nat.and_one_is_mod, nI_clamp, nI_leI, nI_ltI, nI_eq, tb_1, vp_t, up2_a, up2_b, up2_c, br_1, br_0, true_and, and_true, mI_ne, mI_ne', mI_lt, mI_le, mI_nle, mI_nlt, pk_sub, mI_sub, Nat.le_refl]
    have e1 : togP B T o p = exB (2 ^ B 0) (fun st => us B st && fB B T (eS B T st (B 0)) 99 o) := by
      rw [togP_yes (fun st hs => by have := hQ (ndN st (sb B)) (ndN_le _ _ hs) (nd_us st); rw [eS_nd] at this; exact this)]
      apply bool_ext
      rw [exB_iff, exB_iff]
      constructor
      · rintro ⟨st, q1, q2⟩
        exact ⟨ndN st (sb B), ndN_le _ _ q1, by rw [nd_us, eS_nd, q2]; rfl⟩
      · rintro ⟨st, q1, q2⟩
        rw [Bool.and_eq_true] at q2
        exact ⟨st, q1, q2.2⟩
    have := K ν hA
    rw [e1] at this
    refine ⟨?_, _, rfl, this⟩
    cases exB (2 ^ B 0) (fun st => us B st && fB B T (eS B T st (B 0)) 99 o)
    · exact Or.inl rfl
    · exact Or.inr rfl
  · have g1 : ¬ 2 ^ B 0 ≤ i := by omega
    have han : i &&& sb B < 2 ^ 31 := Nat.lt_of_le_of_lt Nat.and_le_left (by omega)
    have ee : exB (i + 1) (fun st => us B st && fB B T (eS B T st (B 0)) 99 o) = (exB i (fun st => us B st && fB B T (eS B T st (B 0)) 99 o) || (us B i && fB B T (eS B T i (B 0)) 99 o)) := rfl
    simp (disch := omega) only [lit, Nat.add_sub_cancel, Nat.not_lt_zero, ↓m1_mI, nI_add, pk_mul, nx_and, nx_or, and31, sh_r, sh_1, nx_nand, Nat.and_one_is_mod, nI_clamp, nI_leI, nI_ltI, nI_eq, tb_1, vp_t, up2_a, up2_b, up2_c, br_1, br_0, true_and, and_true, mI_ne, mI_ne', mI_lt, mI_le, mI_nle, mI_nlt, pk_sub, mI_sub, eq_false g1, hC2.k1]
    refine ⟨fun z2 => ?_, fun z2 => ?_⟩
    · refine c_weigh hC2 hW (by omega) hS (fun μ4 a4 d4 => ?_)
      have b4 : Ag scW μ.1 μ4.1 := hA.tr (a4.mono (by decide))
      have s4 : cSay B T μ4.1 := fun w hw => by rw [a4 83 (by decide)]; exact hS w hw
      have hus := us_iff.mpr z2
      refine c_among (hC.sW b4) hW (hL.sW h5 b4) wT d4 hb ?_
      have hbl : bits (B 1) (fun v => (2 ^ o ||| 2 ^ p).testBit v && fB B T (eS B T i (B 0)) 99 v) < 2 ^ 31 := lt31 (bits_lt _ _) (by omega)
      obtain ⟨am0, am2⟩ := among_2 (T := T) (e := eS B T i (B 0)) ho hp hne
      have nx : ∀ x y : Int32, x = y ||| b32 (fB B T (eS B T i (B 0)) 99 o) → y = b32 (exB i (fun st => us B st && fB B T (eS B T st (B 0)) 99 o)) → fB B T (eS B T i (B 0)) 99 o = fB B T (eS B T i (B 0)) 99 p → VB N 6 mX11_together 55 [.ref 2, .null, .null, .int (nI (2 ^ o ||| 2 ^ p)), .int x, .int (nI (2 ^ B 0)), .int (nI (i + 1))] [] μ4 (fun r μ' => ∃ v, r = some (.int v) ∧ Ψ v μ') := by
        intro x y hx hy hq
        have Kn := K' (i + 1, μ4) ⟨by omega, b4, s4, fun st hs hu => by
          by_cases es : st = i
          · subst es; exact hq
          · exact hQ st (by omega) hu⟩ (by omega)
        dsimp only at Kn
        rw [ee, hus, Bool.true_and] at Kn
        have : x = b32 (exB i (fun st => us B st && fB B T (eS B T st (B 0)) 99 o) || fB B T (eS B T i (B 0)) 99 o) := by
          rw [hx, hy]
          cases exB i (fun st => us B st && fB B T (eS B T st (B 0)) 99 o) <;> cases fB B T (eS B T i (B 0)) 99 o <;> decide
        rw [this]
        exact Kn
      simp (disch := omega) only [lit, Nat.add_sub_cancel, Nat.not_lt_zero, ↓m1_mI, nI_add, pk_mul, nx_and, nx_or, and31, sh_r, sh_1, nx_nand, Nat.and_one_is_mod, nI_clamp, nI_leI, nI_ltI, nI_eq, tb_1, vp_t, up2_a, up2_b, up2_c, br_1, br_0, true_and, and_true, mI_ne, mI_ne', mI_lt, mI_le, mI_nle, mI_nlt, pk_sub, mI_sub]
      refine ⟨fun z => tX11_together_104 ?_, fun z => ⟨fun z3 => tX11_together_104 ?_, fun z3 => ⟨_, rfl, ?_⟩⟩⟩
      · have q := am0.mp z
        rw [z]
        refine ⟨fun y => absurd (nI_inj y (by omega) (by omega)).symm hb0, fun _ => ?_⟩
        simp (disch := omega) only [lit, Nat.add_sub_cancel, Nat.not_lt_zero, ↓m1_mI, nI_add, pk_mul, nx_and, nx_or, and31, sh_r, sh_1, nx_nand, Nat.and_one_is_mod, nI_clamp, nI_leI, nI_ltI, nI_eq, tb_1, vp_t, up2_a, up2_b, up2_c, br_1, br_0, true_and, and_true, mI_ne, mI_ne', mI_lt, mI_le, mI_nle, mI_nlt, pk_sub, mI_sub]
        exact nx _ _ (by rw [q.1]; rfl) rfl (by rw [q.1, q.2])
      · have q := am2.mp z3
        rw [z3]
        refine ⟨fun _ => ?_, fun y => absurd rfl y⟩
        simp (disch := omega) only [lit, Nat.add_sub_cancel, Nat.not_lt_zero, ↓m1_mI, nI_add, pk_mul, nx_and, nx_or, and31, sh_r, sh_1, nx_nand, Nat.and_one_is_mod, nI_clamp, nI_leI, nI_ltI, nI_eq, tb_1, vp_t, up2_a, up2_b, up2_c, br_1, br_0, true_and, and_true, mI_ne, mI_ne', mI_lt, mI_le, mI_nle, mI_nlt, pk_sub, mI_sub]
        exact nx _ _ (by rw [q.1]; rfl) rfl (by rw [q.1, q.2])
      · have hno : fB B T (eS B T i (B 0)) 99 o ≠ fB B T (eS B T i (B 0)) 99 p := by
          intro q
          cases hq : fB B T (eS B T i (B 0)) 99 o with
          | false => exact z (am0.mpr ⟨hq, by rw [← q, hq]⟩)
          | true => exact z3 (am2.mpr ⟨hq, by rw [← q, hq]⟩)
        have := K μ4 b4
        rw [togP_no (by omega) hno] at this
        exact this
    · have Kn := K' (i + 1, ν) ⟨by omega, hA, hS, fun st hs hu => by
        by_cases es : st = i
        · subst es; exact absurd (us_iff.mp hu) z2
        · exact hQ st (by omega) hu⟩ (by omega)
      dsimp only at Kn
      rw [ee, eq_false_of_ne_true (fun q => z2 (us_iff.mp q)), Bool.false_and, Bool.or_false] at Kn
      exact Kn
theorem r_together {o p : Nat} {Ψ : Int32 → Me → Prop} (hB : rowB B (μ.1 131)) (hW : WB B) (hT : RuL B T μ.1) (wT : WT T) (ho : o < B 1) (hp : p < B 1) (hne : o ≠ p) (K : ∀ μ' : Me, Ag scR μ.1 μ'.1 → Ψ (b32 (togP B T o p)) μ') : VI N 7 mX12_together [.ref 130, .int (nI o), .int (nI p)] μ Ψ := by
  have hn := hW.n
  have hpw : 2 ^ B 0 ≤ 2 ^ 10 := Nat.pow_le_pow_right (by decide) (by omega)
  refine tX12_together_0 (vi_b (fun Ψ => r_isV hB hW) (fun _ => vi_b (fun Ψ => r_isV hB hW) (fun _ => ?_) (fun g => absurd ⟨p, hp, rfl⟩ g)) (fun g => absurd ⟨o, ho, rfl⟩ g))
  refine ⟨fun q => absurd (nI_inj q (by omega) (by omega)) hne, fun _ => ?_⟩
  refine r_ask hB hW hT wT (fun μ1 a1 s1 => ?_)
  have c1 : Ag scR μ.1 μ1.1 := a1.mono (by decide)
  refine vb_wf (N := N) (d := 7) (M := mX12_together) (hd := 32) (τ := Nat × Me) (fun x => [.ref 130, .int (nI o), .int (nI p), .int (b32 (exB x.1 (fun st => fB B T (eS B T st (B 0)) 99 o))), .int (nI x.1)]) (fun x => x.2) (fun x => 2 ^ B 0 - x.1) (fun x => x.1 ≤ 2 ^ B 0 ∧ Ag scR μ.1 x.2.1 ∧ rSay B T x.2.1 ∧ ∀ st, st < x.1 → fB B T (eS B T st (B 0)) 99 o = fB B T (eS B T st (B 0)) 99 p) ?_ (0, μ1) ⟨Nat.zero_le _, c1, s1, fun st hs => by omega⟩
  rintro ⟨i, ν⟩ ⟨hi, hA, hS, hQ⟩ K'
  dsimp only at hi hA hS hQ K' ⊢
  have hB3 : rowB B (ν.1 131) := by rw [hA 131 (by decide)]; exact hB
  have rB := hB3.1
  refine tX12_together_32 ?_
  by_cases ei : i = 2 ^ B 0
  · subst ei
    simp (disch := omega) only [lit, Nat.add_sub_cancel, Nat.not_lt_zero, ↓m1_mI, nI_add, pk_mul, nx_and, nx_or, and31, sh_r, sh_1, nx_nand, Nat.and_one_is_mod, nI_clamp, nI_leI, nI_ltI, nI_eq, tb_1, vp_t, up2_a, up2_b, up2_c, br_1, br_0, true_and, and_true, mI_ne, mI_ne', mI_lt, mI_le, mI_nle, mI_nlt, pk_sub, mI_sub, rB, Nat.le_refl]
    have := K ν hA
    rw [togP_yes hQ] at this
    refine ⟨?_, _, rfl, this⟩
    cases exB (2 ^ B 0) (fun st => fB B T (eS B T st (B 0)) 99 o)
    · exact Or.inl rfl
    · exact Or.inr rfl
  · have g1 : ¬ 2 ^ B 0 ≤ i := by omega
    have he9 : ∀ f, eS B T i (B 0) f ≤ 9 := eS_9 hW (Nat.le_refl _)
    have ee : exB (i + 1) (fun st => fB B T (eS B T st (B 0)) 99 o) = (exB i (fun st => fB B T (eS B T st (B 0)) 99 o) || fB B T (eS B T i (B 0)) 99 o) := rfl
    simp (disch := omega) only [lit, Nat.add_sub_cancel, Nat.not_lt_zero, ↓m1_mI, nI_add, pk_mul, nx_and, nx_or, and31, sh_r, sh_1, nx_nand, Nat.and_one_is_mod, nI_clamp, nI_leI, nI_ltI, nI_eq, tb_1, vp_t, up2_a, up2_b, up2_c, br_1, br_0, true_and, and_true, mI_ne, mI_ne', mI_lt, mI_le, mI_nle, mI_nlt, pk_sub, mI_sub, rB, eq_false g1]
    refine r_bySet hB3 hW (by omega) hS (fun μ2 a2 d2 => ?_)
    have hB4 : rowB B (μ2.1 131) := by rw [a2 131 (by decide)]; exact hB3
    refine r_show (b := 99) hB4 hW ((hT.fr (hA 133 (by decide))).fr (a2 133 (by decide))) wT (Or.inr rfl) he9 d2 (fun μ3 a3 d3 => ?_)
    have hB5 : rowB B (μ3.1 131) := by rw [a3 131 (by decide)]; exact hB4
    have hA5 : Ag scR μ.1 μ3.1 := hA.tr ((a2.mono (by decide)).tr (a3.mono (by decide)))
    have s5 : rSay B T μ3.1 := rSay_fr hS (by rw [a3 141 (by decide), a2 141 (by decide)])
    have shw : ∀ (v : Nat) (Ψ' : Int32 → Me → Prop), v < B 1 → Ψ' (b32 (fB B T (eS B T i (B 0)) 99 v)) μ3 → VI N 2 mX12_isShown [.ref 130, .int (nI v)] μ3 Ψ' := by
      intro v Ψ' hv h
      refine r_isShown hB5 hW hv (fun j _ => shN_9 wT he9 16 j) d3 (fun q => ?_) (fun q => ?_)
      · rw [show fB B T (eS B T i (B 0)) 99 v = true from fB_iff.mpr q] at h; exact h
      · rw [show fB B T (eS B T i (B 0)) 99 v = false from eq_false_of_ne_true (fun z => q (fB_iff.mp z))] at h; exact h
    refine shw o _ ho (shw p _ hp ?_)
    have b32e : ∀ x y : Bool, b32 x = b32 y → x = y := by intro x y h; cases x <;> cases y <;> first | rfl | exact absurd h (by decide)
    refine ⟨fun z => ?_, fun z => ⟨_, rfl, ?_⟩⟩
    · have hq := b32e _ _ z
      have Kn := K' (i + 1, μ3) ⟨by omega, hA5, s5, fun st hs => by
        by_cases es : st = i
        · subst es; exact hq
        · exact hQ st (by omega)⟩ (by omega)
      dsimp only at Kn
      rw [ee] at Kn
      cases hx : exB i (fun st => fB B T (eS B T st (B 0)) 99 o) with
      | true =>
        rw [hx, Bool.true_or] at Kn
        exact ⟨fun q => absurd q (by decide), fun _ => Kn⟩
      | false =>
        rw [hx, Bool.false_or] at Kn
        refine ⟨fun _ => shw o _ ho ?_, fun q => absurd rfl q⟩
        cases hy : fB B T (eS B T i (B 0)) 99 o with
        | true =>
          rw [hy] at Kn
          exact ⟨fun q => absurd q (by decide), fun _ => Kn⟩
        | false =>
          rw [hy] at Kn
          exact ⟨fun _ => Kn, fun q => absurd rfl q⟩
    · have := K μ3 hA5
      rw [togP_no (st := i) (by omega) (fun q => z (by rw [q]))] at this
      exact this
theorem k_together {x1 x2 : Int32} {Φ : Int32 → Int32 → Me → Prop} (h : IV μ.1) (K : ∀ v (μ' : Me), IV μ'.1 → μ'.1 0 = μ.1 0 → Φ v v μ') : VI N 6 mX11_together [.ref 2, .int x1, .int x2] μ (fun v μ1 => μ1.1 0 = μ.1 0 ∧ VI N 7 mX12_together [.ref 130, .int x1, .int x2] μ1 (fun v' μ2 => Φ v v' μ2)) := by
  have h' := h
  obtain ⟨B, B', R, tp, tn, ft, fp, hw, hc, hr⟩ := h
  have hn := hw.1.n
  by_cases g1 : ∃ v, v < B 1 ∧ x1 = nI v
  · by_cases g2 : ∃ v, v < B 1 ∧ x2 = nI v
    · by_cases g3 : x1 = x2
      · exact tX11_together_0 (vi_b (fun Ψ => c_isV hc.1 hw.1) (fun _ => vi_b (fun Ψ => c_isV hc.1 hw.1) (fun _ => ⟨fun _ => ⟨_, rfl, rfl, tX12_together_0 (vi_b (fun Ψ => r_isV hr.1 hw.1) (fun _ => vi_b (fun Ψ => r_isV hr.1 hw.1) (fun _ => ⟨fun _ => ⟨_, rfl, K _ _ h' rfl⟩, fun q => absurd g3 q⟩) (fun q => absurd g2 q)) (fun q => absurd g1 q))⟩, fun q => absurd g3 q⟩) (fun q => absurd g2 q)) (fun q => absurd g1 q))
      · obtain ⟨o, ho, rfl⟩ := g1
        obtain ⟨p, hp, rfl⟩ := g2
        have hne : o ≠ p := fun q => g3 (by rw [q])
        refine c_together hc.1 hw.1 (hc.ruL hw) hw.ruT ho hp hne (fun μ2 b2 => ?_)
        have hB2 : rowB B (μ2.1 131) := by rw [b2 131 (by decide)]; exact hr.1
        try refine And.intro (by first | rfl | exact hA 0 (by decide) | exact b3 0 (by decide) | exact b2 0 (by decide) | exact a1 0 (by decide) | exact a1 0 (by omega) | exact a3 0 (by decide) (by decide) | simp (disch := omega) only [up2_ne]) ?_
        exact r_together hB2 hw.1 (hr.ruT.fr (b2 133 (by decide))) hw.ruT ho hp hne (fun ν2 c2 => K _ _ (IV.same hw hc hr (scW_C b2) c2) (by rw [c2 0 (by decide), b2 0 (by decide)]))
    · exact tX11_together_0 (vi_b (fun Ψ => c_isV hc.1 hw.1) (fun _ => vi_b (fun Ψ => c_isV hc.1 hw.1) (fun q => absurd q g2) (fun _ => ⟨_, rfl, rfl, tX12_together_0 (vi_b (fun Ψ => r_isV hr.1 hw.1) (fun _ => vi_b (fun Ψ => r_isV hr.1 hw.1) (fun q => absurd q g2) (fun _ => ⟨_, rfl, K _ _ h' rfl⟩)) (fun q => absurd g1 q))⟩)) (fun q => absurd g1 q))
  · exact tX11_together_0 (vi_b (fun Ψ => c_isV hc.1 hw.1) (fun q => absurd q g1) (fun _ => ⟨_, rfl, rfl, tX12_together_0 (vi_b (fun Ψ => r_isV hr.1 hw.1) (fun q => absurd q g1) (fun _ => ⟨_, rfl, K _ _ h' rfl⟩))⟩))
end TG
