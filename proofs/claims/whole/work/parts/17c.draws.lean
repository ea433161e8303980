/-! draws -/
section DR
variable {N : Nat} {μ : Me} {B B' R T tp : Nat → Nat} {tn : Nat} {ft fp : Int32}
def chs (B : Nat → Nat) (n : Nat) : Nat := sumf n (fun i => B (60 + 3 * i + 2))
theorem chs_s (B : Nat → Nat) (n : Nat) : chs B (n + 1) = chs B n + B (60 + 3 * n + 2) := rfl
theorem chs_le (hW : WB B) {n : Nat} (hn : n ≤ B 1) : chs B n ≤ 594 := by
  have h0 := hW.n
  have : chs B n ≤ 99 * n := sumf_le (fun i hi => (hW.v (show i < B 1 by omega)).2.2.2)
  omega
def lc (L : Option (Nat × Nat × Nat)) : Int32 := match L with
  | none => mI
  | some y => nI y.1
def drw (B : Nat → Nat) (l : Nat) : Nat := fnd (B 1) (fun i => decide (l < chs B (i + 1)))
theorem drw_sp {l : Nat} (h : l < chs B (B 1)) : drw B l < B 1 ∧ chs B (drw B l) ≤ l ∧ l < chs B (drw B l + 1) := by
  have hlt : drw B l < B 1 := by
    rcases Nat.lt_or_ge (drw B l) (B 1) with q | q
    · exact q
    · exfalso
      rcases Nat.eq_zero_or_pos (B 1) with z | z
      · rw [z] at h; exact absurd h (Nat.not_lt_zero _)
      · have := fnd_no (n := B 1) (p := fun i => decide (l < chs B (i + 1))) (B 1 - 1) (by unfold drw at q; omega) (by omega)
        rw [decide_eq_false_iff_not, Nat.sub_add_cancel z] at this
        exact this h
  refine ⟨hlt, ?_, of_decide_eq_true (fnd_sp hlt)⟩
  rcases Nat.eq_zero_or_pos (drw B l) with z | z
  · rw [z]; exact Nat.zero_le _
  · have := fnd_no (n := B 1) (p := fun i => decide (l < chs B (i + 1))) (drw B l - 1) (by unfold drw at *; omega) (by omega)
    rw [decide_eq_false_iff_not, Nat.sub_add_cancel z] at this
    omega
theorem chs_mono (B : Nat → Nat) {i j : Nat} (h : i ≤ j) : chs B i ≤ chs B j := by
  induction j with
  | zero => have : i = 0 := by omega
            subst this; exact Nat.le_refl _
  | succ j ih =>
    by_cases e : i = j + 1
    · subst e; exact Nat.le_refl _
    · have := ih (by omega)
      rw [chs_s]
      omega
theorem drw_lt {l i : Nat} (hl : l < chs B (B 1)) (h : i < drw B l) : chs B (i + 1) ≤ l := Nat.le_trans (chs_mono B (show i + 1 ≤ drw B l from h)) (drw_sp hl).2.1
def drN (B T : Nat → Nat) (sd n : Nat) : Nat × Nat × Nat := match n with
  | 0 => (sd * 17 + 9, 0, 0)
  | n + 1 => match lsN B T (drw B ((drN B T sd n).1 % chs B (B 1))) (2 ^ B 0) with
    | none => (((drN B T sd n).1 * 199 + 47) % 30113, (drN B T sd n).2.1, (drN B T sd n).2.2)
    | some y => (((drN B T sd n).1 * 199 + 47) % 30113, (drN B T sd n).2.1 + 1, (drN B T sd n).2.2 + y.1)
theorem drN_b (hW : WB B) (wT : WT T) {sd : Nat} (hs : sd ≤ 9999) : ∀ n, (drN B T sd n).1 < 200000 ∧ (drN B T sd n).2.1 ≤ n ∧ (drN B T sd n).2.2 ≤ 1000000 * n := by
  have hn := hW.n
  have hp : 2 ^ B 0 ≤ 2 ^ 10 := Nat.pow_le_pow_right (by decide) (by omega)
  intro n
  induction n with
  | zero =>
    refine ⟨?_, Nat.le_refl _, Nat.le_refl _⟩
    show sd * 17 + 9 < 200000
    omega
  | succ n ih =>
    have hok := lsN_ok (v := drw B ((drN B T sd n).1 % chs B (B 1))) hW wT (2 ^ B 0) (by omega)
    unfold drN
    cases hl : lsN B T (drw B ((drN B T sd n).1 % chs B (B 1))) (2 ^ B 0) with
    | none =>
      refine ⟨?_, ?_, ?_⟩
      · show ((drN B T sd n).1 * 199 + 47) % 30113 < 200000
        omega
      · show (drN B T sd n).2.1 ≤ n + 1
        omega
      · show (drN B T sd n).2.2 ≤ 1000000 * (n + 1)
        omega
    | some y =>
      rw [hl] at hok
      have := hok.1
      refine ⟨?_, ?_, ?_⟩
      · show ((drN B T sd n).1 * 199 + 47) % 30113 < 200000
        omega
      · show (drN B T sd n).2.1 + 1 ≤ n + 1
        omega
      · show (drN B T sd n).2.2 + y.1 ≤ 1000000 * (n + 1)
        omega
theorem lc_ne {L : Option (Nat × Nat × Nat)} (ho : okL L) : (L = none ∧ lc L = mI) ∨ ∃ y, L = some y ∧ lc L = nI y.1 ∧ y.1 < 1000000 := by
  cases L with
  | none => exact Or.inl ⟨rfl, rfl⟩
  | some y => exact Or.inr ⟨y, rfl, rfl, ho.1⟩
/-! the class -/
theorem c_chances {Ψ : Int32 → Me → Prop} (hC : CB B 3 μ.1) (hW : WB B) (h : Ψ (nI (chs B (B 1))) μ) : VI N 1 mX3_chances [.ref 9] μ Ψ := by
  have hn := hW.n
  refine tX3_chances_0 ?_
  refine vb_up (fun i => [.ref 9, .int (nI (chs B i)), .int (nI i)]) (fun _ => μ) (B 1) (fun i hi K => ?_) ?_
  · have g1 : ¬ B 1 ≤ i := by omega
    refine tX3_chances_4 ?_
    simp (disch := omega) only [lit, Nat.add_sub_cancel, Nat.not_lt_zero, ↓m1_mI, nI_add, pk_mul, nx_and, nx_or, and31, sh_r, sh_1, nx_nand, Nat.and_one_is_mod, nI_clamp, nI_leI, nI_ltI, nI_eq, tb_1, vp_t, up2_a, up2_b, up2_c, br_1, br_0, true_and, and_true, mI_ne, mI_ne', mI_lt, mI_le, mI_nle, mI_nlt, pk_sub, mI_sub, hC.k6, eq_false g1, hC.k9]
    exact K
  · refine tX3_chances_4 ?_
    simp (disch := omega) only [lit, Nat.add_sub_cancel, Nat.not_lt_zero, ↓m1_mI, nI_add, pk_mul, nx_and, nx_or, and31, sh_r, sh_1, nx_nand, Nat.and_one_is_mod, nI_clamp, nI_leI, nI_ltI, nI_eq, tb_1, vp_t, up2_a, up2_b, up2_c, br_1, br_0, true_and, and_true, mI_ne, mI_ne', mI_lt, mI_le, mI_nle, mI_nlt, pk_sub, mI_sub, hC.k6, Nat.le_refl]
    exact ⟨_, rfl, h⟩
theorem c_drawn {l : Nat} {Ψ : Int32 → Me → Prop} (hC : CB B 3 μ.1) (hW : WB B) (hl : l < chs B (B 1)) (h : Ψ (nI (drw B l)) μ) : VI N 1 mX3_drawnBy [.ref 9, .int (nI l)] μ Ψ := by
  have hn := hW.n
  have hsp := drw_sp hl
  have hcl := chs_le hW (Nat.le_refl _)
  refine tX3_drawnBy_0 ?_
  have Z := vb_up (N := N) (d := 1) (M := mX3_drawnBy) (hd := 4) (Ψ := fun r μ' => ∃ v, r = some (.int v) ∧ Ψ v μ') (fun i => [.ref 9, .null, .int (nI (l - chs B i)), .int (nI i)]) (fun _ => μ) (drw B l) (fun i hi K => ?_) ?_
  · exact Z
  · have g1 : ¬ B 1 ≤ i := by omega
    have hlt := drw_lt hl hi
    have hs := chs_s B i
    have hvi := hW.v (show i < B 1 by omega)
    have g2 : B (60 + 3 * i + 2) ≤ l - chs B i := by omega
    have e1 : l - chs B i - B (60 + 3 * i + 2) = l - chs B (i + 1) := by omega
    refine tX3_drawnBy_4 ?_
    simp (disch := omega) only [lit, Nat.add_sub_cancel, Nat.not_lt_zero, ↓m1_mI, nI_add, pk_mul, nx_and, nx_or, and31, sh_r, sh_1, nx_nand, Nat.and_one_is_mod, nI_clamp, nI_leI, nI_ltI, nI_eq, tb_1, vp_t, up2_a, up2_b, up2_c, br_1, br_0, true_and, and_true, mI_ne, mI_ne', mI_lt, mI_le, mI_nle, mI_nlt, pk_sub, mI_sub, hC.k6, eq_false g1, hC.k9, eq_true g2, e1]
    exact K
  · have g1 : ¬ B 1 ≤ drw B l := by omega
    have hs := chs_s B (drw B l)
    have hvi := hW.v hsp.1
    have g2 : ¬ B (60 + 3 * drw B l + 2) ≤ l - chs B (drw B l) := by omega
    refine tX3_drawnBy_4 ?_
    simp (disch := omega) only [lit, Nat.add_sub_cancel, Nat.not_lt_zero, ↓m1_mI, nI_add, pk_mul, nx_and, nx_or, and31, sh_r, sh_1, nx_nand, Nat.and_one_is_mod, nI_clamp, nI_leI, nI_ltI, nI_eq, tb_1, vp_t, up2_a, up2_b, up2_c, br_1, br_0, true_and, and_true, mI_ne, mI_ne', mI_lt, mI_le, mI_nle, mI_nlt, pk_sub, mI_sub, hC.k6, eq_false g1, hC.k9, eq_false g2]
    exact ⟨_, rfl, h⟩
theorem c_findCosts {Ψ : Me → Prop} (hC : CB B 3 μ.1) (hW : WB B) (hL : LW T (lwB B) μ.1) (wT : WT T) (K : ∀ μ' : Me, Ag scL μ.1 μ'.1 → (∀ v, v < B 1 → 0 < B (60 + 3 * v + 2) → μ'.1 85 v = lc (lsN B T v (2 ^ B 0))) → Ψ μ') : VU N 6 mX11_findCosts [.ref 2] μ Ψ := by
  have hn := hW.n
  have h5 := lwB_5 hW
  have sC : ∀ ν : Me, Ag scL μ.1 ν.1 → CB B 3 ν.1 := fun ν h => hC.fr (fun a k1 k2 => h a (by simp [scL]; omega))
  have sL : ∀ ν : Me, Ag scL μ.1 ν.1 → LW T (lwB B) ν.1 := fun ν h => hL.fr (fun a k1 k2 => h a (by unfold isL5 at h5; simp [scL]; omega))
  refine tX11_findCosts_0 (c_findSayings hC hW hL wT (fun μ1 a1 d1 => ?_))
  have b1 : Ag scL μ.1 μ1.1 := a1.mono (by decide)
  refine c_findFees (sC _ b1) hW (sL _ b1) wT (fun μ2 a2 d2 => ?_)
  have b2 : Ag scL μ.1 μ2.1 := b1.tr (a2.mono (by decide))
  have d1' : cSay B T μ2.1 := fun w hw => by rw [a2 83 (by decide)]; exact d1 w hw
  refine vb_for (N := N) (d := 6) (M := mX11_findCosts) (hd := 10) (τ := Me) (fun i _ => [.ref 2, .int (nI i)]) (fun _ ν => ν) (B 1) (fun i ν => Ag scL μ.1 ν.1 ∧ cSay B T ν.1 ∧ cFee B T ν.1 ∧ ∀ v, v < i → 0 < B (60 + 3 * v + 2) → ν.1 85 v = lc (lsN B T v (2 ^ B 0))) ?_ ?_ 0 μ2 (by omega) ⟨b2, d1', d2, fun v hv => by omega⟩
  · intro i ν hi ⟨hA, hS, hF, hE⟩ K'
    have hC1 := sC ν hA
    have g1 : ¬ B 1 ≤ i := by omega
    have hvi := hW.v hi
    refine tX11_findCosts_10 ?_
    simp (disch := omega) only [lit, Nat.add_sub_cancel, Nat.not_lt_zero, ↓m1_mI, nI_add, pk_mul, nx_and, nx_or, and31, sh_r, sh_1, nx_nand, Nat.and_one_is_mod, nI_clamp, nI_leI, nI_ltI, nI_eq, tb_1, vp_t, up2_a, up2_b, up2_c, br_1, br_0, true_and, and_true, mI_ne, mI_ne', mI_lt, mI_le, mI_nle, mI_nlt, pk_sub, mI_sub, hC1.k6, eq_false g1, hC1.k9]
    refine ⟨fun q => K' _ ⟨hA.up (by decide), fun w hw => by simp (disch := omega) only [up2_a]; exact hS w hw, fun w hw => by simp (disch := omega) only [up2_a]; exact hF w hw, fun v hv h0 => ?_⟩, fun q => ?_⟩
    · by_cases ev : v = i
      · subst ev; omega
      · simp (disch := omega) only [up2_b]
        exact hE v (by omega) h0
    · have hA2 : Ag scL μ.1 (((up2 ν.1 85 i mI, ν.2) : Me).1) := hA.up (by decide)
      refine c_findLeast (sC _ hA2) hW (sL _ hA2) wT hi (fun w hw => by simp (disch := omega) only [up2_a]; exact hS w hw) (fun w hw => by simp (disch := omega) only [up2_a]; exact hF w hw) (fun μ3 a3 d3 => ?_)
      have e3 : μ3.1 2 13 = lc (lsN B T i (2 ^ B 0)) := by
        cases hl : lsN B T i (2 ^ B 0) with
        | none => rw [hl] at d3; exact d3.1
        | some y => rw [hl] at d3; exact d3.1
      refine K' _ ⟨(hA2.tr (a3.mono (by decide))).up (by decide), fun w hw => ?_, fun w hw => ?_, fun v hv h0 => ?_⟩
      · simp (disch := omega) only [up2_a]
        rw [a3 83 (by decide)]
        simp (disch := omega) only [up2_a]
        exact hS w hw
      · simp (disch := omega) only [up2_a]
        rw [a3 84 (by decide)]
        simp (disch := omega) only [up2_a]
        exact hF w hw
      · by_cases ev : v = i
        · subst ev; simp only [up2_c]; exact e3
        · simp (disch := omega) only [up2_b]
          rw [a3 85 (by decide)]
          simp (disch := omega) only [up2_b]
          exact hE v (by omega) h0
  · intro ν ⟨hA, _, _, hE⟩
    have hC1 := sC ν hA
    refine tX11_findCosts_10 ?_
    simp (disch := omega) only [lit, Nat.add_sub_cancel, Nat.not_lt_zero, ↓m1_mI, nI_add, pk_mul, nx_and, nx_or, and31, sh_r, sh_1, nx_nand, Nat.and_one_is_mod, nI_clamp, nI_leI, nI_ltI, nI_eq, tb_1, vp_t, up2_a, up2_b, up2_c, br_1, br_0, true_and, and_true, mI_ne, mI_ne', mI_lt, mI_le, mI_nle, mI_nlt, pk_sub, mI_sub, hC1.k6, Nat.le_refl]
    exact K ν hA hE
def drOk (B : Nat → Nat) (x1 x2 x3 : Int32) : Prop := rgI 0 9999 x1 ∧ rgI 1 30 x2 ∧ rgI 0 1 x3 ∧ 0 < chs B (B 1)
def drA (B T : Nat → Nat) (sd n w : Nat) : Int32 := if w = 0 then nI (drN B T sd n).2.1 else nI (drN B T sd n).2.2
theorem c_dr35 {x1 x2 x3 : Int32} {Ψ : Int32 → Me → Prop} (hC : CB B 3 μ.1) (hW : WB B) (h : Ψ (-1) μ) : VB N 7 mX11_draws 35 [.ref 2, .int x1, .int x2, .int x3] [] μ (fun r μ' => ∃ v, r = some (.int v) ∧ Ψ v μ') := tX11_draws_35 (tX11_draws_36 (c_chances hC hW ⟨fun _ => ⟨_, rfl, h⟩, fun e => absurd rfl e⟩))
theorem c_draws {x1 x2 x3 : Int32} {Ψ : Int32 → Me → Prop} (hC : CB B 3 μ.1) (hW : WB B) (hL : LW T (lwB B) μ.1) (wT : WT T) (k0 : ¬ drOk B x1 x2 x3 → Ψ (-1) μ) (k1 : ∀ sd n w, x1 = nI sd → x2 = nI n → x3 = nI w → sd ≤ 9999 → n ≤ 30 → w ≤ 1 → drOk B x1 x2 x3 → ∀ μ' : Me, Ag scL μ.1 μ'.1 → Ψ (drA B T sd n w) μ') : VI N 7 mX11_draws [.ref 2, .int x1, .int x2, .int x3] μ Ψ := by
  have hn := hW.n
  have hcl := chs_le hW (Nat.le_refl _)
  have hp : 2 ^ B 0 ≤ 2 ^ 10 := Nat.pow_le_pow_right (by decide) (by omega)
  refine tX11_draws_0 ?_
  refine ⟨fun e => c_dr35 hC hW (k0 (fun k => rg_lt (lo := 0) (hi := 9999) (by decide) (by decide) e k.1)), fun e1 => ?_⟩
  refine ⟨fun e => c_dr35 hC hW (k0 (fun k => rg_gt (lo := 0) (hi := 9999) (by decide) (by decide) e k.1)), fun e2 => ?_⟩
  refine ⟨fun e => c_dr35 hC hW (k0 (fun k => rg_lt (lo := 1) (hi := 30) (by decide) (by decide) e k.2.1)), fun e3 => ?_⟩
  refine ⟨fun e => c_dr35 hC hW (k0 (fun k => rg_gt (lo := 1) (hi := 30) (by decide) (by decide) e k.2.1)), fun e4 => ?_⟩
  obtain ⟨sd, -, hsd, rfl⟩ := rg_mk (lo := 0) (hi := 9999) (by decide) (by decide) e1 e2
  obtain ⟨n, hn1, hn30, rfl⟩ := rg_mk (lo := 1) (hi := 30) (by decide) (by decide) e3 e4
  have go : ∀ w, x3 = nI w → w ≤ 1 → VB N 7 mX11_draws 31 [.ref 2, .int (nI sd), .int (nI n), .int x3] [] μ (fun r μ' => ∃ v, r = some (.int v) ∧ Ψ v μ') := by
    intro w hx3 hw
    subst hx3
    refine tX11_draws_31 (tX11_draws_36 (c_chances hC hW ?_))
    refine ⟨fun e => absurd e (by decide), fun _ => ?_⟩
    simp (disch := omega) only [lit, Nat.add_sub_cancel, Nat.not_lt_zero, ↓m1_mI, nI_add, pk_mul, nx_and, nx_or, and31, sh_r, sh_1, nx_nand, Nat.and_one_is_mod, nI_clamp, nI_leI, nI_ltI, nI_eq, tb_1, vp_t, up2_a, up2_b, up2_c, br_1, br_0, true_and, and_true, mI_ne, mI_ne', mI_lt, mI_le, mI_nle, mI_nlt, pk_sub, mI_sub]
    refine ⟨fun q => ?_, fun q => ⟨_, rfl, k0 (fun k => q k.2.2.2)⟩⟩
    have hok : drOk B (nI sd) (nI n) (nI w) := ⟨⟨sd, by omega, hsd, rfl⟩, ⟨n, hn1, hn30, rfl⟩, ⟨w, by omega, hw, rfl⟩, q⟩
    refine c_findCosts hC hW hL wT (fun μ4 a4 d4 => ?_)
    have hC4 : CB B 3 μ4.1 := hC.fr (fun a k1 k2 => a4 a (by simp [scL]; omega))
    refine vb_up (fun i => [.ref 2, .null, .int (nI n), .int (nI w), .null, .int (nI (chs B (B 1))), .int (nI (drN B T sd i).1), .int (nI (drN B T sd i).2.1), .int (nI (drN B T sd i).2.2), .int (nI i)]) (fun _ => μ4) n (fun i hi K => ?_) ?_
    · have g1 : ¬ n ≤ i := by omega
      have hb := drN_b (sd := sd) hW wT hsd i
      have hne : ¬ chs B (B 1) = 0 := by omega
      have hl := Nat.mod_lt (drN B T sd i).1 q
      have e1 : (drN B T sd i).1 - (drN B T sd i).1 / chs B (B 1) * chs B (B 1) = (drN B T sd i).1 % chs B (B 1) := by
        have := Nat.div_add_mod (drN B T sd i).1 (chs B (B 1))
        have h2 := Nat.mul_comm (chs B (B 1)) ((drN B T sd i).1 / chs B (B 1))
        omega
      have e1' : (drN B T sd i).1 / chs B (B 1) * chs B (B 1) ≤ (drN B T sd i).1 := Nat.div_mul_le_self _ _
      have e2 : (drN B T sd i).1 * 199 + 47 - ((drN B T sd i).1 * 199 + 47) / 30113 * 30113 = ((drN B T sd i).1 * 199 + 47) % 30113 := by omega
      have e2' : ((drN B T sd i).1 * 199 + 47) / 30113 * 30113 ≤ (drN B T sd i).1 * 199 + 47 := Nat.div_mul_le_self _ _
      have hsp := drw_sp hl
      have hch : 0 < B (60 + 3 * drw B ((drN B T sd i).1 % chs B (B 1)) + 2) := by
        have := chs_s B (drw B ((drN B T sd i).1 % chs B (B 1)))
        omega
      have hcost := d4 _ hsp.1 hch
      have hokl := lsN_ok (v := drw B ((drN B T sd i).1 % chs B (B 1))) hW wT (2 ^ B 0) (by omega)
      have es : drN B T sd (i + 1) = match lsN B T (drw B ((drN B T sd i).1 % chs B (B 1))) (2 ^ B 0) with
        | none => (((drN B T sd i).1 * 199 + 47) % 30113, (drN B T sd i).2.1, (drN B T sd i).2.2)
        | some y => (((drN B T sd i).1 * 199 + 47) % 30113, (drN B T sd i).2.1 + 1, (drN B T sd i).2.2 + y.1) := rfl
      rw [es] at K
      refine tX11_draws_84 ?_
      simp (disch := omega) only [lit, Nat.add_sub_cancel, Nat.not_lt_zero, ↓m1_mI, nI_add, pk_mul, nx_and, nx_or, and31, sh_r, sh_1, nx_nand, Nat.and_one_is_mod, nI_clamp, nI_leI, nI_ltI, nI_eq, tb_1, vp_t, up2_a, up2_b, up2_c, br_1, br_0, true_and, and_true, mI_ne, mI_ne', mI_lt, mI_le, mI_nle, mI_nlt, pk_sub, mI_sub, eq_false g1, pk_div, e1, e2, eq_false hne, not_false_eq_true]
      refine c_drawn hC4 hW hl ?_
      simp (disch := omega) only [lit, Nat.add_sub_cancel, Nat.not_lt_zero, ↓m1_mI, nI_add, pk_mul, nx_and, nx_or, and31, sh_r, sh_1, nx_nand, Nat.and_one_is_mod, nI_clamp, nI_leI, nI_ltI, nI_eq, tb_1, vp_t, up2_a, up2_b, up2_c, br_1, br_0, true_and, and_true, mI_ne, mI_ne', mI_lt, mI_le, mI_nle, mI_nlt, pk_sub, mI_sub, hcost]
      rcases lc_ne hokl with ⟨q1, q2⟩ | ⟨y, q1, q2, q3⟩
      · rw [q1] at K
        rw [q2]
        exact ⟨fun _ => K, fun z => absurd rfl z⟩
      · rw [q1] at K
        simp (disch := omega) only [lit, Nat.add_sub_cancel, Nat.not_lt_zero, ↓m1_mI, nI_add, pk_mul, nx_and, nx_or, and31, sh_r, sh_1, nx_nand, Nat.and_one_is_mod, nI_clamp, nI_leI, nI_ltI, nI_eq, tb_1, vp_t, up2_a, up2_b, up2_c, br_1, br_0, true_and, and_true, mI_ne, mI_ne', mI_lt, mI_le, mI_nle, mI_nlt, pk_sub, mI_sub, q2]
        exact K
    · refine tX11_draws_84 ?_
      simp (disch := omega) only [lit, Nat.add_sub_cancel, Nat.not_lt_zero, ↓m1_mI, nI_add, pk_mul, nx_and, nx_or, and31, sh_r, sh_1, nx_nand, Nat.and_one_is_mod, nI_clamp, nI_leI, nI_ltI, nI_eq, tb_1, vp_t, up2_a, up2_b, up2_c, br_1, br_0, true_and, and_true, mI_ne, mI_ne', mI_lt, mI_le, mI_nle, mI_nlt, pk_sub, mI_sub, Nat.le_refl]
      have := k1 sd n w rfl rfl rfl hsd hn30 hw hok μ4 a4
      unfold drA at this
      refine ⟨fun z => ⟨_, rfl, ?_⟩, fun z => ⟨_, rfl, ?_⟩⟩
      · rw [if_pos z] at this; exact this
      · rw [if_neg z] at this; exact this
  refine ⟨fun e => go 0 e (by omega), fun e5 => ⟨fun e => go 1 e (by omega), fun e6 => c_dr35 hC hW (k0 (fun k => ?_))⟩⟩
  obtain ⟨w, _, hw, rfl⟩ := k.2.2.1
  have : w = 0 ∨ w = 1 := by omega
  rcases this with rfl | rfl
  · exact e5 rfl
  · exact e6 rfl
/-! the reference -/
theorem r_draws {x1 x2 x3 : Int32} {Ψ : Int32 → Me → Prop} (hB : rowB B (μ.1 131)) (hW : WB B) (hT : RuL B T μ.1) (wT : WT T) (k0 : ¬ drOk B x1 x2 x3 → Ψ (-1) μ) (k1 : ∀ sd n w, x1 = nI sd → x2 = nI n → x3 = nI w → sd ≤ 9999 → n ≤ 30 → w ≤ 1 → drOk B x1 x2 x3 → ∀ μ' : Me, Ag scR μ.1 μ'.1 → Ψ (drA B T sd n w) μ') : VI N 8 mX12_draws [.ref 130, .int x1, .int x2, .int x3] μ Ψ := by
  have hn := hW.n
  have rB := hB.1
  have hcl := chs_le hW (Nat.le_refl _)
  have hp : 2 ^ B 0 ≤ 2 ^ 10 := Nat.pow_le_pow_right (by decide) (by omega)
  refine tX12_draws_0 ?_
  refine vb_up (fun i => [.ref 130, .int x1, .int x2, .int x3, .int (nI (chs B i)), .int (nI i)]) (fun _ => μ) (B 1) (fun i hi K => ?_) ?_
  · have g1 : ¬ B 1 ≤ i := by omega
    refine tX12_draws_6 ?_
    simp (disch := omega) only [lit, Nat.add_sub_cancel, Nat.not_lt_zero, ↓m1_mI, nI_add, pk_mul, nx_and, nx_or, and31, sh_r, sh_1, nx_nand, Nat.and_one_is_mod, nI_clamp, nI_leI, nI_ltI, nI_eq, tb_1, vp_t, up2_a, up2_b, up2_c, br_1, br_0, true_and, and_true, mI_ne, mI_ne', mI_lt, mI_le, mI_nle, mI_nlt, pk_sub, mI_sub, rB, eq_false g1]
    exact K
  · refine tX12_draws_6 ?_
    simp (disch := omega) only [lit, Nat.add_sub_cancel, Nat.not_lt_zero, ↓m1_mI, nI_add, pk_mul, nx_and, nx_or, and31, sh_r, sh_1, nx_nand, Nat.and_one_is_mod, nI_clamp, nI_leI, nI_ltI, nI_eq, tb_1, vp_t, up2_a, up2_b, up2_c, br_1, br_0, true_and, and_true, mI_ne, mI_ne', mI_lt, mI_le, mI_nle, mI_nlt, pk_sub, mI_sub, rB, Nat.le_refl]
    refine vi_b (fun Ψ => r_in 0 9999 (by decide) (by decide)) (fun g1 => ?_) (fun g => ⟨_, rfl, k0 (fun k => g k.1)⟩)
    refine vi_b (fun Ψ => r_in 1 30 (by decide) (by decide)) (fun g2 => ?_) (fun g => ⟨_, rfl, k0 (fun k => g k.2.1)⟩)
    refine vi_b (fun Ψ => r_in 0 1 (by decide) (by decide)) (fun g3 => ?_) (fun g => ⟨_, rfl, k0 (fun k => g k.2.2.1)⟩)
    refine ⟨fun q => ⟨_, rfl, k0 (fun k => by have := k.2.2.2; omega)⟩, fun q => ?_⟩
    have q0 : 0 < chs B (B 1) := by omega
    have hok : drOk B x1 x2 x3 := ⟨g1, g2, g3, q0⟩
    obtain ⟨sd, -, hsd, rfl⟩ := g1
    obtain ⟨n, hn1, hn30, rfl⟩ := g2
    obtain ⟨w, -, hw, rfl⟩ := g3
    refine vb_for (N := N) (d := 8) (M := mX12_draws) (hd := 82) (τ := Me) (fun i _ => [.ref 130, .int (nI sd), .int (nI n), .int (nI w), .int (nI (chs B (B 1))), .int (nI i)]) (fun _ ν => ν) (B 1) (fun i ν => Ag scR μ.1 ν.1 ∧ ∀ v, v < i → ν.1 147 v = lc (lsN B T v (2 ^ B 0))) ?_ ?_ 0 μ (by omega) ⟨Ag.rf, fun v hv => by omega⟩
    · intro i ν hi ⟨hA, hE⟩ K'
      have hB1 : rowB B (ν.1 131) := by rw [hA 131 (by decide)]; exact hB
      have rB1 := hB1.1
      have g1 : ¬ B 1 ≤ i := by omega
      refine tX12_draws_82 ?_
      simp (disch := omega) only [lit, Nat.add_sub_cancel, Nat.not_lt_zero, ↓m1_mI, nI_add, pk_mul, nx_and, nx_or, and31, sh_r, sh_1, nx_nand, Nat.and_one_is_mod, nI_clamp, nI_leI, nI_ltI, nI_eq, tb_1, vp_t, up2_a, up2_b, up2_c, br_1, br_0, true_and, and_true, mI_ne, mI_ne', mI_lt, mI_le, mI_nle, mI_nlt, pk_sub, mI_sub, rB1, eq_false g1]
      refine r_findLeast hB1 hW (hT.fr (hA 133 (by decide))) wT hi (fun μ2 a2 d2 => ?_)
      have e3 : μ2.1 143 0 = lc (lsN B T i (2 ^ B 0)) := by
        cases hl : lsN B T i (2 ^ B 0) with
        | none => rw [hl] at d2; exact d2
        | some y => rw [hl] at d2; exact d2.1
      refine K' _ ⟨(hA.tr (a2.mono (by decide))).up (by decide), fun v hv => ?_⟩
      by_cases ev : v = i
      · subst ev; simp only [up2_c]; exact e3
      · simp (disch := omega) only [up2_b]
        rw [a2 147 (by decide)]
        exact hE v (by omega)
    · intro ν ⟨hA, hE⟩
      have hB1 : rowB B (ν.1 131) := by rw [hA 131 (by decide)]; exact hB
      have rB1 := hB1.1
      refine tX12_draws_82 ?_
      simp (disch := omega) only [lit, Nat.add_sub_cancel, Nat.not_lt_zero, ↓m1_mI, nI_add, pk_mul, nx_and, nx_or, and31, sh_r, sh_1, nx_nand, Nat.and_one_is_mod, nI_clamp, nI_leI, nI_ltI, nI_eq, tb_1, vp_t, up2_a, up2_b, up2_c, br_1, br_0, true_and, and_true, mI_ne, mI_ne', mI_lt, mI_le, mI_nle, mI_nlt, pk_sub, mI_sub, rB1, Nat.le_refl]
      refine vb_up (fun i => [.ref 130, .null, .int (nI n), .int (nI w), .int (nI (chs B (B 1))), .int (nI (drN B T sd i).1), .int (nI (drN B T sd i).2.1), .int (nI (drN B T sd i).2.2), .int (nI i)]) (fun _ => ν) n (fun i hi K => ?_) ?_
      · have g1 : ¬ n ≤ i := by omega
        have hb := drN_b (sd := sd) hW wT hsd i
        have hl := Nat.mod_lt (drN B T sd i).1 q0
        have e1 : (drN B T sd i).1 - (drN B T sd i).1 / chs B (B 1) * chs B (B 1) = (drN B T sd i).1 % chs B (B 1) := by
          have := Nat.div_add_mod (drN B T sd i).1 (chs B (B 1))
          have h2 := Nat.mul_comm (chs B (B 1)) ((drN B T sd i).1 / chs B (B 1))
          omega
        have e1' : (drN B T sd i).1 / chs B (B 1) * chs B (B 1) ≤ (drN B T sd i).1 := Nat.div_mul_le_self _ _
        have e2 : (drN B T sd i).1 * 199 + 47 - ((drN B T sd i).1 * 199 + 47) / 30113 * 30113 = ((drN B T sd i).1 * 199 + 47) % 30113 := by omega
        have e2' : ((drN B T sd i).1 * 199 + 47) / 30113 * 30113 ≤ (drN B T sd i).1 * 199 + 47 := Nat.div_mul_le_self _ _
        have hsp := drw_sp hl
        have hcost := hE _ hsp.1
        have hokl := lsN_ok (v := drw B ((drN B T sd i).1 % chs B (B 1))) hW wT (2 ^ B 0) (by omega)
        have es : drN B T sd (i + 1) = match lsN B T (drw B ((drN B T sd i).1 % chs B (B 1))) (2 ^ B 0) with
          | none => (((drN B T sd i).1 * 199 + 47) % 30113, (drN B T sd i).2.1, (drN B T sd i).2.2)
          | some y => (((drN B T sd i).1 * 199 + 47) % 30113, (drN B T sd i).2.1 + 1, (drN B T sd i).2.2 + y.1) := rfl
        rw [es] at K
        refine tX12_draws_136 ?_
        simp (disch := omega) only [lit, Nat.add_sub_cancel, Nat.not_lt_zero, ↓m1_mI, nI_add, pk_mul, nx_and, nx_or, and31, sh_r, sh_1, nx_nand, Nat.and_one_is_mod, nI_clamp, nI_leI, nI_ltI, nI_eq, tb_1, vp_t, up2_a, up2_b, up2_c, br_1, br_0, true_and, and_true, mI_ne, mI_ne', mI_lt, mI_le, mI_nle, mI_nlt, pk_sub, mI_sub, eq_false g1, pk_div, e1, eq_false q, not_false_eq_true]
        have Z := vb_up (N := N) (d := 8) (M := mX12_draws) (hd := 152) (Ψ := fun r μ' => ∃ v, r = some (.int v) ∧ Ψ v μ') (fun j => [.ref 130, .null, .int (nI n), .int (nI w), .int (nI (chs B (B 1))), .int (nI (drN B T sd i).1), .int (nI (drN B T sd i).2.1), .int (nI (drN B T sd i).2.2), .int (nI i), .int (nI ((drN B T sd i).1 % chs B (B 1) - chs B j)), .int (nI j)]) (fun _ => ν) (drw B ((drN B T sd i).1 % chs B (B 1))) (fun j hj Kj => ?_) ?_
        · exact Z
        · have hlt := drw_lt hl hj
          have hs := chs_s B j
          have hvi := hW.v (show j < B 1 by omega)
          have g2 : ¬ (drN B T sd i).1 % chs B (B 1) - chs B j < B (60 + 3 * j + 2) := by omega
          have e4 : (drN B T sd i).1 % chs B (B 1) - chs B j - B (60 + 3 * j + 2) = (drN B T sd i).1 % chs B (B 1) - chs B (j + 1) := by omega
          refine tX12_draws_152 ?_
          simp (disch := omega) only [lit, Nat.add_sub_cancel, Nat.not_lt_zero, ↓m1_mI, nI_add, pk_mul, nx_and, nx_or, and31, sh_r, sh_1, nx_nand, Nat.and_one_is_mod, nI_clamp, nI_leI, nI_ltI, nI_eq, tb_1, vp_t, up2_a, up2_b, up2_c, br_1, br_0, true_and, and_true, mI_ne, mI_ne', mI_lt, mI_le, mI_nle, mI_nlt, pk_sub, mI_sub, rB1, eq_false g2, e4]
          exact Kj
        · have hs := chs_s B (drw B ((drN B T sd i).1 % chs B (B 1)))
          have hvi := hW.v hsp.1
          have g2 : (drN B T sd i).1 % chs B (B 1) - chs B (drw B ((drN B T sd i).1 % chs B (B 1))) < B (60 + 3 * drw B ((drN B T sd i).1 % chs B (B 1)) + 2) := by omega
          refine tX12_draws_152 ?_
          simp (disch := omega) only [lit, Nat.add_sub_cancel, Nat.not_lt_zero, ↓m1_mI, nI_add, pk_mul, nx_and, nx_or, and31, sh_r, sh_1, nx_nand, Nat.and_one_is_mod, nI_clamp, nI_leI, nI_ltI, nI_eq, tb_1, vp_t, up2_a, up2_b, up2_c, br_1, br_0, true_and, and_true, mI_ne, mI_ne', mI_lt, mI_le, mI_nle, mI_nlt, pk_sub, mI_sub, rB1, eq_true g2, hcost, pk_div, e2]
          rcases lc_ne hokl with ⟨q1, q2⟩ | ⟨y, q1, q2, q3⟩
          · rw [q1] at K
            rw [q2]
            exact ⟨fun z => absurd z (by decide), fun _ => K⟩
          · rw [q1] at K
            simp (disch := omega) only [lit, Nat.add_sub_cancel, Nat.not_lt_zero, ↓m1_mI, nI_add, pk_mul, nx_and, nx_or, and31, sh_r, sh_1, nx_nand, Nat.and_one_is_mod, nI_clamp, nI_leI, nI_ltI, nI_eq, tb_1, vp_t, up2_a, up2_b, up2_c, br_1, br_0, true_and, and_true, mI_ne, mI_ne', mI_lt, mI_le, mI_nle, mI_nlt, pk_sub, mI_sub, q2, Nat.zero_le]
            exact K
      · refine tX12_draws_136 ?_
        simp (disch := omega) only [lit, Nat.add_sub_cancel, Nat.not_lt_zero, ↓m1_mI, nI_add, pk_mul, nx_and, nx_or, and31, sh_r, sh_1, nx_nand, Nat.and_one_is_mod, nI_clamp, nI_leI, nI_ltI, nI_eq, tb_1, vp_t, up2_a, up2_b, up2_c, br_1, br_0, true_and, and_true, mI_ne, mI_ne', mI_lt, mI_le, mI_nle, mI_nlt, pk_sub, mI_sub, Nat.le_refl]
        have := k1 sd n w rfl rfl rfl hsd hn30 hw hok ν hA
        unfold drA at this
        refine ⟨fun z => ⟨_, rfl, ?_⟩, fun z => ⟨_, rfl, ?_⟩⟩
        · rw [if_pos z] at this; exact this
        · rw [if_neg z] at this; exact this
theorem k_draws {x1 x2 x3 : Int32} {Φ : Int32 → Int32 → Me → Prop} (h : IV μ.1) (K : ∀ v (μ' : Me), IV μ'.1 → μ'.1 0 = μ.1 0 → Φ v v μ') : VI N 7 mX11_draws [.ref 2, .int x1, .int x2, .int x3] μ (fun v μ1 => μ1.1 0 = μ.1 0 ∧ VI N 8 mX12_draws [.ref 130, .int x1, .int x2, .int x3] μ1 (fun v' μ2 => Φ v v' μ2)) := by
  have h' := h
  obtain ⟨B, B', R, tp, tn, ft, fp, hw, hc, hr⟩ := h
  refine c_draws hc.1 hw.1 (hc.ruL hw) hw.ruT (fun g => ?_) (fun sd n w e1 e2 e3 l1 l2 l3 hok μ2 b2 => ?_)
  · refine And.intro (by first | rfl | exact hA 0 (by decide) | exact b3 0 (by decide) | exact b2 0 (by decide) | exact a1 0 (by decide) | exact a1 0 (by omega) | exact a3 0 (by decide) (by decide) | simp (disch := omega) only [up2_ne]) ?_
    exact r_draws hr.1 hw.1 hr.ruT hw.ruT (fun _ => K _ _ h' rfl) (fun _ _ _ _ _ _ _ _ _ q => absurd q g)
  · have hB2 : rowB B (μ2.1 131) := by rw [b2 131 (by decide)]; exact hr.1
    try refine And.intro (by first | rfl | exact hA 0 (by decide) | exact b3 0 (by decide) | exact b2 0 (by decide) | exact a1 0 (by decide) | exact a1 0 (by omega) | exact a3 0 (by decide) (by decide) | simp (disch := omega) only [up2_ne]) ?_
    refine r_draws hB2 hw.1 (hr.ruT.fr (b2 133 (by decide))) hw.ruT (fun q => absurd hok q) (fun sd' n' w' f1 f2 f3 m1 m2 m3 _ ν2 c2 => ?_)
    obtain rfl := nI_inj (e1.symm.trans f1) (by omega) (by omega)
    obtain rfl := nI_inj (e2.symm.trans f2) (by omega) (by omega)
    obtain rfl := nI_inj (e3.symm.trans f3) (by omega) (by omega)
    exact K _ _ (IV.same hw hc hr (b2.mono (by decide)) c2) (by rw [c2 0 (by decide), b2 0 (by decide)])
end DR
