/-! least: the pure side, and the class -/
section LE
variable {N : Nat} {μ : Me} {B B' R T tp : Nat → Nat} {tn : Nat} {ft fp : Int32} {v : Nat}
def lessL (L : Option (Nat × Nat × Nat)) (c : Nat) : Bool := match L with
  | none => true
  | some x => decide (c < x.1)
def tryP (B T : Nat → Nat) (v : Nat) (L : Option (Nat × Nat × Nat)) (st c b : Nat) : Option (Nat × Nat × Nat) := if lessL L c = true ∧ fB B T (eS B T st (B 0)) b v = true then some (c, st, b) else L
def rlN (B T : Nat → Nat) (v : Nat) (L : Option (Nat × Nat × Nat)) (st c n : Nat) : Option (Nat × Nat × Nat) := match n with
  | 0 => L
  | n + 1 => if isR T n = true then tryP B T v (rlN B T v L st c n) st (c + fl T n 3) n else rlN B T v L st c n
def fsN (B T : Nat → Nat) (st n : Nat) : Nat := sumf n (fun w => if st.testBit w = true then feeP B T w (B 5) else 0)
def setP (B T : Nat → Nat) (v : Nat) (L : Option (Nat × Nat × Nat)) (st : Nat) : Option (Nat × Nat × Nat) := rlN B T v (tryP B T v L st (fsN B T st (B 0)) 99) st (fsN B T st (B 0)) (T 0)
def lsN (B T : Nat → Nat) (v n : Nat) : Option (Nat × Nat × Nat) := match n with
  | 0 => none
  | n + 1 => if us B n = true then setP B T v (lsN B T v n) n else lsN B T v n
def okL (L : Option (Nat × Nat × Nat)) : Prop := match L with
  | none => True
  | some x => x.1 < 1000000 ∧ x.2.1 < 2048 ∧ (x.2.2 < 16 ∨ x.2.2 = 99)
theorem fsN_le (hW : WB B) {st n : Nat} (hn : n ≤ B 0) : fsN B T st n ≤ 99990 := by
  have h0 := hW.n
  have : fsN B T st n ≤ 9999 * n := sumf_le (fun i hi => by
    split
    · exact feeP_le hW (by omega)
    · omega)
  omega
theorem tryP_ok {L : Option (Nat × Nat × Nat)} {st c b : Nat} (h : okL L) (hc : c < 1000000) (hs : st < 2048) (hb : b < 16 ∨ b = 99) : okL (tryP B T v L st c b) := by
  unfold tryP
  split
  · exact ⟨hc, hs, hb⟩
  · exact h
theorem rlN_ok (wT : WT T) {L : Option (Nat × Nat × Nat)} {st c : Nat} (h : okL L) (hc : c ≤ 99990) (hs : st < 2048) : ∀ n, n ≤ T 0 → okL (rlN B T v L st c n) := by
  have h16 := wT.1.2
  intro n
  induction n with
  | zero => intro _; exact h
  | succ n ih =>
    intro hn
    show okL (if isR T n = true then tryP B T v (rlN B T v L st c n) st (c + fl T n 3) n else rlN B T v L st c n)
    split
    · rename_i hr
      have := (wT.2.1 n (by omega) (isR_iff.mp hr)).2.2.2.1
      exact tryP_ok (ih (by omega)) (by omega) hs (Or.inl (by omega))
    · exact ih (by omega)
theorem setP_ok (hW : WB B) (wT : WT T) {L : Option (Nat × Nat × Nat)} {st : Nat} (h : okL L) (hs : st < 2048) : okL (setP B T v L st) := by
  have := fsN_le (T := T) (st := st) hW (Nat.le_refl _)
  exact rlN_ok wT (tryP_ok h (by omega) hs (Or.inr rfl)) this hs (T 0) (Nat.le_refl _)
theorem lsN_ok (hW : WB B) (wT : WT T) : ∀ n, n ≤ 2048 → okL (lsN B T v n) := by
  intro n
  induction n with
  | zero => intro _; trivial
  | succ n ih =>
    intro hn
    show okL (if us B n = true then setP B T v (lsN B T v n) n else lsN B T v n)
    split
    · exact setP_ok hW wT (ih (by omega)) (by omega)
    · exact ih (by omega)
theorem less_mono {L : Option (Nat × Nat × Nat)} {c d : Nat} (h : ¬ lessL L c = true) (hd : c ≤ d) : ¬ lessL L d = true := by
  unfold lessL at *
  cases L with
  | none => exact absurd rfl h
  | some x =>
    simp only [decide_eq_true_iff] at *
    omega
theorem rlN_same {L : Option (Nat × Nat × Nat)} {st c : Nat} (h : ¬ lessL L c = true) : ∀ n, rlN B T v L st c n = L := by
  intro n
  induction n with
  | zero => rfl
  | succ n ih =>
    show (if isR T n = true then tryP B T v (rlN B T v L st c n) st (c + fl T n 3) n else rlN B T v L st c n) = L
    rw [ih]
    split
    · unfold tryP
      rw [if_neg (fun q => less_mono h (Nat.le_add_right _ _) q.1)]
    · rfl
theorem setP_a {L : Option (Nat × Nat × Nat)} {st : Nat} (h : ¬ lessL L (fsN B T st (B 0)) = true) : setP B T v L st = L := by
  unfold setP
  have : tryP B T v L st (fsN B T st (B 0)) 99 = L := by unfold tryP; rw [if_neg (fun q => h q.1)]
  rw [this]
  exact rlN_same h _
theorem setP_b {L : Option (Nat × Nat × Nat)} {st : Nat} (h : lessL L (fsN B T st (B 0)) = true) (hf : fB B T (eS B T st (B 0)) 99 v = true) : setP B T v L st = some (fsN B T st (B 0), st, 99) := by
  unfold setP
  have : tryP B T v L st (fsN B T st (B 0)) 99 = some (fsN B T st (B 0), st, 99) := by unfold tryP; rw [if_pos ⟨h, hf⟩]
  rw [this]
  apply rlN_same
  unfold lessL
  simp
theorem setP_c {L : Option (Nat × Nat × Nat)} {st : Nat} (hf : ¬ fB B T (eS B T st (B 0)) 99 v = true) : setP B T v L st = rlN B T v L st (fsN B T st (B 0)) (T 0) := by
  unfold setP
  have : tryP B T v L st (fsN B T st (B 0)) 99 = L := by unfold tryP; rw [if_neg (fun q => hf q.2)]
  rw [this]
/-! the class -/
def cL (L : Option (Nat × Nat × Nat)) (r : Nat → Int32) : Prop := match L with
  | none => r 13 = mI ∧ r 14 = mI ∧ r 15 = mI
  | some x => r 13 = nI x.1 ∧ r 14 = nI x.2.1 ∧ r 15 = bI x.2.2
def cFee (B T : Nat → Nat) (I : Nat → Nat → Int32) : Prop := ∀ w, w < B 0 → I 84 w = nI (feeP B T w (B 5))
def scF : List Nat := [82, 50, 96, 107, 118, 129, 84]
theorem c_findFees {Ψ : Me → Prop} (hC : CB B 3 μ.1) (hW : WB B) (hL : LW T (lwB B) μ.1) (wT : WT T) (K : ∀ μ' : Me, Ag scF μ.1 μ'.1 → cFee B T μ'.1 → Ψ μ') : VU N 5 mX11_findFees [.ref 2] μ Ψ := by
  have hn := hW.n
  have h5 := lwB_5 hW
  refine tX11_findFees_0 ?_
  refine vb_for (N := N) (d := 5) (M := mX11_findFees) (hd := 2) (τ := Me) (fun i _ => [.ref 2, .int (nI i)]) (fun _ ν => ν) (B 0) (fun i ν => Ag scF μ.1 ν.1 ∧ ∀ w, w < i → ν.1 84 w = nI (feeP B T w (B 5))) ?_ ?_ 0 μ (by omega) ⟨Ag.rf, fun w hw => absurd hw (Nat.not_lt_zero _)⟩
  · intro i ν hi ⟨hA, hS⟩ K'
    have hC1 : CB B 3 ν.1 := hC.fr (fun a k1 k2 => hA a (by simp [scF]; omega))
    have hL1 : LW T (lwB B) ν.1 := hL.fr (fun a k1 k2 => hA a (by unfold isL5 at h5; simp [scF]; omega))
    have g1 : ¬ B 0 ≤ i := by omega
    refine tX11_findFees_2 ?_
    simp (disch := omega) only [lit, Nat.add_sub_cancel, Nat.not_lt_zero, ↓m1_mI, nI_add, pk_mul, nx_and, nx_or, and31, sh_r, sh_1, nx_nand, Nat.and_one_is_mod, nI_clamp, nI_leI, nI_ltI, nI_eq, tb_1, vp_t, up2_a, up2_b, up2_c, br_1, br_0, true_and, and_true, mI_ne, mI_ne', mI_lt, mI_le, mI_nle, mI_nlt, pk_sub, mI_sub, hC1.k0, eq_false g1, hC1.k10]
    refine c_feeNow hC1 hW hL1 wT hi (by omega) (fun μ2 a2 => ?_)
    refine K' _ ⟨(hA.tr (a2.mono (by decide))).up (by decide), fun w hw => ?_⟩
    by_cases ew : w = i
    · subst ew; simp only [up2_c]
    · simp (disch := omega) only [up2_b]
      rw [a2 84 (by decide)]
      exact hS w (by omega)
  · intro ν ⟨hA, hS⟩
    have hC1 : CB B 3 ν.1 := hC.fr (fun a k1 k2 => hA a (by simp [scF]; omega))
    refine tX11_findFees_2 ?_
    simp (disch := omega) only [lit, Nat.add_sub_cancel, Nat.not_lt_zero, ↓m1_mI, nI_add, pk_mul, nx_and, nx_or, and31, sh_r, sh_1, nx_nand, Nat.and_one_is_mod, nI_clamp, nI_leI, nI_ltI, nI_eq, tb_1, vp_t, up2_a, up2_b, up2_c, br_1, br_0, true_and, and_true, mI_ne, mI_ne', mI_lt, mI_le, mI_nle, mI_nlt, pk_sub, mI_sub, hC1.k0, Nat.le_refl]
    exact K ν hA hS
theorem c_feesOf {st : Nat} {Ψ : Int32 → Me → Prop} (hC : CB B 3 μ.1) (hW : WB B) (hF : cFee B T μ.1) (hs : st < 2 ^ 31) (h : Ψ (nI (fsN B T st (B 0))) μ) : VI N 1 mX11_feesOf [.ref 2, .int (nI st)] μ Ψ := by
  have hn := hW.n
  refine tX11_feesOf_0 ?_
  refine vb_up (fun i => [.ref 2, .int (nI st), .int (nI (fsN B T st i)), .int (nI i)]) (fun _ => μ) (B 0) (fun i hi K => ?_) ?_
  · have g1 : ¬ B 0 ≤ i := by omega
    have hf := hF i hi
    have hfe := feeP_le (T := T) (mn := B 5) hW hi
    have hle := fsN_le (T := T) (st := st) hW (show i ≤ B 0 by omega)
    have es : fsN B T st (i + 1) = fsN B T st i + (if st.testBit i = true then feeP B T i (B 5) else 0) := rfl
    rw [es] at K
    refine tX11_feesOf_4 ?_
    simp (disch := omega) only [lit, Nat.add_sub_cancel, Nat.not_lt_zero, ↓m1_mI, nI_add, pk_mul, nx_and, nx_or, and31, sh_r, sh_1, nx_nand, Nat.and_one_is_mod, nI_clamp, nI_leI, nI_ltI, nI_eq, tb_1, vp_t, up2_a, up2_b, up2_c, br_1, br_0, true_and, and_true, mI_ne, mI_ne', mI_lt, mI_le, mI_nle, mI_nlt, pk_sub, mI_sub, hC.k0, eq_false g1, hf]
    refine ⟨fun z => ?_, fun z => ?_⟩
    · rw [if_pos z] at K; exact K
    · rw [if_neg z] at K; exact K
  · refine tX11_feesOf_4 ?_
    simp (disch := omega) only [lit, Nat.add_sub_cancel, Nat.not_lt_zero, ↓m1_mI, nI_add, pk_mul, nx_and, nx_or, and31, sh_r, sh_1, nx_nand, Nat.and_one_is_mod, nI_clamp, nI_leI, nI_ltI, nI_eq, tb_1, vp_t, up2_a, up2_b, up2_c, br_1, br_0, true_and, and_true, mI_ne, mI_ne', mI_lt, mI_le, mI_nle, mI_nlt, pk_sub, mI_sub, hC.k0, Nat.le_refl]
    exact ⟨_, rfl, h⟩
theorem c_isLess {L : Option (Nat × Nat × Nat)} {c : Nat} {Ψ : Int32 → Me → Prop} (hL : cL L (μ.1 2)) (ho : okL L) (hc : c < 2 ^ 31) (k1 : lessL L c = true → Ψ 1 μ) (k0 : ¬ lessL L c = true → Ψ 0 μ) : VI N 1 mX11_isLess [.ref 2, .int (nI c)] μ Ψ := by
  refine tX11_isLess_0 ?_
  cases L with
  | none =>
    rw [hL.1]
    exact ⟨fun _ => ⟨_, rfl, k1 rfl⟩, fun q => absurd rfl q⟩
  | some x =>
    have h1 := ho.1
    have k1' : c < x.1 → Ψ 1 μ := fun q => k1 (decide_eq_true q)
    have k0' : ¬ c < x.1 → Ψ 0 μ := fun q => k0 (fun z => q (of_decide_eq_true z))
    simp (disch := omega) only [lit, Nat.add_sub_cancel, Nat.not_lt_zero, ↓m1_mI, nI_add, pk_mul, nx_and, nx_or, and31, sh_r, sh_1, nx_nand, Nat.and_one_is_mod, nI_clamp, nI_leI, nI_ltI, nI_eq, tb_1, vp_t, up2_a, up2_b, up2_c, br_1, br_0, true_and, and_true, mI_ne, mI_ne', mI_lt, mI_le, mI_nle, mI_nlt, pk_sub, mI_sub, hL.1]
    exact ⟨fun q => ⟨_, rfl, k0' (by omega)⟩, fun q => ⟨_, rfl, k1' (by omega)⟩⟩
theorem c_keep {c st b : Nat} {Ψ : Me → Prop} (K : ∀ μ' : Me, Ag [2] μ.1 μ'.1 → cL (some (c, st, b)) (μ'.1 2) → Ψ μ') : VU N 1 mX11_keepLeast [.ref 2, .int (nI c), .int (nI st), .int (bI b)] μ Ψ := by
  refine tX11_keepLeast_0 ⟨rfl, K _ (((Ag.rf.up (by decide)).up (by decide)).up (by decide)) ⟨?_, ?_, ?_⟩⟩
  · simp (disch := omega) only [up2_b, up2_c]
  · simp (disch := omega) only [up2_b, up2_c]
  · simp only [up2_c]
theorem c_isRl {r k : Nat} {Ψ : Int32 → Me → Prop} (hk : k < 16) (h : Ψ 1 μ) : VI N 1 mX5_isRule [.ref r, .int (nI k)] μ Ψ := by
  have g1 : ¬ 16 ≤ k := by omega
  refine vb_wk (ls' := [.null, .int (nI k)]) ⟨rfl, trivial⟩ (tX5_isRule_0 ?_)
  simp (disch := omega) only [lit, Nat.add_sub_cancel, Nat.not_lt_zero, ↓m1_mI, nI_add, pk_mul, nx_and, nx_or, and31, sh_r, sh_1, nx_nand, Nat.and_one_is_mod, nI_clamp, nI_leI, nI_ltI, nI_eq, tb_1, vp_t, up2_a, up2_b, up2_c, br_1, br_0, true_and, and_true, mI_ne, mI_ne', mI_lt, mI_le, mI_nle, mI_nlt, pk_sub, mI_sub, eq_false g1]
  exact ⟨_, rfl, h⟩
theorem c_bendOf {r k : Nat} {Ψ : Int32 → Me → Prop} (h5 : isL5 r) (hL : LW T r μ.1) (hk : k < 16) (h : ∀ x : Int32, (k < T 0 → fl T k 0 = 3 → x = nI (fl T k 3)) → Ψ x μ) : VI N 2 mX5_bendOf [.ref r, .int (nI k)] μ Ψ := by
  refine tX5_bendOf_0 h5 (c_isRl hk ⟨fun q => absurd q (by decide), fun _ => ?_⟩)
  simp (disch := omega) only [lit, Nat.add_sub_cancel, Nat.not_lt_zero, ↓m1_mI, nI_add, pk_mul, nx_and, nx_or, and31, sh_r, sh_1, nx_nand, Nat.and_one_is_mod, nI_clamp, nI_leI, nI_ltI, nI_eq, tb_1, vp_t, up2_a, up2_b, up2_c, br_1, br_0, true_and, and_true, mI_ne, mI_ne', mI_lt, mI_le, mI_nle, mI_nlt, pk_sub, mI_sub]
  exact ⟨_, rfl, h _ (fun q1 q2 => (hL.2.2.2.1 k q1 q2).2.2.1)⟩
theorem c_tryLeast {L : Option (Nat × Nat × Nat)} {st : Nat} {Ψ : Me → Prop} (hC : CB B 3 μ.1) (hW : WB B) (hLW : LW T (lwB B) μ.1) (wT : WT T) (hv : v < B 1) (hst : st < 2048) (hS : cSay B T μ.1) (hF : cFee B T μ.1) (hL : cL L (μ.1 2)) (ho : okL L) (K : ∀ μ' : Me, Ag [2, 69] μ.1 μ'.1 → cL (setP B T v L st) (μ'.1 2) → Ψ μ') : VU N 4 mX11_tryLeast [.ref 2, .int (nI v), .int (nI st)] μ Ψ := by
  have hn := hW.n
  have h5 := lwB_5 hW
  have h16 := wT.1.2
  have hfs := fsN_le (T := T) (st := st) hW (Nat.le_refl _)
  refine tX11_tryLeast_0 (c_feesOf hC hW hF (by omega) (vi_b (fun Ψ => c_isLess hL ho (by omega)) (fun hl => ?_) (fun hl => ⟨rfl, K μ Ag.rf (by rw [setP_a hl]; exact hL)⟩)))
  refine c_weigh hC hW (by omega) hS (fun μ1 a1 d1 => ?_)
  have fC : ∀ ν : Me, Ag [2, 69] μ.1 ν.1 → CB B 3 ν.1 := fun ν h => hC.fr (fun a k1 k2 => h a (by simp; omega))
  have fL : ∀ ν : Me, Ag [2, 69] μ.1 ν.1 → LW T (lwB B) ν.1 := fun ν h => hLW.fr (fun a k1 k2 => h a (by unfold isL5 at h5; simp; omega))
  have b1 : Ag [2, 69] μ.1 μ1.1 := a1.mono (by decide)
  have hL1 : cL L (μ1.1 2) := by rw [a1 2 (by decide)]; exact hL
  refine vi_b (fun Ψ => c_carried (b := 99) (fC _ b1) hW (fL _ b1) wT (Or.inr rfl) d1 hv) (fun g => ?_) (fun g => ?_)
  · refine c_keep (b := 99) (fun μ2 a2 d2 => ⟨rfl, K μ2 (b1.tr (a2.mono (by decide))) ?_⟩)
    rw [setP_b hl (fB_iff.mpr g)]
    exact d2
  · have hnf : ¬ fB B T (eS B T st (B 0)) 99 v = true := fun q => g (fB_iff.mp q)
    refine c_ruling (fC _ b1) hW (fun h5 => ⟨h5, ?_⟩)
    rw [d1 1 (by decide) (by decide)]
    refine c_atAll (b := 99) h5 (fL _ b1) wT (Or.inr rfl) ?_
    refine vb_for (N := N) (d := 4) (M := mX11_tryLeast) (hd := 59) (τ := Me) (fun i _ => [.ref 2, .int (nI v), .int (nI st), .int (nI (fsN B T st (B 0))), .int (nI (eb (shP T (eS B T st (B 0)) 99) 1)), .int (nI i)]) (fun _ ν => ν) 16 (fun i ν => Ag [2, 69] μ.1 ν.1 ∧ ν.1 69 = μ1.1 69 ∧ cL (rlN B T v L st (fsN B T st (B 0)) (min i (T 0))) (ν.1 2)) ?_ ?_ 0 μ1 (by omega) ⟨b1, rfl, by rw [Nat.zero_min]; exact hL1⟩
    · intro i ν hi ⟨hA, h69, hc⟩ K'
      have g1 : ¬ 16 ≤ i := by omega
      have hokn : okL (rlN B T v L st (fsN B T st (B 0)) (min i (T 0))) := rlN_ok wT ho hfs hst _ (Nat.min_le_right _ _)
      have hCν := fC ν hA
      have hLν := fL ν hA
      have hE : cEv (eS B T st (B 0)) (ν.1 69) := by rw [h69]; exact d1
      refine tX11_tryLeast_59 ?_
      simp (disch := omega) only [lit, Nat.add_sub_cancel, Nat.not_lt_zero, ↓m1_mI, nI_add, pk_mul, nx_and, nx_or, and31, sh_r, sh_1, nx_nand, Nat.and_one_is_mod, nI_clamp, nI_leI, nI_ltI, nI_eq, tb_1, vp_t, up2_a, up2_b, up2_c, br_1, br_0, true_and, and_true, mI_ne, mI_ne', mI_lt, mI_le, mI_nle, mI_nlt, pk_sub, mI_sub, eq_false g1]
      refine c_ruling hCν hW (fun h5 => ⟨h5, ?_⟩)
      refine c_bendOf h5 hLν hi (fun x hx => ?_)
      refine c_ruling hCν hW (fun h5 => ⟨h5, ?_⟩)
      have same : (¬ (i < T 0 ∧ fl T i 0 = 3 ∧ lessL (rlN B T v L st (fsN B T st (B 0)) i) (fsN B T st (B 0) + fl T i 3) = true ∧ fP B T (eS B T st (B 0)) i v)) → rlN B T v L st (fsN B T st (B 0)) (min (i + 1) (T 0)) = rlN B T v L st (fsN B T st (B 0)) (min i (T 0)) := by
        intro q
        by_cases hiT : i < T 0
        · rw [Nat.min_eq_left (by omega), Nat.min_eq_left (by omega)]
          show (if isR T i = true then tryP B T v (rlN B T v L st (fsN B T st (B 0)) i) st (fsN B T st (B 0) + fl T i 3) i else rlN B T v L st (fsN B T st (B 0)) i) = _
          split
          · rename_i hr
            unfold tryP
            rw [if_neg (fun z => q ⟨hiT, isR_iff.mp hr, z.1, fB_iff.mp z.2⟩)]
          · rfl
        · rw [Nat.min_eq_right (by omega), Nat.min_eq_right (by omega)]
      refine c_isBarred (e := eS B T st (B 0)) h5 hLν wT hi (fun q1 q2 q3 => ⟨fun e => absurd e (by decide), fun _ => ?_⟩) (fun q => ⟨fun _ => K' ν ⟨hA, h69, ?_⟩, fun e => absurd rfl e⟩)
      · have hb := (wT.2.1 i q1 q2).2.2.2.1
        rw [hx q1 q2]
        rw [Nat.min_eq_left (by omega)] at hc hokn
        rw [nI_add]
        refine vi_b (fun Ψ => c_isLess hc hokn (by omega)) (fun hl2 => ?_) (fun hl2 => K' ν ⟨hA, h69, ?_⟩)
        · have hbI : nI i = bI i := by unfold bI; rw [if_neg (by omega)]
          rw [hbI]
          refine vi_b (fun Ψ => c_carried (b := i) hCν hW hLν wT (Or.inl (by omega)) hE hv) (fun z => ?_) (fun z => ?_)
          · refine c_keep (b := i) (fun μ4 a4 d4 => ?_)
            refine K' μ4 ⟨hA.tr (a4.mono (by decide)), by rw [a4 69 (by decide)]; exact h69, ?_⟩
            rw [Nat.min_eq_left (by omega)]
            show cL (if isR T i = true then tryP B T v (rlN B T v L st (fsN B T st (B 0)) i) st (fsN B T st (B 0) + fl T i 3) i else rlN B T v L st (fsN B T st (B 0)) i) _
            rw [if_pos (isR_iff.mpr q2)]
            unfold tryP
            rw [if_pos ⟨hl2, fB_iff.mpr z⟩]
            exact d4
          · refine K' ν ⟨hA, h69, ?_⟩
            rw [same (fun y => z y.2.2.2), Nat.min_eq_left (by omega)]
            exact hc
        · rw [same (fun y => hl2 y.2.2.1), Nat.min_eq_left (by omega)]
          exact hc
      · rw [same (fun y => q ⟨y.1, y.2.1, amP_b hW wT hv g ⟨y.1, y.2.1, y.2.2.2⟩⟩)]
        exact hc
    · intro ν ⟨hA, _, hc⟩
      refine tX11_tryLeast_59 ?_
      simp (disch := omega) only [lit, Nat.add_sub_cancel, Nat.not_lt_zero, ↓m1_mI, nI_add, pk_mul, nx_and, nx_or, and31, sh_r, sh_1, nx_nand, Nat.and_one_is_mod, nI_clamp, nI_leI, nI_ltI, nI_eq, tb_1, vp_t, up2_a, up2_b, up2_c, br_1, br_0, true_and, and_true, mI_ne, mI_ne', mI_lt, mI_le, mI_nle, mI_nlt, pk_sub, mI_sub, Nat.le_refl]
      refine K ν hA ?_
      rw [setP_c hnf]
      rw [Nat.min_eq_right h16] at hc
      exact hc
theorem c_findLeast {Ψ : Me → Prop} (hC : CB B 3 μ.1) (hW : WB B) (hLW : LW T (lwB B) μ.1) (wT : WT T) (hv : v < B 1) (hS : cSay B T μ.1) (hF : cFee B T μ.1) (K : ∀ μ' : Me, Ag [2, 69] μ.1 μ'.1 → cL (lsN B T v (2 ^ B 0)) (μ'.1 2) → Ψ μ') : VU N 5 mX11_findLeast [.ref 2, .int (nI v)] μ Ψ := by
  have hn := hW.n
  have h5 := lwB_5 hW
  have hsb := sb_lt hW
  have hp : 2 ^ B 0 ≤ 2 ^ 10 := Nat.pow_le_pow_right (by decide) (by omega)
  refine tX11_findLeast_0 ?_
  simp (disch := omega) only [lit, Nat.add_sub_cancel, Nat.not_lt_zero, ↓m1_mI, nI_add, pk_mul, nx_and, nx_or, and31, sh_r, sh_1, nx_nand, Nat.and_one_is_mod, nI_clamp, nI_leI, nI_ltI, nI_eq, tb_1, vp_t, up2_a, up2_b, up2_c, br_1, br_0, true_and, and_true, mI_ne, mI_ne', mI_lt, mI_le, mI_nle, mI_nlt, pk_sub, mI_sub, hC.k0]
  refine vb_for (N := N) (d := 5) (M := mX11_findLeast) (hd := 30) (τ := Me) (fun i _ => [.ref 2, .int (nI v), .int (nI (2 ^ B 0)), .int (nI i)]) (fun _ ν => ν) (2 ^ B 0) (fun i ν => Ag [2, 69] μ.1 ν.1 ∧ cL (lsN B T v i) (ν.1 2)) ?_ ?_ 0 _ (Nat.zero_le _) ⟨((Ag.rf.up (by decide)).up (by decide)).up (by decide), ?_, ?_, ?_⟩
  · intro i ν hi ⟨hA, hc⟩ K'
    have hCν : CB B 3 ν.1 := hC.fr (fun a k1 k2 => hA a (by simp; omega))
    have hLν : LW T (lwB B) ν.1 := hLW.fr (fun a k1 k2 => hA a (by unfold isL5 at h5; simp; omega))
    have g1 : ¬ 2 ^ B 0 ≤ i := by omega
    have han : i &&& sb B < 2 ^ 31 := Nat.lt_of_le_of_lt Nat.and_le_left (by omega)
    have e1 : lsN B T v (i + 1) = if us B i = true then setP B T v (lsN B T v i) i else lsN B T v i := rfl
    refine tX11_findLeast_30 ?_
    simp (disch := omega) only [lit, Nat.add_sub_cancel, Nat.not_lt_zero, ↓m1_mI, nI_add, pk_mul, nx_and, nx_or, and31, sh_r, sh_1, nx_nand, Nat.and_one_is_mod, nI_clamp, nI_leI, nI_ltI, nI_eq, tb_1, vp_t, up2_a, up2_b, up2_c, br_1, br_0, true_and, and_true, mI_ne, mI_ne', mI_lt, mI_le, mI_nle, mI_nlt, pk_sub, mI_sub, eq_false g1, hCν.k1]
    refine ⟨fun z => ?_, fun z => K' ν ⟨hA, ?_⟩⟩
    · refine c_tryLeast (L := lsN B T v i) hCν hW hLν wT hv (by omega) (fun w hw => by rw [hA 83 (by decide)]; exact hS w hw) (fun w hw => by rw [hA 84 (by decide)]; exact hF w hw) hc (lsN_ok hW wT i (by omega)) (fun μ3 a3 d3 => K' μ3 ⟨hA.tr a3, ?_⟩)
      rw [e1, if_pos (us_iff.mpr z)]
      exact d3
    · rw [e1, if_neg (fun q => z (us_iff.mp q))]
      exact hc
  · intro ν ⟨hA, hc⟩
    refine tX11_findLeast_30 ?_
    simp (disch := omega) only [lit, Nat.add_sub_cancel, Nat.not_lt_zero, ↓m1_mI, nI_add, pk_mul, nx_and, nx_or, and31, sh_r, sh_1, nx_nand, Nat.and_one_is_mod, nI_clamp, nI_leI, nI_ltI, nI_eq, tb_1, vp_t, up2_a, up2_b, up2_c, br_1, br_0, true_and, and_true, mI_ne, mI_ne', mI_lt, mI_le, mI_nle, mI_nlt, pk_sub, mI_sub, Nat.le_refl]
    exact K ν hA hc
  · simp (disch := omega) only [up2_b, up2_c]
  · simp (disch := omega) only [up2_b, up2_c]
  · simp only [up2_c]
end LE
