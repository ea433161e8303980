/-! the day: both sides -/
section DK
variable {N : Nat} {μ : Me} {B B' R T tp : Nat → Nat} {tn : Nat} {ft fp : Int32} {v m K : Nat}
def wh (B : Nat → Nat) (i : Nat) : Nat := fnd (B 0) (fun w => !stk B w && decide (sq B w = i))
theorem wh_sp {i : Nat} (hi : i < nfr B) : wh B i < B 0 ∧ ¬ B (10 + 5 * wh B i + 4) = 1 ∧ sq B (wh B i) = i := by
  obtain ⟨w, h1, h2, h3⟩ := sq_ex B (B 0) i hi
  have hlt : wh B i < B 0 := by
    rcases Nat.lt_or_ge (wh B i) (B 0) with q | q
    · exact q
    · have := fnd_no (n := B 0) (p := fun w => !stk B w && decide (sq B w = i)) w (by unfold wh at q; omega) h1
      rw [decide_eq_true h3, eq_false_of_ne_true (fun z => h2 (stk_iff.mp z))] at this
      cases this
  have := fnd_sp (n := B 0) (p := fun w => !stk B w && decide (sq B w = i)) hlt
  rw [Bool.and_eq_true, decide_eq_true_iff] at this
  refine ⟨hlt, fun z => ?_, this.2⟩
  have h := this.1
  rw [show stk B (fnd (B 0) (fun w => !stk B w && decide (sq B w = i))) = true from stk_iff.mpr z] at h
  cases h
theorem wh_sq {w : Nat} (hw : w < B 0) (hx : ¬ B (10 + 5 * w + 4) = 1) : sq B w < nfr B ∧ wh B (sq B w) = w := by
  have h1 : sq B w < nfr B := by
    have := sq_mono B (show w + 1 ≤ B 0 from hw)
    rw [sq_t hx] at this
    show sq B w < sq B (B 0)
    omega
  obtain ⟨q1, q2, q3⟩ := wh_sp h1
  exact ⟨h1, sq_inj q2 hx q3⟩
def feS (B T : Nat → Nat) (i mn : Nat) : Nat := if wh B i < B 0 then feeP B T (wh B i) mn else 0
theorem feS_le (hW : WB B) (i mn : Nat) : feS B T i mn ≤ 9999 := by
  unfold feS
  split
  · exact feeP_le hW (by assumption)
  · omega
def laS (B T : Nat → Nat) (v h : Nat) : Nat := if fB B T (eS B T (wS B h) (B 0)) 99 v = true then 0 else 1000000
theorem laS_6 (h : Nat) : laS B T v h ≤ 1000000 := by unfold laS; split <;> omega
theorem wS_lt (B : Nat → Nat) (h : Nat) : wS B h < 2 ^ B 0 := bits_lt _ _
theorem wS_0 : wS B 0 = 0 := by
  apply Nat.eq_of_testBit_eq
  intro i
  unfold wS
  rw [bits_tb, Nat.zero_testBit, Nat.zero_testBit, Bool.and_false, Bool.and_false]
theorem wS_or {t u : Nat} (hu : u < B 0) (hx : ¬ B (10 + 5 * u + 4) = 1) : wS B (t ||| 2 ^ sq B u) = wS B t ||| 2 ^ u := by
  unfold wS
  apply Nat.eq_of_testBit_eq
  intro w
  rw [Nat.testBit_or, bits_tb, bits_tb, Nat.testBit_two_pow, Nat.testBit_or, Nat.testBit_two_pow]
  by_cases e : u = w
  · subst e
    rw [decide_eq_true hu, eq_false_of_ne_true (fun z => hx (stk_iff.mp z))]
    simp
  · by_cases s : stk B w = true
    · rw [s]; simp [e]
    · have : ¬ sq B u = sq B w := fun q => e (sq_inj hx (fun z => s (stk_iff.mpr z)) q)
      simp [e, this]
theorem wS_fr {h t u : Nat} (hu : u < B 0) (hx : ¬ B (10 + 5 * u + 4) = 1) : frW B (wS B h) (wS B t) u ↔ ¬ (h ||| t).testBit (sq B u) = true := by
  unfold frW
  rw [Nat.testBit_or, Nat.testBit_or, Bool.or_eq_true, Bool.or_eq_true, wS_tb hu, wS_tb hu]
  constructor
  · rintro ⟨_, _, q⟩ z
    exact q (z.elim (fun y => Or.inl ⟨hx, y⟩) (fun y => Or.inr ⟨hx, y⟩))
  · intro q
    exact ⟨hu, hx, fun z => q (z.elim (fun y => Or.inl y.2) (fun y => Or.inr y.2))⟩
theorem cnt_ext {n : Nat} {p q : Nat → Bool} (h : ∀ i, i < n → p i = q i) : cnt n p = cnt n q := by
  induction n with
  | zero => rfl
  | succ n ih =>
    show cnt n p + (if p n = true then 1 else 0) = cnt n q + (if q n = true then 1 else 0)
    rw [ih (fun i hi => h i (by omega)), h n (by omega)]
theorem cnt_hi {n k : Nat} {p : Nat → Bool} (hk : k ≤ n) (h : ∀ i, k ≤ i → i < n → p i = false) : cnt n p = cnt k p := by
  induction n with
  | zero => have : k = 0 := by omega
            subst this; rfl
  | succ n ih =>
    by_cases e : k = n + 1
    · subst e; rfl
    · show cnt n p + (if p n = true then 1 else 0) = _
      rw [ih (by omega) (fun i h1 h2 => h i h1 (by omega)), h n (by omega) (by omega)]
      rfl
theorem hcn_wS (hW : WB B) {h : Nat} (h6 : nfr B ≤ 6) (hh : h < 2 ^ nfr B) : hcn (wS B h) = cn16 h := by
  have hn := hW.n
  have key : ∀ n, cnt n (fun w => !stk B w && h.testBit (sq B w)) = cnt (sq B n) (fun s => h.testBit s) := by
    intro n
    induction n with
    | zero => rfl
    | succ n ih =>
      show cnt n _ + (if (!stk B n && h.testBit (sq B n)) = true then 1 else 0) = _
      by_cases q : B (10 + 5 * n + 4) = 1
      · rw [sq_f q, ih, stk_iff.mpr q]
        rfl
      · rw [sq_t q, ih, eq_false_of_ne_true (fun z => q (stk_iff.mp z))]
        rfl
  unfold hcn
  rw [cn16_eq, cnt_hi (n := 10) (k := B 0) hn.1 (fun i h1 h2 => Nat.testBit_lt_two_pow (Nat.lt_of_lt_of_le (wS_lt B h) (Nat.pow_le_pow_right (by decide) h1))), cnt_ext (q := fun w => !stk B w && h.testBit (sq B w)) (fun i hi => by unfold wS; rw [bits_tb, decide_eq_true hi, Bool.true_and]), key (B 0), cnt_hi (n := 16) (k := nfr B) (by omega) (fun i h1 h2 => Nat.testBit_lt_two_pow (Nat.lt_of_lt_of_le hh (Nat.pow_le_pow_right (by decide) h1)))]
  rfl
theorem cl_gA {n h t p : Nat} (hW : WB B) (h6 : nfr B ≤ 6) (IH : ∀ h t p, h < 2 ^ nfr B → t < 2 ^ nfr B → h &&& t = 0 → cn16 t ≤ K → p ≤ 999 → (ndD (nfr B) K (feS B T) (laS B T v) n h t ≤ p ↔ gC B T v n (wS B h) (wS B t) (K - cn16 t) p)) (hh : h < 2 ^ nfr B) (ht : t < 2 ^ nfr B) (hd : h &&& t = 0) (hpc : cn16 t ≤ K) (hp : p ≤ 999) : clP (nfr B) K (ndD (nfr B) K (feS B T) (laS B T v) n) h t ≤ p ↔ gA B T v n (wS B h) (wS B t) (K - cn16 t) p := by
  have hpw : 2 ^ nfr B ≤ 2 ^ 6 := Nat.pow_le_pow_right (by decide) h6
  unfold clP gA
  have disj : ∀ i, i < nfr B → ¬ (h ||| t).testBit i = true → t ||| 2 ^ i < 2 ^ nfr B ∧ h &&& (t ||| 2 ^ i) = 0 ∧ cn16 (t ||| 2 ^ i) = cn16 t + 1 := by
    intro i hi hb
    have zt : t.testBit i = false := eq_false_of_ne_true (fun y => hb (by rw [Nat.testBit_or, y, Bool.or_true]))
    have zh : h.testBit i = false := eq_false_of_ne_true (fun y => hb (by rw [Nat.testBit_or, y, Bool.true_or]))
    refine ⟨Nat.or_lt_two_pow ht (p2_lt hi), ?_, pc_s t (by omega) i (by omega) zt⟩
    rw [and_0] at hd ⊢
    intro j hj
    rw [Nat.testBit_or, hd j hj, Nat.testBit_two_pow, Bool.false_or]
    apply decide_eq_false
    intro y
    subst y
    rw [zh] at hj; cases hj
  split
  · rename_i hlt
    rw [clN_le, IH h t p hh ht hd hpc hp]
    constructor
    · rintro ⟨q1, q2⟩
      refine ⟨fun u hu _ => ?_, q1⟩
      have hw := wh_sq hu.1 hu.2.1
      have hb := (wS_fr (h := h) (t := t) hu.1 hu.2.1).mp hu
      obtain ⟨z1, z2, z3⟩ := disj _ hw.1 hb
      have := q2 _ hw.1 hb
      rw [IH h (t ||| 2 ^ sq B u) p hh z1 z2 (by omega) hp, wS_or hu.1 hu.2.1, z3, show K - (cn16 t + 1) = K - cn16 t - 1 by omega] at this
      exact this
    · rintro ⟨q1, q2⟩
      refine ⟨q2, fun i hi hb => ?_⟩
      obtain ⟨w1, w2, w3⟩ := wh_sp hi
      obtain ⟨z1, z2, z3⟩ := disj i hi hb
      rw [IH h (t ||| 2 ^ i) p hh z1 z2 (by omega) hp, z3, show K - (cn16 t + 1) = K - cn16 t - 1 by omega]
      have := q1 (wh B i) ((wS_fr w1 w2).mpr (by rw [w3]; exact hb)) (by omega)
      rw [← wS_or w1 w2, w3] at this
      exact this
  · rename_i hlt
    rw [IH h t p hh ht hd hpc hp]
    exact ⟨fun q => ⟨fun u _ hk => by omega, q⟩, fun q => q.2⟩
theorem nd_gC (hW : WB B) (h6 : nfr B ≤ 6) : ∀ n h t p, h < 2 ^ nfr B → t < 2 ^ nfr B → h &&& t = 0 → cn16 t ≤ K → p ≤ 999 → (ndD (nfr B) K (feS B T) (laS B T v) n h t ≤ p ↔ gC B T v n (wS B h) (wS B t) (K - cn16 t) p) := by
  have hpw : 2 ^ nfr B ≤ 2 ^ 6 := Nat.pow_le_pow_right (by decide) h6
  intro n
  induction n with
  | zero =>
    intro h t p hh ht hd hpc hp
    show laS B T v h ≤ p ↔ fP B T (eS B T (wS B h) (B 0)) 99 v
    unfold laS
    rw [← fB_iff]
    split
    · rename_i q; exact ⟨fun _ => q, fun _ => Nat.zero_le _⟩
    · rename_i q; exact ⟨fun z => by omega, fun z => absurd z q⟩
  | succ n IH =>
    intro h t p hh ht hd hpc hp
    show ahN (feS B T) (clP (nfr B) K (ndD (nfr B) K (feS B T) (laS B T v) n)) h t (nfr B) ≤ p ↔ _
    have disj : ∀ i, i < nfr B → ¬ (h ||| t).testBit i = true → h ||| 2 ^ i < 2 ^ nfr B ∧ (h ||| 2 ^ i) &&& t = 0 := by
      intro i hi hb
      have zt : t.testBit i = false := eq_false_of_ne_true (fun y => hb (by rw [Nat.testBit_or, y, Bool.or_true]))
      refine ⟨Nat.or_lt_two_pow hh (p2_lt hi), ?_⟩
      rw [Nat.and_comm] at hd ⊢
      rw [and_0] at hd ⊢
      intro j hj
      rw [Nat.testBit_or, hd j hj, Nat.testBit_two_pow, Bool.false_or]
      apply decide_eq_false
      intro y
      subst y
      rw [zt] at hj; cases hj
    rw [ahN_le, gC_s, cl_gA hW h6 IH hh ht hd hpc hp, hcn_wS hW h6 hh]
    have step : ∀ i, i < nfr B → ¬ (h ||| t).testBit i = true → (feS B T i (cn16 h) + clP (nfr B) K (ndD (nfr B) K (feS B T) (laS B T v) n) (h ||| 2 ^ i) t ≤ p ↔ feeP B T (wh B i) (cn16 h) ≤ p ∧ gA B T v n (wS B h ||| 2 ^ wh B i) (wS B t) (K - cn16 t) (p - feeP B T (wh B i) (cn16 h))) := by
      intro i hi hb
      obtain ⟨w1, w2, w3⟩ := wh_sp hi
      obtain ⟨z1, z2⟩ := disj i hi hb
      have ef : feS B T i (cn16 h) = feeP B T (wh B i) (cn16 h) := by unfold feS; rw [if_pos w1]
      rw [ef]
      have e2 := cl_gA (h := h ||| 2 ^ i) (t := t) (p := p - feeP B T (wh B i) (cn16 h)) hW h6 IH z1 ht z2 hpc (by omega)
      have e3 : wS B (h ||| 2 ^ i) = wS B h ||| 2 ^ wh B i := by
        have := wS_or (t := h) w1 w2
        rw [w3] at this
        exact this
      rw [e3] at e2
      rw [← e2]
      omega
    constructor
    · rintro (q | ⟨i, q1, q2, q3⟩)
      · exact Or.inr q
      · obtain ⟨w1, w2, w3⟩ := wh_sp q1
        have := (step i q1 q2).mp q3
        exact Or.inl ⟨wh B i, (wS_fr w1 w2).mpr (by rw [w3]; exact q2), this.1, this.2⟩
    · rintro (⟨w, q1, q2, q3⟩ | q)
      · obtain ⟨y1, y2⟩ := wh_sq q1.1 q1.2.1
        have hb := (wS_fr (h := h) (t := t) q1.1 q1.2.1).mp q1
        refine Or.inr ⟨sq B w, y1, hb, (step _ y1 hb).mpr ?_⟩
        rw [y2]
        exact ⟨q2, q3⟩
      · exact Or.inl q
/-! the class -/
def scP : List Nat := [82, 50, 96, 107, 118, 129, 83, 69, 75, 76, 77, 79, 80, 81]
theorem c_playDay {n : Nat} {Ψ : Me → Prop} (hC : CB B 3 μ.1) (hW : WB B) (hL : LW T (lwB B) μ.1) (wT : WT T) (h78 : ∀ b, b < 64 → μ.1 78 b = nI (sprN 6 b)) (h6 : nfr B ≤ 6) (hv : v < B 1) (hn6 : n ≤ 6) (hK : K ≤ 2) (k : ∀ μ' : Me, Ag scP μ.1 μ'.1 → seatI B T (B 0) μ'.1 → cN (nfr B) K (ndD (nfr B) K (feS B T) (laS B T v) n) (μ'.1 80) → (∀ j, n = j + 1 → cN (nfr B) K (clP (nfr B) K (ndD (nfr B) K (feS B T) (laS B T v) j)) (μ'.1 81)) → Ψ μ') : VU N 6 mX11_playDay [.ref 2, .int (nI v), .int (nI n), .int (nI K)] μ Ψ := by
  have hn := hW.n
  have h5 := lwB_5 hW
  have hpw : 2 ^ nfr B ≤ 2 ^ 6 := Nat.pow_le_pow_right (by decide) h6
  have sC : ∀ ν : Me, Ag scP μ.1 ν.1 → CB B 3 ν.1 := fun ν h => hC.fr (fun a k1 k2 => h a (by simp [scP]; omega))
  have sL : ∀ ν : Me, Ag scP μ.1 ν.1 → LW T (lwB B) ν.1 := fun ν h => hL.fr (fun a k1 k2 => h a (by unfold isL5 at h5; simp [scP]; omega))
  refine tX11_playDay_0 (c_findSayings hC hW hL wT (fun μ1 a1 d1 => ?_))
  have b1 : Ag scP μ.1 μ1.1 := a1.mono (by decide)
  refine c_seatFree (sC _ b1) hW (sL _ b1) wT h6 (fun μ2 a2 d2 => ?_)
  have b2 : Ag scP μ.1 μ2.1 := b1.tr (a2.mono (by decide))
  have r75 : μ2.1 75 0 = nI (nfr B) := d2.1
  have d1' : cSay B T μ2.1 := fun w hw => by rw [a2 83 (by decide)]; exact d1 w hw
  simp (disch := omega) only [lit, Nat.add_sub_cancel, Nat.not_lt_zero, ↓m1_mI, nI_add, pk_mul, nx_and, nx_or, and31, sh_r, sh_1, nx_nand, Nat.and_one_is_mod, nI_clamp, nI_leI, nI_ltI, nI_eq, tb_1, vp_t, up2_a, up2_b, up2_c, br_1, br_0, true_and, and_true, mI_ne, mI_ne', mI_lt, mI_le, mI_nle, mI_nlt, pk_sub, mI_sub, r75]
  refine vb_for (N := N) (d := 6) (M := mX11_playDay) (hd := 22) (τ := Me) (fun i _ => [.ref 2, .int (nI v), .int (nI n), .int (nI K), .int (nI (2 ^ nfr B)), .int (nI i)]) (fun _ ν => ν) (2 ^ nfr B) (fun i ν => Ag [69, 79] μ2.1 ν.1 ∧ ∀ h, h < i → ν.1 79 h = nI (laS B T v h)) ?_ ?_ 0 μ2 (Nat.zero_le _) ⟨Ag.rf, fun h hh => by omega⟩
  · intro i ν hi ⟨hA, hE⟩ K'
    have g1 : ¬ 2 ^ nfr B ≤ i := by omega
    have bν : Ag scP μ.1 ν.1 := b2.tr (hA.mono (by decide))
    have sν : seatI B T (B 0) ν.1 := by
      unfold seatI at *
      rw [hA 75 (by decide), hA 76 (by decide), hA 77 (by decide)]
      exact d2
    have hwl : wS B i < 2 ^ 30 := Nat.lt_of_lt_of_le (wS_lt B i) (Nat.pow_le_pow_right (by decide) (by omega))
    refine tX11_playDay_22 ?_
    simp (disch := omega) only [lit, Nat.add_sub_cancel, Nat.not_lt_zero, ↓m1_mI, nI_add, pk_mul, nx_and, nx_or, and31, sh_r, sh_1, nx_nand, Nat.and_one_is_mod, nI_clamp, nI_leI, nI_ltI, nI_eq, tb_1, vp_t, up2_a, up2_b, up2_c, br_1, br_0, true_and, and_true, mI_ne, mI_ne', mI_lt, mI_le, mI_nle, mI_nlt, pk_sub, mI_sub, eq_false g1]
    refine c_witOf hW h6 sν (by omega) ?_
    refine c_weigh (sC _ bν) hW hwl (fun w hw => by rw [hA 83 (by decide)]; exact d1' w hw) (fun μ4 a4 d4 => ?_)
    have b4 : Ag scP μ.1 μ4.1 := bν.tr (a4.mono (by decide))
    have cls : ∀ x : Int32, (x = 0 → laS B T v i = 1000000) → (¬ x = 0 → laS B T v i = 0) → VU N 1 mX2_close [.ref 75, .int (nI i), .int x] μ4 (fun μ6 => VB N 6 mX11_playDay 22 [.ref 2, .int (nI v), .int (nI n), .int (nI K), .int (nI (2 ^ nfr B)), .int (nI (i + 1))] [] μ6 (fun r μ' => r = none ∧ Ψ μ')) := by
      intro x hx0 hx1
      have g3 : ¬ 64 ≤ i := by omega
      have fin : ∀ y : Int32, y = nI (laS B T v i) → VB N 6 mX11_playDay 22 [.ref 2, .int (nI v), .int (nI n), .int (nI K), .int (nI (2 ^ nfr B)), .int (nI (i + 1))] [] (up2 μ4.1 79 i y, μ4.2) (fun r μ' => r = none ∧ Ψ μ') := by
        intro y hy
        refine K' _ ⟨(hA.tr (a4.mono (by decide))).up (by decide), fun h hh => ?_⟩
        by_cases e : h = i
        · subst e; simp only [up2_c]; exact hy
        · simp (disch := omega) only [up2_b]
          rw [a4 79 (by decide)]
          exact hE h (by omega)
      refine tX2_close_0 ?_
      simp (disch := omega) only [lit, Nat.add_sub_cancel, Nat.not_lt_zero, ↓m1_mI, nI_add, pk_mul, nx_and, nx_or, and31, sh_r, sh_1, nx_nand, Nat.and_one_is_mod, nI_clamp, nI_leI, nI_ltI, nI_eq, tb_1, vp_t, up2_a, up2_b, up2_c, br_1, br_0, true_and, and_true, mI_ne, mI_ne', mI_lt, mI_le, mI_nle, mI_nlt, pk_sub, mI_sub, eq_false g3]
      refine ⟨fun z => fin _ (by rw [hx0 z]), fun z => fin _ (by rw [hx1 z])⟩
    refine c_carried (b := 99) (sC _ b4) hW (sL _ b4) wT (Or.inr rfl) d4 hv (fun g => ?_) (fun g => ?_)
    · refine cls 1 (fun q => absurd q (by decide)) (fun _ => ?_)
      unfold laS
      rw [if_pos (fB_iff.mpr g)]
    · refine cls 0 (fun _ => ?_) (fun q => absurd rfl q)
      unfold laS
      rw [if_neg (fun q => g (fB_iff.mp q))]
  · intro ν ⟨hA, hE⟩
    have bν : Ag scP μ.1 ν.1 := b2.tr (hA.mono (by decide))
    refine tX11_playDay_22 ?_
    simp (disch := omega) only [lit, Nat.add_sub_cancel, Nat.not_lt_zero, ↓m1_mI, nI_add, pk_mul, nx_and, nx_or, and31, sh_r, sh_1, nx_nand, Nat.and_one_is_mod, nI_clamp, nI_leI, nI_ltI, nI_eq, tb_1, vp_t, up2_a, up2_b, up2_c, br_1, br_0, true_and, and_true, mI_ne, mI_ne', mI_lt, mI_le, mI_nle, mI_nlt, pk_sub, mI_sub, Nat.le_refl]
    refine c_play (m := nfr B) (fe := feS B T) (la := laS B T v) (by rw [bν 78 (by decide)]; exact h78) (by rw [hA 75 (by decide)]; exact r75) (fun i hi mn hmn => ?_) (feS_le hW) h6 hK hn6 laS_6 hE (fun μ3 a3 q1 q2 => k μ3 (bν.tr (a3.mono (by decide))) ?_ q1 q2)
    · obtain ⟨w1, w2, w3⟩ := wh_sp hi
      have := (d2.2 _ w1 w2).2 mn hmn
      rw [w3] at this
      rw [hA 77 (by decide), this]
      unfold feS
      rw [if_pos w1]
    · unfold seatI at *
      rw [a3 75 (by decide), a3 76 (by decide), a3 77 (by decide), hA 75 (by decide), hA 76 (by decide), hA 77 (by decide)]
      exact d2
theorem ro_00 : ro 0 0 = 0 := by decide
theorem cn_0 : cn16 0 = 0 := by decide
theorem IV.sameD {I I1 I' : Nat → Nat → Int32} (hw : WS B B' R tp tn) (hc : CS B B' R tp tn ft fp I) (hr : RS B B' R tp tn ft fp I) (h1 : Ag scC I I1) (h2 : dyG I1 I') : IV I' := by
  refine ⟨B, B', R, tp, tn, ft, fp, hw, hc.fr hw (fun a ha hb => ?_), hr.fr (fun a ha hb => ?_) ?_ ?_ ?_⟩
  · rw [h2.1 a (scR_lt (by omega)) (by omega), h1 a ha]
  · rw [h2.1 a (scR_lt (by omega)) (by omega), h1 a (scC_ge (by omega))]
  all_goals rw [h2.2 _ (by decide) (by decide) (by decide), h1 130 (scC_ge (by omega))]
theorem k_day {x1 x2 x3 x4 : Int32} {Φ : Int32 → Int32 → Me → Prop} (h : IV μ.1) (Kk : ∀ v (μ' : Me), IV μ'.1 → μ'.1 0 = μ.1 0 → Φ v v μ') : VI N 7 mX11_day [.ref 2, .int x1, .int x2, .int x3, .int x4] μ (fun v μ1 => μ1.1 0 = μ.1 0 ∧ VI N 8 mX12_day [.ref 130, .int x1, .int x2, .int x3, .int x4] μ1 (fun v' μ2 => Φ v v' μ2)) := by
  have h' := h
  obtain ⟨B, B', R, tp, tn, ft, fp, hw, hc, hr⟩ := h
  have wT := hw.ruT
  refine tX11_day_0 (vi_b (fun Ψ => c_isDay hc.1 hw.1) (fun g => ?_) (fun g => ⟨_, rfl, rfl, tX12_day_0 (vi_b (fun Ψ => r_isDay hr.1 hw.1) (fun q => absurd q g) (fun _ => ⟨_, rfl, Kk _ _ h' rfl⟩))⟩))
  have g0 := g
  obtain ⟨⟨v, hv, rfl⟩, h6, ⟨n, -, hn6, rfl⟩, ⟨k, -, hk, rfl⟩, ⟨p, -, hp, rfl⟩⟩ := g
  refine c_playDay (K := k) hc.1 hw.1 (hc.ruL hw) wT hc.2.2.1.2.2 h6 hv hn6 hk (fun μ2 b2 _ q80 _ => ?_)
  have r80 := q80 0 0 (Nat.two_pow_pos _) (Nat.two_pow_pos _) rfl (by rw [cn_0]; omega)
  rw [ro_00] at r80
  have b80 := ndD_6 (m := nfr B) (K := k) (fe := feS B (txB B R)) (laS_6 (B := B) (T := txB B R) (v := v)) n 0 0
  have key := nd_gC (T := txB B R) (v := v) (K := k) hw.1 h6 n 0 0 p (Nat.two_pow_pos _) (Nat.two_pow_pos _) rfl (by rw [cn_0]; omega) hp
  rw [wS_0, cn_0, Nat.sub_zero] at key
  have hB2 : rowB B (μ2.1 131) := by rw [b2 131 (by decide)]; exact hr.1
  have hT2 := hr.ruT.fr (b2 133 (by decide))
  have fin : ∀ x : Int32, (gC B (txB B R) v n 0 0 k p → x = 1) → (¬ gC B (txB B R) v n 0 0 k p → x = 0) → μ2.1 0 = μ.1 0 ∧ VI N 8 mX12_day [.ref 130, .int (nI v), .int (nI n), .int (nI k), .int (nI p)] μ2 (fun v' μ2 => Φ x v' μ2) := by
    intro x hx1 hx0
    try refine And.intro (by first | rfl | exact hA 0 (by decide) | exact b3 0 (by decide) | exact b2 0 (by decide) | exact a1 0 (by decide) | exact a1 0 (by omega) | exact a3 0 (by decide) (by decide) | simp (disch := omega) only [up2_ne]) ?_
    refine tX12_day_0 (vi_b (fun Ψ => r_isDay hB2 hw.1) (fun _ => ?_) (fun q => absurd g0 q))
    simp (disch := omega) only [lit, Nat.add_sub_cancel, Nat.not_lt_zero, ↓m1_mI, nI_add, pk_mul, nx_and, nx_or, and31, sh_r, sh_1, nx_nand, Nat.and_one_is_mod, nI_clamp, nI_leI, nI_ltI, nI_eq, tb_1, vp_t, up2_a, up2_b, up2_c, br_1, br_0, true_and, and_true, mI_ne, mI_ne', mI_lt, mI_le, mI_nle, mI_nlt, pk_sub, mI_sub]
    refine ⟨fun e => ?_, fun e => ?_⟩
    · subst e
      refine r_ask hB2 hw.1 hT2 wT (fun ν1 c1 s1 => ?_)
      have hB3 : rowB B (ν1.1 131) := by rw [c1 131 (by decide)]; exact hB2
      have iv : ∀ ν2 : Me, Ag [139, 140] ν1.1 ν2.1 → IV ν2.1 ∧ ν2.1 0 = μ.1 0 := fun ν2 c2 => ⟨IV.same hw hc hr (b2.mono (by decide)) ((c1.mono (by decide)).tr (c2.mono (by decide))), by rw [c2 0 (by decide), c1 0 (by decide), b2 0 (by decide)]⟩
      refine r_fby (b := 99) (set := 0) hB3 hw.1 (hT2.fr (c1 133 (by decide))) wT (Or.inr rfl) (Nat.two_pow_pos _) hv s1 (fun ν2 c2 _ _ z => ⟨fun q => absurd q (by decide), fun _ => ⟨_, rfl, ?_⟩⟩) (fun ν2 c2 _ _ z => ⟨fun _ => ⟨_, rfl, ?_⟩, fun q => absurd rfl q⟩)
      · rw [hx1 z]; exact Kk _ _ (iv ν2 c2).1 (iv ν2 c2).2
      · rw [hx0 z]; exact Kk _ _ (iv ν2 c2).1 (iv ν2 c2).2
    · have hw0 : win B (txB B R) v n 0 0 0 k p ↔ gC B (txB B R) v n 0 0 k p := by
        unfold win
        rw [if_pos rfl, show (2 * n - 0) / 2 = n by omega]
      have hwe := win_e (B := B) (T := txB B R) (v := v) (H := n) (l := 0) (h := 0) (t := 0) (k := k) (p := p) hw.1 (by omega) rfl
      refine r_findBest hB2 hw.1 hT2 wT hv hn6 (by omega) hk hp (fun m hm hst _ ν2 c2 => ⟨fun q => absurd q (nI_pos (by omega)), fun _ => ⟨_, rfl, ?_⟩⟩) (fun hno ν2 c2 => ⟨fun _ => ⟨_, rfl, ?_⟩, fun q => absurd (by decide) q⟩)
      · rw [hx1 (hw0.mp (hwe.mpr ⟨m, hm, hst⟩))]
        exact Kk _ _ (IV.sameD hw hc hr (b2.mono (by decide)) c2) (by rw [c2.1 0 (by decide) (by decide), b2 0 (by decide)])
      · rw [hx0 (fun q => by obtain ⟨m, hm, hst⟩ := hwe.mp (hw0.mpr q); exact hno m hm hst)]
        exact Kk _ _ (IV.sameD hw hc hr (b2.mono (by decide)) c2) (by rw [c2.1 0 (by decide) (by decide), b2 0 (by decide)])
  refine tX2_isWon_0 ?_
  simp (disch := omega) only [lit, Nat.add_sub_cancel, Nat.not_lt_zero, ↓m1_mI, nI_add, pk_mul, nx_and, nx_or, and31, sh_r, sh_1, nx_nand, Nat.and_one_is_mod, nI_clamp, nI_leI, nI_ltI, nI_eq, tb_1, vp_t, up2_a, up2_b, up2_c, br_1, br_0, true_and, and_true, mI_ne, mI_ne', mI_lt, mI_le, mI_nle, mI_nlt, pk_sub, mI_sub, r80]
  refine ⟨fun z => ⟨_, rfl, ⟨fun _ => ⟨_, rfl, fin _ (fun q => ?_) (fun _ => rfl)⟩, fun q => absurd rfl q⟩⟩, fun z => ⟨_, rfl, ⟨fun q => absurd q (by decide), fun _ => ⟨_, rfl, fin _ (fun _ => rfl) (fun q => absurd (key.mp (by omega)) q)⟩⟩⟩⟩
  have := key.mpr q
  omega
end DK
