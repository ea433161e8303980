/-! the day: the class's reckoning -/
section DP
variable {N : Nat} {μ : Me} {m K : Nat} {fe : Nat → Nat → Nat} {la : Nat → Nat}
def rdH (r : Nat) : Nat := r % 3 % 2 + (r / 3 % 3 % 2) * 2 + (r / 9 % 3 % 2) * 4 + (r / 27 % 3 % 2) * 8 + (r / 81 % 3 % 2) * 16 + (r / 243 % 3 % 2) * 32
def rdT (r : Nat) : Nat := r % 3 / 2 + (r / 3 % 3 / 2) * 2 + (r / 9 % 3 / 2) * 4 + (r / 27 % 3 / 2) * 8 + (r / 81 % 3 / 2) * 16 + (r / 243 % 3 / 2) * 32
def rck (h t : Nat) : Bool := Nat.ble (ro h t) 728 && ((!Nat.beq (Nat.land h t) 0) || (Nat.beq (rdH (ro h t)) h && Nat.beq (rdT (ro h t)) t))
theorem rck_all : ∀ h, h < 64 → ∀ t, t < 64 → rck h t = true := by decide +kernel
theorem ro_lt {h t : Nat} (hh : h < 64) (ht : t < 64) : ro h t < 729 := by
  have := rck_all h hh t ht
  unfold rck at this
  rw [Bool.and_eq_true] at this
  have := Nat.le_of_ble_eq_true this.1
  omega
theorem ro_dec {h t : Nat} (hh : h < 64) (ht : t < 64) (hd : h &&& t = 0) : rdH (ro h t) = h ∧ rdT (ro h t) = t := by
  have := rck_all h hh t ht
  unfold rck at this
  rw [Bool.and_eq_true, Bool.or_eq_true] at this
  rcases this.2 with q | q
  · have e : Nat.beq (Nat.land h t) 0 = true := by
      rw [show Nat.land h t = 0 from hd]; rfl
    rw [e] at q; cases q
  · rw [Bool.and_eq_true] at q
    exact ⟨Nat.eq_of_beq_eq_true q.1, Nat.eq_of_beq_eq_true q.2⟩
theorem ro_inj {h t h' t' : Nat} (hh : h < 64) (ht : t < 64) (hd : h &&& t = 0) (hh' : h' < 64) (ht' : t' < 64) (hd' : h' &&& t' = 0) (e : ro h t = ro h' t') : h = h' ∧ t = t' := by
  have q1 := ro_dec hh ht hd
  have q2 := ro_dec hh' ht' hd'
  rw [e] at q1
  exact ⟨q1.1.symm.trans q2.1, q1.2.symm.trans q2.2⟩
theorem ro_nd {h t : Nat} : ro h t = ro h (ndN t h) := by
  unfold ro
  have : ndN (ndN t h) h = ndN t h := by
    apply Nat.eq_of_testBit_eq
    intro i
    rw [ndN_tb, ndN_tb]
    cases t.testBit i <;> cases h.testBit i <;> rfl
  rw [this]
theorem nd_dis (h t : Nat) : h &&& ndN t h = 0 := by
  rw [and_0]
  intro i hi
  rw [ndN_tb, hi]
  simp
theorem pc_5 : ∀ h, h < 64 → ∀ i, i < 6 → h.testBit i = false → cn16 h ≤ 5 := by decide +kernel
theorem pc_6 : ∀ h, h < 64 → cn16 h ≤ 6 := by decide +kernel
theorem pc_s : ∀ t, t < 64 → ∀ i, i < 6 → t.testBit i = false → cn16 (t ||| 2 ^ i) = cn16 t + 1 := by decide +kernel
def clN (nd : Nat → Nat → Nat) (h t j : Nat) : Nat := match j with
  | 0 => nd h t
  | j + 1 => if (h ||| t).testBit j = true then clN nd h t j else (if clN nd h t j < nd h (t ||| 2 ^ j) then nd h (t ||| 2 ^ j) else clN nd h t j)
def clP (m K : Nat) (nd : Nat → Nat → Nat) (h t : Nat) : Nat := if cn16 t < K then clN nd h t m else nd h t
def ahN (fe cl : Nat → Nat → Nat) (h t j : Nat) : Nat := match j with
  | 0 => cl h t
  | j + 1 => if (h ||| t).testBit j = true then ahN fe cl h t j else (if fe j (cn16 h) + cl (h ||| 2 ^ j) t < ahN fe cl h t j then fe j (cn16 h) + cl (h ||| 2 ^ j) t else ahN fe cl h t j)
def ndD (m K : Nat) (fe : Nat → Nat → Nat) (la : Nat → Nat) (n : Nat) : Nat → Nat → Nat := match n with
  | 0 => fun h _ => la h
  | n + 1 => fun h t => ahN fe (clP m K (ndD m K fe la n)) h t m
theorem clN_le {nd : Nat → Nat → Nat} {h t j p : Nat} : clN nd h t j ≤ p ↔ nd h t ≤ p ∧ ∀ i, i < j → ¬ (h ||| t).testBit i = true → nd h (t ||| 2 ^ i) ≤ p := by
  induction j with
  | zero => exact ⟨fun q => ⟨q, fun i hi => by omega⟩, fun q => q.1⟩
  | succ j ih =>
    show (if (h ||| t).testBit j = true then clN nd h t j else (if clN nd h t j < nd h (t ||| 2 ^ j) then nd h (t ||| 2 ^ j) else clN nd h t j)) ≤ p ↔ _
    by_cases q : (h ||| t).testBit j = true
    · rw [if_pos q, ih]
      constructor
      · rintro ⟨h1, h2⟩
        refine ⟨h1, fun i hi hb => ?_⟩
        by_cases e : i = j
        · subst e; exact absurd q hb
        · exact h2 i (by omega) hb
      · rintro ⟨h1, h2⟩
        exact ⟨h1, fun i hi => h2 i (by omega)⟩
    · rw [if_neg q]
      have e1 : (if clN nd h t j < nd h (t ||| 2 ^ j) then nd h (t ||| 2 ^ j) else clN nd h t j) ≤ p ↔ clN nd h t j ≤ p ∧ nd h (t ||| 2 ^ j) ≤ p := by
        split <;> omega
      rw [e1, ih]
      constructor
      · rintro ⟨⟨h1, h2⟩, h3⟩
        refine ⟨h1, fun i hi hb => ?_⟩
        by_cases e : i = j
        · subst e; exact h3
        · exact h2 i (by omega) hb
      · rintro ⟨h1, h2⟩
        exact ⟨⟨h1, fun i hi => h2 i (by omega)⟩, h2 j (by omega) q⟩
theorem ahN_le {cl : Nat → Nat → Nat} {h t j p : Nat} : ahN fe cl h t j ≤ p ↔ cl h t ≤ p ∨ ∃ i, i < j ∧ ¬ (h ||| t).testBit i = true ∧ fe i (cn16 h) + cl (h ||| 2 ^ i) t ≤ p := by
  induction j with
  | zero => exact ⟨fun q => Or.inl q, fun q => q.elim id (fun ⟨i, hi, _⟩ => by omega)⟩
  | succ j ih =>
    show (if (h ||| t).testBit j = true then ahN fe cl h t j else (if fe j (cn16 h) + cl (h ||| 2 ^ j) t < ahN fe cl h t j then fe j (cn16 h) + cl (h ||| 2 ^ j) t else ahN fe cl h t j)) ≤ p ↔ _
    by_cases q : (h ||| t).testBit j = true
    · rw [if_pos q, ih]
      constructor
      · rintro (h1 | ⟨i, h1, h2, h3⟩)
        · exact Or.inl h1
        · exact Or.inr ⟨i, by omega, h2, h3⟩
      · rintro (h1 | ⟨i, h1, h2, h3⟩)
        · exact Or.inl h1
        · by_cases e : i = j
          · subst e; exact absurd q h2
          · exact Or.inr ⟨i, by omega, h2, h3⟩
    · rw [if_neg q]
      have e1 : (if fe j (cn16 h) + cl (h ||| 2 ^ j) t < ahN fe cl h t j then fe j (cn16 h) + cl (h ||| 2 ^ j) t else ahN fe cl h t j) ≤ p ↔ ahN fe cl h t j ≤ p ∨ fe j (cn16 h) + cl (h ||| 2 ^ j) t ≤ p := by
        split <;> omega
      rw [e1, ih]
      constructor
      · rintro ((h1 | ⟨i, h1, h2, h3⟩) | h4)
        · exact Or.inl h1
        · exact Or.inr ⟨i, by omega, h2, h3⟩
        · exact Or.inr ⟨j, by omega, q, h4⟩
      · rintro (h1 | ⟨i, h1, h2, h3⟩)
        · exact Or.inl (Or.inl h1)
        · by_cases e : i = j
          · subst e; exact Or.inr h3
          · exact Or.inl (Or.inr ⟨i, by omega, h2, h3⟩)
theorem clP_6 {nd : Nat → Nat → Nat} {h t : Nat} (hn : ∀ h t, nd h t ≤ 1000000) : clP m K nd h t ≤ 1000000 := by
  unfold clP
  split
  · exact clN_le.mpr ⟨hn _ _, fun i _ _ => hn _ _⟩
  · exact hn _ _
theorem ndD_6 (hla : ∀ h, la h ≤ 1000000) : ∀ n h t, ndD m K fe la n h t ≤ 1000000 := by
  intro n
  induction n with
  | zero => intro h t; exact hla h
  | succ n ih => intro h t; exact ahN_le.mpr (Or.inl (clP_6 ih))
/-- a row of the class holds nd -/
def cN (m K : Nat) (nd : Nat → Nat → Nat) (r : Nat → Int32) : Prop := ∀ h t, h < 2 ^ m → t < 2 ^ m → h &&& t = 0 → cn16 t ≤ K → r (ro h t) = nI (nd h t)
theorem c_feeAt {i mn : Nat} {Ψ : Int32 → Me → Prop} (hf : ∀ i, i < m → ∀ mn, mn < 6 → μ.1 77 (i * 6 + mn) = nI (fe i mn)) (hm6 : m ≤ 6) (hi : i < m) (hmn : mn < 6) (h : Ψ (nI (fe i mn)) μ) : VI N 1 mX2_feeAt [.ref 75, .int (nI i), .int (nI mn)] μ Ψ := by
  have r := hf i hi mn hmn
  have g : ¬ 36 ≤ i * 6 + mn := by omega
  refine tX2_feeAt_0 ?_
  simp (disch := omega) only [lit, Nat.add_sub_cancel, Nat.not_lt_zero, ↓m1_mI, nI_add, pk_mul, nx_and, nx_or, and31, sh_r, sh_1, nx_nand, Nat.and_one_is_mod, nI_clamp, nI_leI, nI_ltI, nI_eq, tb_1, vp_t, up2_a, up2_b, up2_c, br_1, br_0, true_and, and_true, mI_ne, mI_ne', mI_lt, mI_le, mI_nle, mI_nlt, pk_sub, mI_sub, eq_false g, r]
  exact ⟨_, rfl, h⟩
section
variable {nd : Nat → Nat → Nat} {h t : Nat} {Ψ : Int32 → Me → Prop}
theorem c_behind (h78 : ∀ b, b < 64 → μ.1 78 b = nI (sprN 6 b)) (h75 : μ.1 75 0 = nI m) (hm6 : m ≤ 6) (hK : K ≤ 2) (hnd : ∀ h t, nd h t ≤ 1000000) (hr : cN m K nd (μ.1 80)) (hh : h < 2 ^ m) (ht : t < 2 ^ m) (hd : h &&& t = 0) (hpc : cn16 t ≤ K) (k : Ψ (nI (clP m K nd h t)) μ) : VI N 2 mX2_behindStrike [.ref 75, .int (nI h), .int (nI t), .int (nI K)] μ Ψ := by
  have hp : 2 ^ m ≤ 2 ^ 6 := Nat.pow_le_pow_right (by decide) hm6
  have h64 : h < 64 := by omega
  have t64 : t < 64 := by omega
  have hro := ro_lt h64 t64
  have r0 := hr h t hh ht hd hpc
  have b0 := hnd h t
  refine tX2_behindStrike_0 (c_rowOf h78 h64 t64 ?_)
  simp (disch := omega) only [lit, Nat.add_sub_cancel, Nat.not_lt_zero, ↓m1_mI, nI_add, pk_mul, nx_and, nx_or, and31, sh_r, sh_1, nx_nand, Nat.and_one_is_mod, nI_clamp, nI_leI, nI_ltI, nI_eq, tb_1, vp_t, up2_a, up2_b, up2_c, br_1, br_0, true_and, and_true, mI_ne, mI_ne', mI_lt, mI_le, mI_nle, mI_nlt, pk_sub, mI_sub, r0]
  refine c_bc (by omega) ?_
  have hp6 := pc_6 t t64
  unfold clP at k
  simp (disch := omega) only [lit, Nat.add_sub_cancel, Nat.not_lt_zero, ↓m1_mI, nI_add, pk_mul, nx_and, nx_or, and31, sh_r, sh_1, nx_nand, Nat.and_one_is_mod, nI_clamp, nI_leI, nI_ltI, nI_eq, tb_1, vp_t, up2_a, up2_b, up2_c, br_1, br_0, true_and, and_true, mI_ne, mI_ne', mI_lt, mI_le, mI_nle, mI_nlt, pk_sub, mI_sub]
  refine ⟨fun q => ⟨_, rfl, ?_⟩, fun q => ?_⟩
  · rw [if_neg (by omega)] at k; exact k
  · rw [if_pos (by omega)] at k
    refine vb_up (fun i => [.ref 75, .int (nI h), .int (nI t), .null, .int (nI (clN nd h t i)), .int (nI i)]) (fun _ => μ) m (fun i hi Kn => ?_) ?_
    · have g1 : ¬ m ≤ i := by omega
      have hpi : 2 ^ i < 64 := p2_lt (m := 6) (by omega)
      have hor : h ||| t < 64 := Nat.or_lt_two_pow (n := 6) h64 t64
      have han : (h ||| t) &&& 2 ^ i < 2 ^ 31 := Nat.lt_of_le_of_lt Nat.and_le_left (by omega)
      have hb : (h ||| t) &&& 2 ^ i = 0 ↔ ¬ (h ||| t).testBit i = true := by
        rw [Nat.and_comm, and_0]
        constructor
        · intro z y
          have := z i (by rw [Nat.testBit_two_pow]; simp)
          rw [y] at this; cases this
        · intro z j hj
          rw [Nat.testBit_two_pow, decide_eq_true_iff] at hj
          subst hj
          exact eq_false_of_ne_true z
      have bcl : clN nd h t i ≤ 1000000 := clN_le.mpr ⟨hnd _ _, fun _ _ _ => hnd _ _⟩
      have es : clN nd h t (i + 1) = if (h ||| t).testBit i = true then clN nd h t i else (if clN nd h t i < nd h (t ||| 2 ^ i) then nd h (t ||| 2 ^ i) else clN nd h t i) := rfl
      refine tX2_behindStrike_24 ?_
      simp (disch := omega) only [lit, Nat.add_sub_cancel, Nat.not_lt_zero, ↓m1_mI, nI_add, pk_mul, nx_and, nx_or, and31, sh_r, sh_1, nx_nand, Nat.and_one_is_mod, nI_clamp, nI_leI, nI_ltI, nI_eq, tb_1, vp_t, up2_a, up2_b, up2_c, br_1, br_0, true_and, and_true, mI_ne, mI_ne', mI_lt, mI_le, mI_nle, mI_nlt, pk_sub, mI_sub, h75, eq_false g1]
      refine ⟨fun z => ?_, fun z => ?_⟩
      · have zb := hb.mp z
        have zt : t.testBit i = false := eq_false_of_ne_true (fun y => zb (by rw [Nat.testBit_or, y, Bool.or_true]))
        have zh : h.testBit i = false := eq_false_of_ne_true (fun y => zb (by rw [Nat.testBit_or, y, Bool.true_or]))
        have t2 : t ||| 2 ^ i < 2 ^ m := Nat.or_lt_two_pow ht (p2_lt hi)
        have d2 : h &&& (t ||| 2 ^ i) = 0 := by
          rw [and_0] at hd ⊢
          intro j hj
          rw [Nat.testBit_or, hd j hj, Nat.testBit_two_pow, Bool.false_or]
          apply decide_eq_false
          intro y
          subst y
          rw [zh] at hj; cases hj
        have r1 := hr h (t ||| 2 ^ i) hh t2 d2 (by rw [pc_s t t64 i (by omega) zt]; omega)
        have b1 := hnd h (t ||| 2 ^ i)
        have hro1 := ro_lt h64 (show t ||| 2 ^ i < 64 by omega)
        rw [es, if_neg zb] at Kn
        refine c_rowOf h78 h64 (by omega) ?_
        simp (disch := omega) only [lit, Nat.add_sub_cancel, Nat.not_lt_zero, ↓m1_mI, nI_add, pk_mul, nx_and, nx_or, and31, sh_r, sh_1, nx_nand, Nat.and_one_is_mod, nI_clamp, nI_leI, nI_ltI, nI_eq, tb_1, vp_t, up2_a, up2_b, up2_c, br_1, br_0, true_and, and_true, mI_ne, mI_ne', mI_lt, mI_le, mI_nle, mI_nlt, pk_sub, mI_sub, r1]
        by_cases y : clN nd h t i < nd h (t ||| 2 ^ i)
        · rw [if_pos y] at Kn ⊢; exact Kn
        · rw [if_neg y] at Kn ⊢; exact Kn
      · have zb : (h ||| t).testBit i = true := Classical.byContradiction (fun y => z (hb.mpr y))
        rw [es, if_pos zb] at Kn
        exact Kn
    · refine tX2_behindStrike_24 ?_
      simp (disch := omega) only [lit, Nat.add_sub_cancel, Nat.not_lt_zero, ↓m1_mI, nI_add, pk_mul, nx_and, nx_or, and31, sh_r, sh_1, nx_nand, Nat.and_one_is_mod, nI_clamp, nI_leI, nI_ltI, nI_eq, tb_1, vp_t, up2_a, up2_b, up2_c, br_1, br_0, true_and, and_true, mI_ne, mI_ne', mI_lt, mI_le, mI_nle, mI_nlt, pk_sub, mI_sub, h75, Nat.le_refl]
      exact ⟨_, rfl, k⟩
theorem c_ahead (h78 : ∀ b, b < 64 → μ.1 78 b = nI (sprN 6 b)) (h75 : μ.1 75 0 = nI m) (hf : ∀ i, i < m → ∀ mn, mn < 6 → μ.1 77 (i * 6 + mn) = nI (fe i mn)) (hfe : ∀ i mn, fe i mn ≤ 9999) (hm6 : m ≤ 6) (hnd : ∀ h t, nd h t ≤ 1000000) (hr : cN m K nd (μ.1 81)) (hh : h < 2 ^ m) (ht : t < 2 ^ m) (hd : h &&& t = 0) (hpc : cn16 t ≤ K) (k : Ψ (nI (ahN fe nd h t m)) μ) : VI N 2 mX2_aheadOfCall [.ref 75, .int (nI h), .int (nI t)] μ Ψ := by
  have hp : 2 ^ m ≤ 2 ^ 6 := Nat.pow_le_pow_right (by decide) hm6
  have h64 : h < 64 := by omega
  have t64 : t < 64 := by omega
  have hro := ro_lt h64 t64
  have r0 := hr h t hh ht hd hpc
  have b0 := hnd h t
  refine tX2_aheadOfCall_0 (c_rowOf h78 h64 t64 ?_)
  simp (disch := omega) only [lit, Nat.add_sub_cancel, Nat.not_lt_zero, ↓m1_mI, nI_add, pk_mul, nx_and, nx_or, and31, sh_r, sh_1, nx_nand, Nat.and_one_is_mod, nI_clamp, nI_leI, nI_ltI, nI_eq, tb_1, vp_t, up2_a, up2_b, up2_c, br_1, br_0, true_and, and_true, mI_ne, mI_ne', mI_lt, mI_le, mI_nle, mI_nlt, pk_sub, mI_sub, r0]
  refine vb_up (fun i => [.ref 75, .int (nI h), .int (nI t), .int (nI (ahN fe nd h t i)), .int (nI i)]) (fun _ => μ) m (fun i hi Kn => ?_) ?_
  · have g1 : ¬ m ≤ i := by omega
    have hpi : 2 ^ i < 64 := p2_lt (m := 6) (by omega)
    have hor : h ||| t < 64 := Nat.or_lt_two_pow (n := 6) h64 t64
    have han : (h ||| t) &&& 2 ^ i < 2 ^ 31 := Nat.lt_of_le_of_lt Nat.and_le_left (by omega)
    have hb : (h ||| t) &&& 2 ^ i = 0 ↔ ¬ (h ||| t).testBit i = true := by
      rw [Nat.and_comm, and_0]
      constructor
      · intro z y
        have := z i (by rw [Nat.testBit_two_pow]; simp)
        rw [y] at this; cases this
      · intro z j hj
        rw [Nat.testBit_two_pow, decide_eq_true_iff] at hj
        subst hj
        exact eq_false_of_ne_true z
    have bah : ahN fe nd h t i ≤ 1000000 := ahN_le.mpr (Or.inl (hnd _ _))
    have es : ahN fe nd h t (i + 1) = if (h ||| t).testBit i = true then ahN fe nd h t i else (if fe i (cn16 h) + nd (h ||| 2 ^ i) t < ahN fe nd h t i then fe i (cn16 h) + nd (h ||| 2 ^ i) t else ahN fe nd h t i) := rfl
    refine tX2_aheadOfCall_15 ?_
    simp (disch := omega) only [lit, Nat.add_sub_cancel, Nat.not_lt_zero, ↓m1_mI, nI_add, pk_mul, nx_and, nx_or, and31, sh_r, sh_1, nx_nand, Nat.and_one_is_mod, nI_clamp, nI_leI, nI_ltI, nI_eq, tb_1, vp_t, up2_a, up2_b, up2_c, br_1, br_0, true_and, and_true, mI_ne, mI_ne', mI_lt, mI_le, mI_nle, mI_nlt, pk_sub, mI_sub, h75, eq_false g1]
    refine ⟨fun z => ?_, fun z => ?_⟩
    · have zb := hb.mp z
      have zt : t.testBit i = false := eq_false_of_ne_true (fun y => zb (by rw [Nat.testBit_or, y, Bool.or_true]))
      have zh : h.testBit i = false := eq_false_of_ne_true (fun y => zb (by rw [Nat.testBit_or, y, Bool.true_or]))
      have h2 : h ||| 2 ^ i < 2 ^ m := Nat.or_lt_two_pow hh (p2_lt hi)
      have d2 : (h ||| 2 ^ i) &&& t = 0 := by
        rw [Nat.and_comm] at hd ⊢
        rw [and_0] at hd ⊢
        intro j hj
        rw [Nat.testBit_or, hd j hj, Nat.testBit_two_pow, Bool.false_or]
        apply decide_eq_false
        intro y
        subst y
        rw [zt] at hj; cases hj
      have r1 := hr (h ||| 2 ^ i) t h2 ht d2 hpc
      have b1 := hnd (h ||| 2 ^ i) t
      have hro1 := ro_lt (show h ||| 2 ^ i < 64 by omega) t64
      have p5 := pc_5 h h64 i (by omega) zh
      have f1 := hfe i (cn16 h)
      rw [es, if_neg zb] at Kn
      refine c_bc (by omega) ?_
      refine c_feeAt hf hm6 hi (by omega) ?_
      refine c_rowOf h78 (by omega) t64 ?_
      simp (disch := omega) only [lit, Nat.add_sub_cancel, Nat.not_lt_zero, ↓m1_mI, nI_add, pk_mul, nx_and, nx_or, and31, sh_r, sh_1, nx_nand, Nat.and_one_is_mod, nI_clamp, nI_leI, nI_ltI, nI_eq, tb_1, vp_t, up2_a, up2_b, up2_c, br_1, br_0, true_and, and_true, mI_ne, mI_ne', mI_lt, mI_le, mI_nle, mI_nlt, pk_sub, mI_sub, r1]
      by_cases y : fe i (cn16 h) + nd (h ||| 2 ^ i) t < ahN fe nd h t i
      · rw [if_pos y] at Kn ⊢; exact Kn
      · rw [if_neg y] at Kn ⊢; exact Kn
    · have zb : (h ||| t).testBit i = true := Classical.byContradiction (fun y => z (hb.mpr y))
      rw [es, if_pos zb] at Kn
      exact Kn
  · refine tX2_aheadOfCall_15 ?_
    simp (disch := omega) only [lit, Nat.add_sub_cancel, Nat.not_lt_zero, ↓m1_mI, nI_add, pk_mul, nx_and, nx_or, and31, sh_r, sh_1, nx_nand, Nat.and_one_is_mod, nI_clamp, nI_leI, nI_ltI, nI_eq, tb_1, vp_t, up2_a, up2_b, up2_c, br_1, br_0, true_and, and_true, mI_ne, mI_ne', mI_lt, mI_le, mI_nle, mI_nlt, pk_sub, mI_sub, h75, Nat.le_refl]
    exact ⟨_, rfl, k⟩
end
end DP
