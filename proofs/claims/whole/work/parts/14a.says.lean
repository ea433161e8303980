/-! what a witness says and takes, by both sides -/
section SY
variable {N : Nat} {μ : Me} {B T : Nat → Nat}
def fnd (n : Nat) (p : Nat → Bool) : Nat := match n with
  | 0 => 0
  | n + 1 => if fnd n p < n then fnd n p else if p n = true then n else n + 1
theorem fnd_le (n : Nat) (p : Nat → Bool) : fnd n p ≤ n := by
  induction n with
  | zero => exact Nat.le_refl _
  | succ n ih =>
    show (if fnd n p < n then fnd n p else if p n = true then n else n + 1) ≤ n + 1
    split
    · omega
    · split <;> omega
theorem fnd_no {n : Nat} {p : Nat → Bool} : ∀ j, j < fnd n p → j < n → p j = false := by
  induction n with
  | zero => intro j _ h; omega
  | succ n ih =>
    intro j
    have hl := fnd_le n p
    show j < (if fnd n p < n then fnd n p else if p n = true then n else n + 1) → _
    split
    · intro h1 h2; exact ih j h1 (by omega)
    · split
      · intro h1 h2; exact ih j (by omega) (by omega)
      · rename_i h3 h4
        intro h1 h2
        by_cases e : j = n
        · subst e; simpa using h4
        · exact ih j (by omega) (by omega)
theorem fnd_sp {n : Nat} {p : Nat → Bool} : fnd n p < n → p (fnd n p) = true := by
  induction n with
  | zero => intro h; omega
  | succ n ih =>
    show (if fnd n p < n then fnd n p else if p n = true then n else n + 1) < n + 1 → p (if fnd n p < n then fnd n p else if p n = true then n else n + 1) = true
    split
    · rename_i h; intro _; exact ih h
    · split
      · rename_i h; intro _; exact h
      · intro h; omega
theorem fnd_eq {n k : Nat} {p : Nat → Bool} (hk : k < n) (hp : p k = true) (hn : ∀ j, j < k → p j = false) : fnd n p = k := by
  rcases Nat.lt_trichotomy (fnd n p) k with h | h | h
  · have := fnd_sp (show fnd n p < n by omega)
    rw [hn _ h] at this
    cases this
  · exact h
  · have := fnd_no k h hk
    rw [hp] at this
    cases this
def lk (T : Nat → Nat) (s : Nat) : Nat := fnd (T 0) (fun k => decide (fl T k 0 = s))
theorem lk_sp {s : Nat} (h : lk T s < T 0) : fl T (lk T s) 0 = s := of_decide_eq_true (fnd_sp h)
theorem lk_no {s : Nat} (h : ¬ lk T s < T 0) {k : Nat} (hk : k < T 0) : fl T k 0 ≠ s := of_decide_eq_false (fnd_no (p := fun k => decide (fl T k 0 = s)) k (by unfold lk at h; omega) hk)
theorem lk_lt {s j : Nat} (h : j < lk T s) : fl T j 0 ≠ s := of_decide_eq_false (fnd_no (p := fun k => decide (fl T k 0 = s)) j h (by have := fnd_le (T 0) (fun k => decide (fl T k 0 = s)); unfold lk at h; omega))
def nmP (B : Nat → Nat) (w kd mn f : Nat) (v : Nat) : Int := if v = 0 then w else if v = 1 then kd else if v = 2 then B (10 + 5 * w + 2) else if v = 3 then B 2 else if v = 4 then B (10 + 5 * w + 3) else if v = 5 then mn else f
def saysP (B T : Nat → Nat) (w kd : Nat) : Nat := bits 16 (fun f => if (B (10 + 5 * w)).testBit f = true then (if lk T 1 < T 0 then decide (valP T (nmP B w kd 0 f) (lk T 1) = 0) else true) else (if lk T 2 < T 0 then decide (valP T (nmP B w kd 0 f) (lk T 2) ≠ 0) else false))
def feeP (B T : Nat → Nat) (w mn : Nat) : Nat := if lk T 0 < T 0 then (if valP T (nmP B w (B (10 + 5 * w + 1)) mn 0) (lk T 0) < 0 then 0 else if 9999 < valP T (nmP B w (B (10 + 5 * w + 1)) mn 0) (lk T 0) then 9999 else (valP T (nmP B w (B (10 + 5 * w + 1)) mn 0) (lk T 0)).toNat) else B (10 + 5 * w + 3)
theorem saysP_lt (B T : Nat → Nat) (w kd : Nat) : saysP B T w kd < 65536 := bits_lt 16 _
theorem feeP_le (hW : WB B) {w mn : Nat} (hw : w < B 0) : feeP B T w mn ≤ 9999 := by
  have := hW.w hw
  unfold feeP
  repeat' split
  all_goals omega
def scE : List Nat := [82, 50, 96, 107, 118, 129]
theorem scE_10 {r : Nat} (h : isL5 r) : r + 10 ∈ scE := by
  rcases h with rfl | rfl | rfl | rfl | rfl <;> decide
theorem nmP_sm {w kd mn f v : Nat} (hW : WB B) (hw : w < B 0) (hk : kd < 4) (hm : mn ≤ 10) (hf : f < 16) : smI (nmP B w kd mn f v) := by
  have h1 := hW.w hw
  have h2 := hW.n
  unfold smI nmP
  repeat' split
  all_goals omega
/-! the class -/
section
variable {r : Nat} {Ψ : Int32 → Me → Prop}
theorem c_hasL {s : Nat} (h5 : isL5 r) (hL : LW T r μ.1) (wT : WT T) (hs : s < 3) (h1 : lk T s < T 0 → Ψ 1 μ) (h0 : ¬ lk T s < T 0 → Ψ 0 μ) : VI N 1 mX5_has [.ref r, .int (nI s)] μ Ψ := by
  refine tX5_has_0 (by unfold isL5 at h5; omega) ?_
  have g1 : ¬ 3 ≤ s := by omega
  by_cases h : lk T s < T 0
  · have hs' := lk_sp h
    have e := (hL.2.1 _ h (by omega)).1
    rw [hs'] at e
    have hb : fl T (lk T s) 1 < 65536 := wT.1.1 _
    simp (disch := omega) only [lit, Nat.add_sub_cancel, Nat.not_lt_zero, ↓m1_mI, nI_add, pk_mul, nx_and, nx_or, and31, sh_r, sh_1, nx_nand, Nat.and_one_is_mod, nI_clamp, nI_leI, nI_ltI, nI_eq, tb_1, vp_t, up2_a, up2_b, up2_c, br_1, br_0, true_and, and_true, mI_ne, mI_ne', mI_lt, mI_le, mI_nle, mI_nlt, pk_sub, mI_sub, eq_false g1, e]
    exact ⟨_, rfl, h1 h⟩
  · have e := hL.2.2.1 s hs (fun k hk => lk_no h hk)
    simp (disch := omega) only [lit, Nat.add_sub_cancel, Nat.not_lt_zero, ↓m1_mI, nI_add, pk_mul, nx_and, nx_or, and31, sh_r, sh_1, nx_nand, Nat.and_one_is_mod, nI_clamp, nI_leI, nI_ltI, nI_eq, tb_1, vp_t, up2_a, up2_b, up2_c, br_1, br_0, true_and, and_true, mI_ne, mI_ne', mI_lt, mI_le, mI_nle, mI_nlt, pk_sub, mI_sub, eq_false g1, e]
    exact ⟨_, rfl, h0 h⟩
theorem c_lawV {s w kd mn f : Nat} (h5 : isL5 r) (hL : LW T r μ.1) (wT : WT T) (hW : WB B) (hw : w < B 0) (hk : kd < 4) (hm : mn ≤ 10) (hf : f < 16) (hs : s < 3) (h : lk T s < T 0) (hnm : ∀ v, v < 7 → (s = 0 → v ≠ 6) → (s ≠ 0 → v ≠ 4 ∧ v ≠ 5) → (μ.1 82 v).toInt = nmP B w kd mn f v) (K : ∀ (y : Int32) (μ' : Me), y.toInt = valP T (nmP B w kd mn f) (lk T s) → smI y.toInt → Ag [r + 10] μ.1 μ'.1 → Ψ y μ') : VI N 2 mX5_valueOf [.ref r, .int (nI s), .ref 82] μ Ψ := by
  have hs' := lk_sp h
  have h3 : fl T (lk T s) 0 ≠ 3 := by omega
  have := c_value (N := N) (μ := μ) (nm := nmP B w kd mn f) (Ψ := Ψ) h5 hL wT h h3 (fun i h1 h2 ho => ?_) K
  · rw [hs'] at this; exact this
  · obtain ⟨_, _, _, _, hit⟩ := wT.2.2.2 _ h h3
    have g := (hit i h1 h2).2 ho
    rw [hs'] at g
    exact ⟨hnm _ g.1 g.2.1 g.2.2, nmP_sm hW hw hk hm hf⟩
theorem c_spoken {w kd : Nat} (h5 : isL5 r) (hL : LW T r μ.1) (wT : WT T) (hW : WB B) (hw : w < B 0) (hk : kd < 4) (hnm : ∀ v, v < 4 → (μ.1 82 v).toInt = nmP B w kd 0 0 v) (K : ∀ μ' : Me, Ag scE μ.1 μ'.1 → Ψ (nI (saysP B T w kd)) μ') : VI N 3 mX5_spoken [.ref r, .ref 82, .int (nI (B (10 + 5 * w)))] μ Ψ := by
  have hB := (hW.w hw).1
  have h10 := scE_10 h5
  refine tX5_spoken_0 h5 ?_
  have Z := vb_for (N := N) (d := 3) (M := mX5_spoken) (hd := 5) (Ψ := fun r μ' => ∃ v, r = some (.int v) ∧ Ψ v μ') (τ := Me) (fun f _ => [.ref r, .ref 82, .int (nI (B (10 + 5 * w))), .int (nI (bits f (fun f => if (B (10 + 5 * w)).testBit f = true then (if lk T 1 < T 0 then decide (valP T (nmP B w kd 0 f) (lk T 1) = 0) else true) else (if lk T 2 < T 0 then decide (valP T (nmP B w kd 0 f) (lk T 2) ≠ 0) else false)))), .int (nI f)]) (fun _ ν => ν) 16 (fun _ ν => Ag [82, r + 10] μ.1 ν.1 ∧ ∀ v, v < 4 → ν.1 82 v = μ.1 82 v) ?_ ?_ 0 μ (by omega) ⟨Ag.rf, fun _ _ => rfl⟩
  · exact Z
  · intro f ν hf ⟨hA, h82⟩ K'
    have g1 : ¬ 16 ≤ f := by omega
    have hbl := lt31 (bits_lt f (fun f => if (B (10 + 5 * w)).testBit f = true then (if lk T 1 < T 0 then decide (valP T (nmP B w kd 0 f) (lk T 1) = 0) else true) else (if lk T 2 < T 0 then decide (valP T (nmP B w kd 0 f) (lk T 2) ≠ 0) else false))) (by omega)
    refine tX5_spoken_5 h5 ?_
    simp (disch := omega) only [lit, Nat.add_sub_cancel, Nat.not_lt_zero, ↓m1_mI, nI_add, pk_mul, nx_and, nx_or, and31, sh_r, sh_1, nx_nand, Nat.and_one_is_mod, nI_clamp, nI_leI, nI_ltI, nI_eq, tb_1, vp_t, up2_a, up2_b, up2_c, br_1, br_0, true_and, and_true, mI_ne, mI_ne', mI_lt, mI_le, mI_nle, mI_nlt, pk_sub, mI_sub, eq_false g1]
    have hA1 : Ag [82, r + 10] μ.1 (up2 ν.1 82 6 (nI f)) := hA.up (by simp)
    have hL1 : LW T r (((up2 ν.1 82 6 (nI f), ν.2) : Me).1) := hL.fr (fun a k1 k2 => hA1 a (by unfold isL5 at h5; simp; omega))
    have hn1 : ∀ s, s < 3 → s ≠ 0 → ∀ v, v < 7 → (s = 0 → v ≠ 6) → (s ≠ 0 → v ≠ 4 ∧ v ≠ 5) → ((((up2 ν.1 82 6 (nI f), ν.2) : Me).1) 82 v).toInt = nmP B w kd 0 f v := by
      intro s _ hs v hv _ h45
      have h45 := h45 hs
      show (up2 ν.1 82 6 (nI f) 82 v).toInt = _
      by_cases e : v = 6
      · subst e
        rw [up2_c, nI_toInt (by omega)]
        rfl
      · rw [up2_b e, h82 v (by omega), hnm v (by omega)]
        unfold nmP
        have : v = 0 ∨ v = 1 ∨ v = 2 ∨ v = 3 := by omega
        rcases this with rfl | rfl | rfl | rfl <;> rfl
    have fin : ∀ ν' : Me, Ag [82, r + 10] μ.1 ν'.1 → (∀ v, v < 4 → ν'.1 82 v = μ.1 82 v) → ∀ x : Int32, (x = 0 ↔ (if (B (10 + 5 * w)).testBit f = true then (if lk T 1 < T 0 then decide (valP T (nmP B w kd 0 f) (lk T 1) = 0) else true) else (if lk T 2 < T 0 then decide (valP T (nmP B w kd 0 f) (lk T 2) ≠ 0) else false)) = false) → VB N 3 mX5_spoken 87 [.ref r, .ref 82, .int (nI (B (10 + 5 * w))), .int (nI (bits f (fun f => if (B (10 + 5 * w)).testBit f = true then (if lk T 1 < T 0 then decide (valP T (nmP B w kd 0 f) (lk T 1) = 0) else true) else (if lk T 2 < T 0 then decide (valP T (nmP B w kd 0 f) (lk T 2) ≠ 0) else false)))), .int (nI f)] [.int x] ν' (fun r μ' => ∃ v, r = some (.int v) ∧ Ψ v μ') := by
      intro ν' q1 q2 x hx
      have Kn := K' ν' ⟨q1, q2⟩
      refine tX5_spoken_87 h5 ⟨fun e => ?_, fun e => ?_⟩
      · rw [← bits_f (fun h => Bool.false_ne_true ((hx.mp e).symm.trans h))] at Kn
        simp (disch := omega) only [lit, Nat.add_sub_cancel, Nat.not_lt_zero, ↓m1_mI, nI_add, pk_mul, nx_and, nx_or, and31, sh_r, sh_1, nx_nand, Nat.and_one_is_mod, nI_clamp, nI_leI, nI_ltI, nI_eq, tb_1, vp_t, up2_a, up2_b, up2_c, br_1, br_0, true_and, and_true, mI_ne, mI_ne', mI_lt, mI_le, mI_nle, mI_nlt, pk_sub, mI_sub]
        exact Kn
      · rw [← bits_t (eq_true_of_ne_false (fun h => e (hx.mpr h)))] at Kn
        simp (disch := omega) only [lit, Nat.add_sub_cancel, Nat.not_lt_zero, ↓m1_mI, nI_add, pk_mul, nx_and, nx_or, and31, sh_r, sh_1, nx_nand, Nat.and_one_is_mod, nI_clamp, nI_leI, nI_ltI, nI_eq, tb_1, vp_t, up2_a, up2_b, up2_c, br_1, br_0, true_and, and_true, mI_ne, mI_ne', mI_lt, mI_le, mI_nle, mI_nlt, pk_sub, mI_sub]
        exact Kn
    have hA2 : ∀ ν' : Me, Ag [r + 10] (up2 ν.1 82 6 (nI f)) ν'.1 → Ag [82, r + 10] μ.1 ν'.1 ∧ ∀ v, v < 4 → ν'.1 82 v = μ.1 82 v := by
      intro ν' q
      refine ⟨hA1.tr (q.mono (by simp)), fun v hv => ?_⟩
      rw [q 82 (by unfold isL5 at h5; simp; omega), up2_b (by omega), h82 v hv]
    have hA3 := hA2 (up2 ν.1 82 6 (nI f), ν.2) Ag.rf
    refine ⟨fun e => ?_, fun e => ?_⟩
    · refine tX5_spoken_33 h5 ⟨fun e => absurd e (by decide), fun _ => vi_b (fun Ψ => c_hasL h5 hL1 wT (by decide)) (fun g => ?_) (fun g => tX5_spoken_57 h5 (fin _ hA3.1 hA3.2 _ ?_))⟩
      · refine c_lawV (mn := 0) h5 hL1 wT hW hw hk (by omega) hf (by decide) g (hn1 1 (by decide) (by decide)) (fun y ν' hy _ hAy => ?_)
        have hA4 := hA2 ν' hAy
        refine ⟨fun ey => tX5_spoken_57 h5 (fin _ hA4.1 hA4.2 _ ?_), fun ey => fin _ hA4.1 hA4.2 _ ?_⟩
        · have : valP T (nmP B w kd 0 f) (lk T 1) = 0 := by rw [← hy, ey]; decide
          rw [if_pos e, if_pos g]; simp [this]
        · have : ¬ valP T (nmP B w kd 0 f) (lk T 1) = 0 := by rw [← hy]; exact fun h => ey (i_eq.mpr (h.trans i_0.symm))
          rw [if_pos e, if_pos g]; simp [this]
      · rw [if_pos e, if_neg g]; decide
    · refine tX5_spoken_33 h5 ⟨fun _ => vi_b (fun Ψ => c_hasL h5 hL1 wT (by decide)) (fun g => ?_) (fun g => tX5_spoken_86 h5 (fin _ hA3.1 hA3.2 _ ?_)), fun e => absurd rfl e⟩
      · refine c_lawV (mn := 0) h5 hL1 wT hW hw hk (by omega) hf (by decide) g (hn1 2 (by decide) (by decide)) (fun y ν' hy _ hAy => ?_)
        have hA4 := hA2 ν' hAy
        refine ⟨fun ey => tX5_spoken_86 h5 (fin _ hA4.1 hA4.2 _ ?_), fun ey => fin _ hA4.1 hA4.2 _ ?_⟩
        · have : valP T (nmP B w kd 0 f) (lk T 2) = 0 := by rw [← hy, ey]; decide
          rw [if_neg e, if_pos g]; simp [this]
        · have : ¬ valP T (nmP B w kd 0 f) (lk T 2) = 0 := by rw [← hy]; exact fun h => ey (i_eq.mpr (h.trans i_0.symm))
          rw [if_neg e, if_pos g]; simp [this]
      · rw [if_neg e, if_neg g]; decide
  · intro ν ⟨hA, _⟩
    refine tX5_spoken_5 h5 ?_
    simp (disch := omega) only [lit, Nat.add_sub_cancel, Nat.not_lt_zero, ↓m1_mI, nI_add, pk_mul, nx_and, nx_or, and31, sh_r, sh_1, nx_nand, Nat.and_one_is_mod, nI_clamp, nI_leI, nI_ltI, nI_eq, tb_1, vp_t, up2_a, up2_b, up2_c, br_1, br_0, true_and, and_true, mI_ne, mI_ne', mI_lt, mI_le, mI_nle, mI_nlt, pk_sub, mI_sub, Nat.le_refl]
    exact ⟨_, rfl, K ν (hA.mono (by intro a ha; simp at ha; rcases ha with rfl | rfl; decide; exact h10))⟩
end
end SY
