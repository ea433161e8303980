/-! chains: the pure side; how many bits -/
section CP
variable {T e : Nat → Nat} {g : Nat}
def rsP (T e : Nat → Nat) (f : Nat) : Nat := if e f = shP T e 99 f then 99 else fnd (T 0) (fun k => isR T k && (decide (fl T k 1 = f) && decide (stg T (shP T e 99) 99 k = shP T e 99 f)))
def ndP (T e : Nat → Nat) (f : Nat) : Nat := if rsP T e f = 99 then 0 else fl T (rsP T e f) 4
theorem sh_ge (wT : WT T) {f : Nat} (hf : f < 16) : e f ≤ shP T e 99 f := by
  rcases Nat.eq_zero_or_pos (e f) with h | h
  · omega
  · exact (shP_le wT hf h).mpr (Or.inl (Nat.le_refl _))
theorem stg_sh (wT : WT T) {k : Nat} (hk : k < T 0) (hr : fl T k 0 = 3) : stg T (shP T e 99) 99 k ≤ shP T e 99 (fl T k 1) := by
  have hw := wT.2.1 k hk hr
  rcases Nat.eq_zero_or_pos (stg T (shP T e 99) 99 k) with h | h
  · omega
  · exact (shP_le wT hw.1 h).mpr (Or.inr ⟨k, hk, hr, rfl, Nat.le_refl _⟩)
theorem rsP_sp (wT : WT T) {f : Nat} (hf : f < 16) (h : ¬ e f = shP T e 99 f) : rsP T e f < T 0 ∧ fl T (rsP T e f) 0 = 3 ∧ fl T (rsP T e f) 1 = f ∧ stg T (shP T e 99) 99 (rsP T e f) = shP T e 99 f ∧ ∀ j, j < rsP T e f → ¬ (fl T j 0 = 3 ∧ fl T j 1 = f ∧ stg T (shP T e 99) 99 j = shP T e 99 f) := by
  have hge := sh_ge (e := e) wT hf
  have hpos : 1 ≤ shP T e 99 f := by omega
  have := (shP_le wT hf hpos).mp (Nat.le_refl _)
  have e1 : rsP T e f = fnd (T 0) (fun k => isR T k && (decide (fl T k 1 = f) && decide (stg T (shP T e 99) 99 k = shP T e 99 f))) := by unfold rsP; rw [if_neg h]
  have hlt : rsP T e f < T 0 := by
    rcases this with q | ⟨k, q1, q2, q3, q4⟩
    · omega
    · have q5 := stg_sh (e := e) wT q1 q2
      rw [q3] at q5
      rw [e1]
      rcases Nat.lt_or_ge (fnd (T 0) (fun k => isR T k && (decide (fl T k 1 = f) && decide (stg T (shP T e 99) 99 k = shP T e 99 f)))) (T 0) with z | z
      · exact z
      · have y := fnd_no (n := T 0) (p := fun k => isR T k && (decide (fl T k 1 = f) && decide (stg T (shP T e 99) 99 k = shP T e 99 f))) k (by omega) q1
        rw [isR_iff.mpr q2, decide_eq_true q3, decide_eq_true (show stg T (shP T e 99) 99 k = shP T e 99 f by omega)] at y
        cases y
  have hp := fnd_sp (n := T 0) (p := fun k => isR T k && (decide (fl T k 1 = f) && decide (stg T (shP T e 99) 99 k = shP T e 99 f))) (by rw [← e1]; exact hlt)
  rw [← e1, Bool.and_eq_true, Bool.and_eq_true, decide_eq_true_iff, decide_eq_true_iff, isR_iff] at hp
  refine ⟨hlt, hp.1, hp.2.1, hp.2.2, fun j hj hq => ?_⟩
  have y := fnd_no (n := T 0) (p := fun k => isR T k && (decide (fl T k 1 = f) && decide (stg T (shP T e 99) 99 k = shP T e 99 f))) j (by rw [← e1]; exact hj) (by omega)
  rw [isR_iff.mpr hq.1, decide_eq_true hq.2.1, decide_eq_true hq.2.2] at y
  cases y
theorem rsP_99 (wT : WT T) {f : Nat} (hf : f < 16) : rsP T e f = 99 ↔ e f = shP T e 99 f := by
  have h16 := wT.1.2
  constructor
  · intro h
    apply Classical.byContradiction
    intro q
    have := (rsP_sp wT hf q).1
    omega
  · intro h
    unfold rsP
    rw [if_pos h]
theorem ndP_lt (wT : WT T) {f : Nat} (hf : f < 16) : ndP T e f < 2 ^ f := by
  unfold ndP
  split
  · exact Nat.two_pow_pos _
  · rename_i h
    have := rsP_sp wT hf (fun q => h ((rsP_99 wT hf).mpr q))
    have hw := wT.2.1 _ this.1 this.2.1
    rw [this.2.2.1] at hw
    exact hw.2.2.2.2.1
def wnN (T e : Nat → Nat) (g n : Nat) : Nat := match n with
  | 0 => 2 ^ g
  | n + 1 => if (wnN T e g n).testBit (15 - n) = true then wnN T e g n ||| ndP T e (15 - n) else wnN T e g n
theorem wnN_lt (wT : WT T) (hg : g < 16) : ∀ n, wnN T e g n < 65536 := by
  intro n
  induction n with
  | zero => exact p2_lt (m := 16) hg
  | succ n ih =>
    show (if (wnN T e g n).testBit (15 - n) = true then wnN T e g n ||| ndP T e (15 - n) else wnN T e g n) < 65536
    split
    · exact Nat.or_lt_two_pow (n := 16) ih (Nat.lt_of_lt_of_le (ndP_lt wT (by omega)) (Nat.pow_le_pow_right (by decide) (by omega)))
    · exact ih
theorem wnN_st (wT : WT T) {n m j : Nat} (hm : n ≤ m) (hm16 : m ≤ 16) (hj : 15 - n ≤ j) : (wnN T e g m).testBit j = (wnN T e g n).testBit j := by
  induction m with
  | zero => have : n = 0 := by omega
            subst this; rfl
  | succ m ih =>
    by_cases en : n = m + 1
    · subst en; rfl
    · rw [← ih (by omega) (by omega)]
      show (if (wnN T e g m).testBit (15 - m) = true then wnN T e g m ||| ndP T e (15 - m) else wnN T e g m).testBit j = _
      split
      · rw [Nat.testBit_or, Nat.testBit_lt_two_pow (Nat.lt_of_lt_of_le (ndP_lt wT (by omega)) (Nat.pow_le_pow_right (by decide) (by omega))), Bool.or_false]
      · rfl
theorem wnN_hi (wT : WT T) (hg : g < 16) : ∀ n, n ≤ 15 - g → wnN T e g n = 2 ^ g := by
  intro n
  induction n with
  | zero => intro _; rfl
  | succ n ih =>
    intro hn
    show (if (wnN T e g n).testBit (15 - n) = true then wnN T e g n ||| ndP T e (15 - n) else wnN T e g n) = _
    rw [ih (by omega), Nat.testBit_two_pow, if_neg]
    intro q
    have := of_decide_eq_true q
    omega
theorem wnN_due (wT : WT T) (hg : g < 16) (h1 : 1 ≤ shP T e 99 g) : ∀ n, n ≤ 16 → ∀ f, (wnN T e g n).testBit f = true → f ≤ g ∧ shP T e 99 g ≤ shP T e 99 f := by
  intro n
  induction n with
  | zero =>
    intro _ f hf
    have hf : (2 ^ g).testBit f = true := hf
    rw [Nat.testBit_two_pow, decide_eq_true_iff] at hf
    subst hf
    exact ⟨Nat.le_refl _, Nat.le_refl _⟩
  | succ n ih =>
    intro hn f hf
    have hf : (if (wnN T e g n).testBit (15 - n) = true then wnN T e g n ||| ndP T e (15 - n) else wnN T e g n).testBit f = true := hf
    split at hf
    · rename_i hq
      rw [Nat.testBit_or, Bool.or_eq_true] at hf
      rcases hf with z | z
      · exact ih (by omega) f z
      · have h0 := ih (by omega) _ hq
        have hfl := tb_lt (ndP_lt wT (by omega)) z
        refine ⟨by omega, ?_⟩
        unfold ndP at z
        split at z
        · rw [Nat.zero_testBit] at z; cases z
        · rename_i hr
          have hs := rsP_sp (e := e) wT (show 15 - n < 16 by omega) (fun q => hr ((rsP_99 wT (by omega)).mpr q))
          have := (stg_le (T := T) (sh := shP T e 99) (b := 99) (k := rsP T e (15 - n)) (s := shP T e 99 (15 - n)) (by omega)).mp (by rw [hs.2.2.2.1]; exact Nat.le_refl _)
          have := this.2.1 f (by omega) z
          omega
    · exact ih (by omega) f hf
end CP
