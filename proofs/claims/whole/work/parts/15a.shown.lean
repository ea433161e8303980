/-! what is shown by evidence e, the rule b being bent: the pure side -/
section PS
variable {T e : Nat → Nat} {b : Nat}
def exB (n : Nat) (p : Nat → Bool) : Bool := match n with
  | 0 => false
  | n + 1 => exB n p || p n
theorem exB_iff {n : Nat} {p : Nat → Bool} : exB n p = true ↔ ∃ i, i < n ∧ p i = true := by
  induction n with
  | zero => exact ⟨fun h => (by cases h), fun ⟨i, h, _⟩ => (by omega)⟩
  | succ n ih =>
    show (exB n p || p n) = true ↔ _
    rw [Bool.or_eq_true, ih]
    constructor
    · rintro (⟨i, h1, h2⟩ | h)
      · exact ⟨i, by omega, h2⟩
      · exact ⟨n, by omega, h⟩
    · rintro ⟨i, h1, h2⟩
      by_cases ei : i = n
      · subst ei; exact Or.inr h2
      · exact Or.inl ⟨i, by omega, h2⟩
def mnN (nd : Nat) (sh : Nat → Nat) (n v : Nat) : Nat := match n with
  | 0 => v
  | n + 1 => if nd.testBit n = true ∧ sh n < mnN nd sh n v then sh n else mnN nd sh n v
theorem mnN_le {nd : Nat} {sh : Nat → Nat} {n v s : Nat} : s ≤ mnN nd sh n v ↔ s ≤ v ∧ ∀ f, f < n → nd.testBit f = true → s ≤ sh f := by
  induction n with
  | zero => exact ⟨fun h => ⟨h, fun f hf => by omega⟩, fun h => h.1⟩
  | succ n ih =>
    show s ≤ (if nd.testBit n = true ∧ sh n < mnN nd sh n v then sh n else mnN nd sh n v) ↔ _
    constructor
    · intro h
      have h2 : s ≤ mnN nd sh n v := by
        split at h
        · omega
        · exact h
      refine ⟨(ih.mp h2).1, fun f hf hb => ?_⟩
      by_cases ef : f = n
      · subst ef
        split at h
        · exact h
        · rename_i hc
          have : ¬ sh f < mnN nd sh f v := fun q => hc ⟨hb, q⟩
          omega
      · exact (ih.mp h2).2 f (by omega) hb
    · intro h
      have h2 : s ≤ mnN nd sh n v := ih.mpr ⟨h.1, fun f hf => h.2 f (by omega)⟩
      split
      · rename_i hc
        exact h.2 n (by omega) hc.1
      · exact h2
def stg (T sh : Nat → Nat) (b k : Nat) : Nat := if k ≠ b ∧ exB 16 (fun f => (fl T k 5).testBit f && decide (0 < sh f)) = true then 0 else mnN (fl T k 4) sh 16 (fl T k 2)
theorem stg_le {sh : Nat → Nat} {k s : Nat} (hs : 1 ≤ s) : s ≤ stg T sh b k ↔ s ≤ fl T k 2 ∧ (∀ f, f < 16 → (fl T k 4).testBit f = true → s ≤ sh f) ∧ (k = b ∨ ∀ f, f < 16 → (fl T k 5).testBit f = true → sh f = 0) := by
  unfold stg
  split
  · rename_i h
    constructor
    · intro q; omega
    · rintro ⟨_, _, q⟩
      exfalso
      rcases q with q | q
      · exact h.1 q
      · obtain ⟨i, hi, hp⟩ := exB_iff.mp h.2
        rw [Bool.and_eq_true, decide_eq_true_iff] at hp
        have := q i hi hp.1
        omega
  · rename_i h
    rw [mnN_le]
    constructor
    · rintro ⟨h1, h2⟩
      refine ⟨h1, h2, ?_⟩
      by_cases ek : k = b
      · exact Or.inl ek
      · refine Or.inr (fun f hf hb => ?_)
        rcases Nat.eq_zero_or_pos (sh f) with q | q
        · exact q
        · exact absurd ⟨ek, exB_iff.mpr ⟨f, hf, by rw [hb, decide_eq_true q]; rfl⟩⟩ h
    · rintro ⟨h1, h2, _⟩
      exact ⟨h1, h2⟩
theorem stg_w {sh : Nat → Nat} {k : Nat} : stg T sh b k ≤ fl T k 2 := by
  rcases Nat.eq_zero_or_pos (stg T sh b k) with h | h
  · omega
  · exact ((stg_le h).mp (Nat.le_refl _)).1
def mxN (T sh : Nat → Nat) (b ef f n : Nat) : Nat := match n with
  | 0 => ef
  | n + 1 => if (isR T n = true ∧ fl T n 1 = f) ∧ mxN T sh b ef f n < stg T sh b n then stg T sh b n else mxN T sh b ef f n
theorem mxN_le {sh : Nat → Nat} {ef f n s : Nat} : s ≤ mxN T sh b ef f n ↔ s ≤ ef ∨ ∃ k, k < n ∧ isR T k = true ∧ fl T k 1 = f ∧ s ≤ stg T sh b k := by
  induction n with
  | zero => exact ⟨fun h => Or.inl h, fun h => h.elim id (fun ⟨k, hk, _⟩ => by omega)⟩
  | succ n ih =>
    show s ≤ (if (isR T n = true ∧ fl T n 1 = f) ∧ mxN T sh b ef f n < stg T sh b n then stg T sh b n else mxN T sh b ef f n) ↔ _
    constructor
    · intro h
      split at h
      · rename_i hc
        exact Or.inr ⟨n, by omega, hc.1.1, hc.1.2, h⟩
      · rcases ih.mp h with q | ⟨k, h1, h2⟩
        · exact Or.inl q
        · exact Or.inr ⟨k, by omega, h2⟩
    · intro h
      have hm : s ≤ mxN T sh b ef f n ∨ ((isR T n = true ∧ fl T n 1 = f) ∧ s ≤ stg T sh b n) := by
        rcases h with q | ⟨k, h1, h2, h3, h4⟩
        · exact Or.inl (ih.mpr (Or.inl q))
        · by_cases ek : k = n
          · subst ek; exact Or.inr ⟨⟨h2, h3⟩, h4⟩
          · exact Or.inl (ih.mpr (Or.inr ⟨k, by omega, h2, h3, h4⟩))
      split
      · rename_i hc
        rcases hm with q | q
        · omega
        · exact q.2
      · rename_i hc
        rcases hm with q | q
        · exact q
        · have : ¬ mxN T sh b ef f n < stg T sh b n := fun r => hc ⟨q.1, r⟩
          omega
def shN (T e : Nat → Nat) (b n : Nat) : Nat → Nat := match n with
  | 0 => fun _ => 0
  | n + 1 => ub (shN T e b n) n (mxN T (shN T e b n) b (e n) n (T 0))
def shP (T e : Nat → Nat) (b : Nat) : Nat → Nat := shN T e b 16
theorem shN_st {n m j : Nat} (hj : j < n) (hm : n ≤ m) : shN T e b m j = shN T e b n j := by
  induction m with
  | zero => omega
  | succ m ih =>
    by_cases en : n = m + 1
    · subst en; rfl
    · show ub (shN T e b m) m _ j = _
      rw [ub_n (by omega)]
      exact ih (by omega)
theorem nat_le_ext {x y : Nat} (h : ∀ s, 1 ≤ s → (s ≤ x ↔ s ≤ y)) : x = y := by
  rcases Nat.lt_trichotomy x y with q | q | q
  · have := (h y (by omega)).mpr (Nat.le_refl _); omega
  · exact q
  · have := (h x (by omega)).mp (Nat.le_refl _); omega
theorem stg_ext {sh sh' : Nat → Nat} {k : Nat} (wT : WT T) (hk : k < T 0) (hr : fl T k 0 = 3) (h : ∀ j, j < fl T k 1 → sh j = sh' j) : stg T sh b k = stg T sh' b k := by
  have hw := wT.2.1 k hk hr
  have q4 : ∀ f, (fl T k 4).testBit f = true → sh f = sh' f := fun f hf => h f (tb_lt hw.2.2.2.2.1 hf)
  have q5 : ∀ f, (fl T k 5).testBit f = true → sh f = sh' f := fun f hf => h f (tb_lt hw.2.2.2.2.2 hf)
  apply nat_le_ext
  intro s hs
  rw [stg_le hs, stg_le hs]
  constructor
  · rintro ⟨h1, h2, h3⟩
    refine ⟨h1, fun f hf hb => by rw [← q4 f hb]; exact h2 f hf hb, h3.elim Or.inl (fun q => Or.inr (fun f hf hb => by rw [← q5 f hb]; exact q f hf hb))⟩
  · rintro ⟨h1, h2, h3⟩
    refine ⟨h1, fun f hf hb => by rw [q4 f hb]; exact h2 f hf hb, h3.elim Or.inl (fun q => Or.inr (fun f hf hb => by rw [q5 f hb]; exact q f hf hb))⟩
theorem mxN_ext {sh sh' : Nat → Nat} {ef f n : Nat} (wT : WT T) (hn : n ≤ T 0) (h : ∀ j, j < f → sh j = sh' j) : mxN T sh b ef f n = mxN T sh' b ef f n := by
  apply nat_le_ext
  intro s hs
  rw [mxN_le, mxN_le]
  constructor
  · rintro (q | ⟨k, h1, h2, h3, h4⟩)
    · exact Or.inl q
    · exact Or.inr ⟨k, h1, h2, h3, by rw [← stg_ext wT (by omega) (isR_iff.mp h2) (fun j hj => h j (by omega))]; exact h4⟩
  · rintro (q | ⟨k, h1, h2, h3, h4⟩)
    · exact Or.inl q
    · exact Or.inr ⟨k, h1, h2, h3, by rw [stg_ext wT (by omega) (isR_iff.mp h2) (fun j hj => h j (by omega))]; exact h4⟩
theorem shP_fp (wT : WT T) {f : Nat} (hf : f < 16) : shP T e b f = mxN T (shP T e b) b (e f) f (T 0) := by
  have h1 : shP T e b f = shN T e b (f + 1) f := shN_st (by omega) (by omega)
  have h2 : shN T e b (f + 1) f = mxN T (shN T e b f) b (e f) f (T 0) := ub_e
  rw [h1, h2]
  exact mxN_ext wT (Nat.le_refl _) (fun j hj => (shN_st hj (by omega)).symm)
theorem shP_le (wT : WT T) {f s : Nat} (hf : f < 16) (hs : 1 ≤ s) : s ≤ shP T e b f ↔ s ≤ e f ∨ ∃ k, k < T 0 ∧ fl T k 0 = 3 ∧ fl T k 1 = f ∧ s ≤ stg T (shP T e b) b k := by
  rw [shP_fp wT hf, mxN_le]
  constructor
  · rintro (q | ⟨k, h1, h2, h3⟩)
    · exact Or.inl q
    · exact Or.inr ⟨k, h1, isR_iff.mp h2, h3⟩
  · rintro (q | ⟨k, h1, h2, h3⟩)
    · exact Or.inl q
    · exact Or.inr ⟨k, h1, isR_iff.mpr h2, h3⟩
theorem mxN_9 {sh : Nat → Nat} {ef f n : Nat} (wT : WT T) (hn : n ≤ T 0) (he : ef ≤ 9) : mxN T sh b ef f n ≤ 9 := by
  have := (mxN_le (T := T) (sh := sh) (b := b) (ef := ef) (f := f) (n := n) (s := mxN T sh b ef f n)).mp (Nat.le_refl _)
  rcases this with q | ⟨k, h1, h2, h3, h4⟩
  · omega
  · have := stg_w (T := T) (sh := sh) (b := b) (k := k)
    have := (wT.2.1 k (by omega) (isR_iff.mp h2)).2.2.1
    omega
theorem shN_9 (wT : WT T) (he : ∀ f, e f ≤ 9) (n : Nat) : ∀ j, shN T e b n j ≤ 9 := by
  induction n with
  | zero => intro j; exact Nat.zero_le _
  | succ n ih =>
    intro j
    show ub (shN T e b n) n _ j ≤ 9
    unfold ub
    split
    · exact mxN_9 wT (Nat.le_refl _) (he n)
    · exact ih j
/-! evidence -/
def ad (e : Nat → Nat) (sd sg : Nat) : Nat → Nat := fun f => if sd.testBit f = true ∧ e f < sg then sg else e f
theorem ad_le {sd sg f s : Nat} : s ≤ ad e sd sg f ↔ s ≤ e f ∨ (sd.testBit f = true ∧ s ≤ sg) := by
  unfold ad
  split
  · rename_i h
    exact ⟨fun q => Or.inr ⟨h.1, q⟩, fun q => q.elim (fun r => by omega) (fun r => r.2)⟩
  · rename_i h
    refine ⟨fun q => Or.inl q, fun q => q.elim id (fun r => ?_)⟩
    have : ¬ e f < sg := fun z => h ⟨r.1, z⟩
    omega
theorem ad_9 {sd sg : Nat} (he : ∀ f, e f ≤ 9) (hs : sg ≤ 9) : ∀ f, ad e sd sg f ≤ 9 := by
  intro f
  unfold ad
  split
  · exact hs
  · exact he f
def evN (on : Nat → Bool) (sd sg : Nat → Nat) (n : Nat) : Nat → Nat := match n with
  | 0 => fun _ => 0
  | n + 1 => if on n = true then ad (evN on sd sg n) (sd n) (sg n) else evN on sd sg n
theorem evN_9 {on : Nat → Bool} {sd sg : Nat → Nat} {n : Nat} (hs : ∀ i, i < n → sg i ≤ 9) : ∀ f, evN on sd sg n f ≤ 9 := by
  induction n with
  | zero => intro f; exact Nat.zero_le _
  | succ n ih =>
    have := ih (fun i hi => hs i (by omega))
    intro f
    show (if on n = true then ad (evN on sd sg n) (sd n) (sg n) else evN on sd sg n) f ≤ 9
    split
    · exact ad_9 this (hs n (by omega)) f
    · exact this f
theorem evN_ext {on on' : Nat → Bool} {sd sd' sg sg' : Nat → Nat} {n : Nat} (h : ∀ i, i < n → on i = on' i ∧ (on i = true → sd i = sd' i ∧ sg i = sg' i)) : evN on sd sg n = evN on' sd' sg' n := by
  induction n with
  | zero => rfl
  | succ n ih =>
    have h1 := ih (fun i hi => h i (by omega))
    have h2 := h n (by omega)
    show (if on n = true then ad (evN on sd sg n) (sd n) (sg n) else evN on sd sg n) = (if on' n = true then ad (evN on' sd' sg' n) (sd' n) (sg' n) else evN on' sd' sg' n)
    rw [h1, ← h2.1]
    by_cases q : on n = true
    · rw [if_pos q, if_pos q, (h2.2 q).1, (h2.2 q).2]
    · rw [if_neg q, if_neg q]
end PS
