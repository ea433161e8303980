/-! what wordOf answers -/
section WG
variable {N : Nat} {μ : Me} {Ψ : Option Value → Me → Prop} {bt : Nat → Nat} {s e : Nat}
def wN (j : Nat) : Nat := (wB.getD j 0).toNatClampNeg
theorem wB_N : ∀ j, j < 91 → wB.getD j 0 = nI (wN j) ∧ wN j < 256 := by decide
def wGo (bt : Nat → Nat) (s e : Nat) : Nat → Nat → Nat → Nat → Bool → Nat
  | 0, _, _, _, _ => 0
  | n + 1, j, w, a, al => if wN j = 32 then (if al = true ∧ a = e then w else wGo bt s e n (j + 1) (w + 1) s true) else wGo bt s e n (j + 1) w (a + 1) (al && decide (a < e ∧ bt a = wN j))
def wbI (b : Bool) : Int32 := if b = true then 1 else 0
theorem c_wordGo (hb : ∀ i, i < e → μ.1 53 i = nI (bt i)) (hv : ∀ i, i < e → bt i < 256) (he : e ≤ 300) (hs : s < 300) : ∀ n j w a al, j + n = 91 → w ≤ j + 1 → a ≤ s + j → Ψ (some (.int (nI (wGo bt s e n j w a al)))) μ → VB N 6 mX10_wordOf 11 [.ref 52, .int (nI s), .int (nI e), .int (nI w), .int (nI a), .int (wbI al), .int (nI j)] [] μ Ψ := by
  intro n
  induction n with
  | zero =>
    intro j w a al h1 h2 h3 K
    have : j = 91 := by omega
    subst this
    exact bX10_wordOf_11 (fun _ => bX10_wordOf_101 K) (fun g => absurd (nI_le (a := 91) (b := 91) (by omega) (by omega)) g)
  | succ n ih =>
    intro j w a al h1 h2 h3 K
    have ⟨hw, hw2⟩ := wB_N j (by omega)
    have a1 : nI w + (1 : Int32) = nI (w + 1) := nI_add (a := w) (b := 1)
    have a2 : nI j + (1 : Int32) = nI (j + 1) := nI_add (a := j) (b := 1)
    have a3 : nI a + (1 : Int32) = nI (a + 1) := nI_add (a := a) (b := 1)
    refine bX10_wordOf_11 (fun g => absurd g (nI_ge (a := j) (b := 91) (by omega) (by omega))) (fun _ => ?_)
    refine bX10_wordOf_21 (by omega) (fun g => ?_) (fun g => ?_)
    · have g' : wN j = 32 := by
        rw [hw] at g
        exact nI_inj g (by omega) (by omega)
      have go : ¬ (al = true ∧ a = e) → VB N 6 mX10_wordOf 50 [.ref 52, .int (nI s), .int (nI e), .int (nI w), .int (nI a), .int (wbI al), .int (nI j)] [] μ Ψ := by
        intro q
        refine bX10_wordOf_50 ?_
        rw [a1, a2]
        refine ih (j + 1) (w + 1) s true (by omega) (by omega) (by omega) ?_
        rw [wGo, if_pos g', if_neg q] at K
        exact K
      refine bX10_wordOf_37 (fun q => go (fun q' => by rw [q'.1] at q; exact absurd q (by decide))) (fun q => ?_)
      refine bX10_wordOf_42 (fun q2 => ?_) (fun q2 => go (fun q' => q2 (by rw [q'.2])))
      have ht : al = true := by
        cases al with
        | true => rfl
        | false => exact absurd rfl q
      have hae : a = e := nI_inj q2 (by omega) (by omega)
      rw [wGo, if_pos g', if_pos ⟨ht, hae⟩] at K
      exact K
    · have g' : ¬ wN j = 32 := by
        intro q
        apply g
        rw [hw, q]
        rfl
      rw [wGo, if_neg g'] at K
      have go0 : (al && decide (a < e ∧ bt a = wN j)) = false → VB N 6 mX10_wordOf 89 [.ref 52, .int (nI s), .int (nI e), .int (nI w), .int (nI a), .int (wbI al), .int (nI j)] [] μ Ψ := by
        intro q
        refine bX10_wordOf_89 ?_
        rw [a3, a2]
        refine ih (j + 1) w (a + 1) false (by omega) (by omega) (by omega) ?_
        rw [q] at K
        exact K
      have go1 : (al && decide (a < e ∧ bt a = wN j)) = true → VB N 6 mX10_wordOf 85 [.ref 52, .int (nI s), .int (nI e), .int (nI w), .int (nI a), .int (wbI al), .int (nI j)] [] μ Ψ := by
        intro q
        refine bX10_wordOf_85 ?_
        rw [a3, a2]
        refine ih (j + 1) w (a + 1) true (by omega) (by omega) (by omega) ?_
        rw [q] at K
        exact K
      have hal : ¬ wbI al = 0 → al = true := by
        intro q
        cases al with
        | true => rfl
        | false => exact absurd rfl q
      have hlt : ¬ nI e ≤ nI a → a < e := by
        intro q
        apply Classical.byContradiction
        intro q2
        exact q (nI_le (by omega) (by omega))
      rw [hw]
      refine bX10_wordOf_62 (fun q => go0 ?_) (fun _ q => go0 ?_) (fun q1 q2 => vp_in_nI (by have := hlt q2; omega) (by omega)) (fun q1 q2 q3 => go1 ?_) (fun q1 q2 q3 => go0 ?_)
      · cases al with
        | true => exact absurd q (by decide)
        | false => rfl
      · have : ¬ a < e := fun q2 => nI_ge q2 (by omega) q
        simp [this]
      · have h := hlt q2
        rw [nI_clamp (by omega), hb a h] at q3
        have := nI_inj q3 (by have := hv a h; omega) (by omega)
        simp [hal q1, h, this]
      · have h := hlt q2
        rw [nI_clamp (by omega), hb a h] at q3
        have : ¬ bt a = wN j := fun q => q3 (by rw [q])
        simp [this]
/-- the token from s to e is word X -/
def wO (X : Nat) : Nat := [0, 0, 4, 10, 15, 20, 26, 31, 34, 41, 44, 48, 52, 56, 61, 70, 75, 81, 86, 91].getD X 0
def wL (X : Nat) : Nat := wO (X + 1) - wO X - 1
def wmt (bt : Nat → Nat) (s e X : Nat) : Prop := (∀ i, i < wL X → s + i < e ∧ bt (s + i) = wN (wO X + i)) ∧ s + wL X = e
theorem wGo_seg : ∀ r n o a w al, (∀ i, i < r → wN (o + i) ≠ 32) → wN (o + r) = 32 → ((al = true ∧ (∀ i, i < r → a + i < e ∧ bt (a + i) = wN (o + i)) ∧ a + r = e) → wGo bt s e (n + r + 1) o w a al = w) ∧ (¬ (al = true ∧ (∀ i, i < r → a + i < e ∧ bt (a + i) = wN (o + i)) ∧ a + r = e) → wGo bt s e (n + r + 1) o w a al = wGo bt s e n (o + r + 1) (w + 1) s true) := by
  intro r
  induction r with
  | zero =>
    intro n o a w al h1 h2
    have h2 : wN o = 32 := h2
    refine ⟨fun h => ?_, fun h => ?_⟩
    · rw [wGo, if_pos h2, if_pos ⟨h.1, h.2.2⟩]
    · rw [wGo, if_pos h2, if_neg (fun q => h ⟨q.1, fun i hi => absurd hi (Nat.not_lt_zero _), q.2⟩)]
  | succ r ih =>
    intro n o a w al h1 h2
    have h0 : ¬ wN o = 32 := h1 0 (by omega)
    have ih' := ih n (o + 1) (a + 1) w (al && decide (a < e ∧ bt a = wN o)) (fun i hi => by have := h1 (i + 1) (by omega); rwa [show o + (i + 1) = o + 1 + i by omega] at this) (by rwa [show o + (r + 1) = o + 1 + r by omega] at h2)
    have e1 : wGo bt s e (n + (r + 1) + 1) o w a al = wGo bt s e (n + r + 1) (o + 1) w (a + 1) (al && decide (a < e ∧ bt a = wN o)) := by
      rw [show n + (r + 1) + 1 = (n + r + 1) + 1 by omega, wGo, if_neg h0]
    have e2 : (al = true ∧ (∀ i, i < r + 1 → a + i < e ∧ bt (a + i) = wN (o + i)) ∧ a + (r + 1) = e) ↔ ((al && decide (a < e ∧ bt a = wN o)) = true ∧ (∀ i, i < r → a + 1 + i < e ∧ bt (a + 1 + i) = wN (o + 1 + i)) ∧ a + 1 + r = e) := by
      constructor
      · intro ⟨q1, q2, q3⟩
        refine ⟨?_, fun i hi => ?_, by omega⟩
        · have := q2 0 (by omega)
          simp only [Nat.add_zero] at this
          simp [q1, this]
        · have := q2 (i + 1) (by omega)
          rwa [show a + (i + 1) = a + 1 + i by omega, show o + (i + 1) = o + 1 + i by omega] at this
      · intro ⟨q1, q2, q3⟩
        simp only [Bool.and_eq_true, decide_eq_true_eq] at q1
        refine ⟨q1.1, fun i hi => ?_, by omega⟩
        cases i with
        | zero => exact q1.2
        | succ i =>
          have := q2 i (by omega)
          rwa [show a + (i + 1) = a + 1 + i by omega, show o + (i + 1) = o + 1 + i by omega]
    rw [e1, e2, show o + (r + 1) + 1 = o + 1 + r + 1 by omega]
    exact ih'
theorem wO_ok : ∀ X, X < 18 → (∀ i, i < wL (X + 1) → wN (wO (X + 1) + i) ≠ 32) ∧ wN (wO (X + 1) + wL (X + 1)) = 32 ∧ wO (X + 2) = wO (X + 1) + wL (X + 1) + 1 ∧ wO (X + 2) ≤ 91 := by decide
def wordW (bt : Nat → Nat) (s e : Nat) : Nat := wGo bt s e 91 0 1 s true
theorem wGo_from : ∀ k, k ≤ 18 → (∃ Y, 19 - k ≤ Y ∧ Y ≤ 18 ∧ wmt bt s e Y ∧ wGo bt s e (91 - wO (19 - k)) (wO (19 - k)) (19 - k) s true = Y) ∨ ((∀ Y, 19 - k ≤ Y → Y ≤ 18 → ¬ wmt bt s e Y) ∧ wGo bt s e (91 - wO (19 - k)) (wO (19 - k)) (19 - k) s true = 0) := by
  intro k
  induction k with
  | zero => intro _; exact Or.inr ⟨fun Y h1 h2 => absurd h1 (by omega), rfl⟩
  | succ k ih =>
    intro hk
    have ok := wO_ok (17 - k) (by omega)
    rw [show 17 - k + 1 = 18 - k by omega, show 17 - k + 2 = 19 - k by omega] at ok
    obtain ⟨o1, o2, o3, o4⟩ := ok
    have hs := wGo_seg (bt := bt) (s := s) (e := e) (wL (18 - k)) (91 - wO (19 - k)) (wO (18 - k)) s (18 - k) true o1 o2
    rw [show 91 - wO (19 - k) + wL (18 - k) + 1 = 91 - wO (18 - k) by omega, ← o3, show 18 - k + 1 = 19 - k by omega] at hs
    rw [show 19 - (k + 1) = 18 - k by omega]
    by_cases h : wmt bt s e (18 - k)
    · exact Or.inl ⟨18 - k, by omega, by omega, h, hs.1 ⟨rfl, h.1, h.2⟩⟩
    · rw [hs.2 (fun q => h ⟨q.2.1, q.2.2⟩)]
      rcases ih (by omega) with ⟨Y, y1, y2, y3, y4⟩ | ⟨y1, y2⟩
      · exact Or.inl ⟨Y, by omega, y2, y3, y4⟩
      · refine Or.inr ⟨fun Y q1 q2 => ?_, y2⟩
        by_cases q : Y = 18 - k
        · rw [q]; exact h
        · exact y1 Y (by omega) q2
theorem wd_ne : ∀ X, X < 18 → ∀ Y, Y < 18 → wL (X + 1) = wL (Y + 1) → (∀ i, i < wL (X + 1) → wN (wO (X + 1) + i) = wN (wO (Y + 1) + i)) → X = Y := by decide
theorem wmt_one {X Y : Nat} (hX : 1 ≤ X) (hX2 : X ≤ 18) (hY : 1 ≤ Y) (hY2 : Y ≤ 18) (h1 : wmt bt s e X) (h2 : wmt bt s e Y) : X = Y := by
  obtain ⟨X, rfl⟩ : ∃ x, X = x + 1 := ⟨X - 1, by omega⟩
  obtain ⟨Y, rfl⟩ : ∃ x, Y = x + 1 := ⟨Y - 1, by omega⟩
  have hl : wL (X + 1) = wL (Y + 1) := by have := h1.2; have := h2.2; omega
  rw [wd_ne X (by omega) Y (by omega) hl (fun i hi => by rw [← (h1.1 i hi).2, ← (h2.1 i (by omega)).2])]
theorem wordW_iff {X : Nat} (hX : 1 ≤ X) (hX2 : X ≤ 18) : wordW bt s e = X ↔ wmt bt s e X := by
  rcases wGo_from (bt := bt) (s := s) (e := e) 18 (by omega) with ⟨Y, y1, y2, y3, y4⟩ | ⟨y1, y2⟩
  · have y4 : wordW bt s e = Y := y4
    rw [y4]
    exact ⟨fun h => h ▸ y3, fun h => wmt_one (by omega) y2 hX hX2 y3 h⟩
  · have y2 : wordW bt s e = 0 := y2
    rw [y2]
    exact ⟨fun h => absurd h (by omega), fun h => absurd h (y1 X (by omega) hX2)⟩
theorem wordW_le : wordW bt s e ≤ 18 := by
  rcases wGo_from (bt := bt) (s := s) (e := e) 18 (by omega) with ⟨Y, y1, y2, y3, y4⟩ | ⟨y1, y2⟩
  · have y4 : wordW bt s e = Y := y4
    omega
  · have y2 : wordW bt s e = 0 := y2
    omega
theorem c_wordOf {Ψ : Int32 → Me → Prop} (hb : ∀ i, i < e → μ.1 53 i = nI (bt i)) (hv : ∀ i, i < e → bt i < 256) (he : e ≤ 300) (hs : s < 300) (K : Ψ (nI (wordW bt s e)) μ) : VI N 6 mX10_wordOf [.ref 52, .int (nI s), .int (nI e)] μ Ψ :=
  bX10_wordOf_0 (c_wordGo hb hv he hs 91 0 1 s true (by omega) (by omega) (by omega) ⟨_, rfl, K⟩)
end WG
