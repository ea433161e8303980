/-! which word the reference stands at -/
section RK
variable {N : Nat} {bt : Nat → Nat} {tn s : Nat} {μ : Me}
def wcode (X : Nat) : Nat := wvl wN (wO X) (wL X)
theorem wd_ok : ∀ X, X < 19 → 1 ≤ X → (∀ i, i < wL X → 65 ≤ wN (wO X + i) ∧ wN (wO X + i) < 256) ∧ 0 < wL X ∧ (X ≠ 14 → wL X ≤ 7) := by decide
theorem tE_all (hs : s < tn) (hl : tkL (bt s) = true) {i : Nat} (hi : i < tE bt tn s - s) : tkL (bt (s + i)) = true := by
  by_cases e : i = 0
  · subst e; exact hl
  · exact rn_all (p := tkL) _ (s + 1) rfl (s + i) (by omega) (by rw [← (tE_L (tn := tn) hl).1]; omega)
theorem rt_word {X : Nat} (hX : 1 ≤ X) (hX2 : X ≤ 18) (h14 : X ≠ 14) (hb : ∀ j, j < tn → bt j < 256) (hs : s < tn) (hl : tkL (bt s) = true) (h : RT bt tn s μ) : μ.2 130 11 = lI (wcode X) ↔ tSo bt tn s = X := by
  obtain ⟨w1, w2, w3⟩ := wd_ok X (by omega) hX
  have w3 := w3 h14
  have ⟨t1, t2⟩ := tE_le (bt := bt) hs
  have e : tSo bt tn s = wordW bt s (tE bt tn s) := by unfold tSo; rw [if_pos hl]
  rw [e, wordW_iff hX hX2]
  have hlt := h.2.2.2.2 hs hl
  have c1 : wcode X < 256 ^ 7 := Nat.lt_of_lt_of_le (wvl_lt (wL X) (fun i hi => (w1 i hi).2)) (Nat.pow_le_pow_right (by decide) w3)
  have hL : ∀ i, i < tE bt tn s - s → 0 < bt (s + i) ∧ bt (s + i) < 256 := by
    intro i hi
    refine ⟨?_, hb _ (by omega)⟩
    have := tE_all hs hl hi
    unfold tkL at this
    simp at this
    omega
  by_cases g : tE bt tn s - s ≤ 7
  · have c2 : wvl bt s (tE bt tn s - s) < 256 ^ 7 := Nat.lt_of_lt_of_le (wvl_lt _ (fun i hi => (hL i hi).2)) (Nat.pow_le_pow_right (by decide) g)
    rw [hlt.1 g]
    constructor
    · intro q
      have q := lI_inj (by omega) (by omega) q
      obtain ⟨q1, q2⟩ := wvl_inj _ _ hL (fun i hi => ⟨by have := w1 i hi; omega, (w1 i hi).2⟩) q
      exact ⟨fun i hi => ⟨by omega, q2 i (by omega)⟩, by omega⟩
    · intro ⟨q1, q2⟩
      have q3 : tE bt tn s - s = wL X := by omega
      rw [q3]
      unfold wcode
      have : ∀ n, n ≤ wL X → wvl bt s n = wvl wN (wO X) n := by
        intro n
        induction n with
        | zero => intro _; rfl
        | succ n ih =>
          intro hn
          show wvl bt s n * 256 + bt (s + n) = wvl wN (wO X) n * 256 + wN (wO X + n)
          rw [ih (by omega), (q1 n (by omega)).2]
      rw [this _ (Nat.le_refl _)]
  · rw [hlt.2 g]
    constructor
    · intro q
      have q := lI_inj (by omega) (by omega) q
      have := wvl_pos (bt := wN) (s := wO X) (wL X) w2 (fun i hi => by have := w1 i hi; omega)
      unfold wcode at q
      omega
    · intro ⟨q1, q2⟩
      omega
end RK
