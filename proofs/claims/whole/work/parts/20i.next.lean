/-! nextToken -/
section RI
variable {N : Nat} {bt : Nat → Nat} {tn : Nat}
/-- the reference's number of the token at s -/
def rTok (bt : Nat → Nat) (tn s : Nat) : Nat := if s < tn then (if tkD (bt s) = true then 1 else if tkL (bt s) = true then 2 else if tE bt tn s - s = 2 then (if bt s = 60 then 4 else 5) else if tkS (bt s) = true then bt s else 3) else 0
/-- the reference stands at the token that begins at s -/
def RT (bt : Nat → Nat) (tn s : Nat) (μ : Me) : Prop := μ.1 130 8 = nI s ∧ μ.1 130 7 = nI (if s < tn then tE bt tn s else s) ∧ μ.1 130 9 = nI (rTok bt tn s) ∧ (s < tn → tkD (bt s) = true → μ.1 130 10 = nI (numR bt (tE bt tn s - s) s 0)) ∧ (s < tn → tkL (bt s) = true → (tE bt tn s - s ≤ 7 → μ.2 130 11 = lI (wvl bt s (tE bt tn s - s))) ∧ (¬ tE bt tn s - s ≤ 7 → μ.2 130 11 = lI 0))
theorem tE_L {i : Nat} (h : tkL (bt i) = true) : tE bt tn i = rn tkL bt tn (i + 1) ∧ ¬ tkD (bt i) = true := by
  have h1 : (97 ≤ bt i ∧ bt i ≤ 122) ∨ (65 ≤ bt i ∧ bt i ≤ 90) := by unfold tkL at h; simpa using h
  have h2 : ¬ tkD (bt i) = true := by unfold tkD; simp; omega
  unfold tE
  rw [if_neg (by omega), if_pos h]
  exact ⟨rfl, h2⟩
end RI
