/-! the reference's tape -/
section RN
variable {N : Nat} {μ : Me} {bt : Nat → Nat} {tn : Nat}
def rTp (bt : Nat → Nat) (tn : Nat) (I : Nat → Nat → Int32) : Prop := I 130 4 = nI tn ∧ (∀ j, j < tn → I 134 j = nI (bt j)) ∧ tn ≤ 300 ∧ ∀ j, j < tn → bt j < 256
theorem rTp.fr {I I' : Nat → Nat → Int32} (h : rTp bt tn I) (h0 : I' 130 4 = I 130 4) (h1 : I' 134 = I 134) : rTp bt tn I' := by
  unfold rTp at *
  rw [h0, h1]
  exact h
section
variable {Ψ : Int32 → Me → Prop} {i x : Nat} {v : Int32}
theorem r_byte (h : rTp bt tn μ.1) (hi : i < 2 ^ 31) (h1 : i < tn → Ψ (nI (bt i)) μ) (h0 : ¬ i < tn → Ψ mI μ) : VI N 1 mX12_byteAt [.ref 130, .int (nI i)] μ Ψ := by
  obtain ⟨e0, hb, ht, hv⟩ := h
  refine tX12_byteAt_0 ?_
  by_cases g : i < tn
  · simp (disch := omega) only [lit, Nat.add_sub_cancel, Nat.not_lt_zero, ↓m1_mI, nI_add, pk_mul, nx_and, nx_or, and31, sh_r, sh_1, nx_nand, Nat.and_one_is_mod, nI_clamp, nI_leI, nI_ltI, nI_eq, tb_1, vp_t, up2_a, up2_b, up2_c, br_1, br_0, true_and, and_true, mI_ne, mI_ne', mI_lt, mI_le, mI_nle, mI_nlt, pk_sub, mI_sub, e0, hb i g, eq_false (show ¬ tn ≤ i by omega)]
    exact ⟨_, rfl, h1 g⟩
  · simp (disch := omega) only [lit, Nat.add_sub_cancel, Nat.not_lt_zero, ↓m1_mI, nI_add, pk_mul, nx_and, nx_or, and31, sh_r, sh_1, nx_nand, Nat.and_one_is_mod, nI_clamp, nI_leI, nI_ltI, nI_eq, tb_1, vp_t, up2_a, up2_b, up2_c, br_1, br_0, true_and, and_true, mI_ne, mI_ne', mI_lt, mI_le, mI_nle, mI_nlt, pk_sub, mI_sub, e0, eq_true (show tn ≤ i by omega)]
    exact ⟨_, rfl, h0 g⟩
theorem rg_D (hx : x < 2 ^ 31) : rgI 48 57 (nI x) ↔ tkD x = true := by
  unfold tkD
  simp only [decide_eq_true_eq]
  constructor
  · rintro ⟨n, h1, h2, h3⟩
    have := nI_inj h3 hx (by omega)
    omega
  · intro h; exact ⟨x, h.1, h.2, rfl⟩
theorem rg_m {lo hi : Nat} (hh : hi < 2 ^ 31) : ¬ rgI lo hi mI := by
  rintro ⟨n, h1, h2, h3⟩
  have e : (mI = nI n) = False := mI_ne' (by omega)
  exact e ▸ h3
theorem r_isD (h1 : rgI 48 57 v → Ψ 1 μ) (h0 : ¬ rgI 48 57 v → Ψ 0 μ) : VI N 2 mX12_isDigit [.int v] μ Ψ :=
  tX12_isDigit_0 (r_in 48 57 (by decide) (by decide) (fun g => ⟨Or.inr rfl, _, rfl, h1 g⟩) (fun g => ⟨Or.inl rfl, _, rfl, h0 g⟩))
theorem r_isL (h1 : (rgI 97 122 v ∨ rgI 65 90 v) → Ψ 1 μ) (h0 : ¬ (rgI 97 122 v ∨ rgI 65 90 v) → Ψ 0 μ) : VI N 2 mX12_isLetter [.int v] μ Ψ := by
  refine tX12_isLetter_0 (vi_b (fun Ψ => r_in 97 122 (by decide) (by decide)) (fun g => ⟨_, rfl, h1 (Or.inl g)⟩) (fun g => vi_b (fun Ψ => r_in 65 90 (by decide) (by decide)) (fun g2 => ⟨_, rfl, h1 (Or.inr g2)⟩) (fun g2 => ⟨_, rfl, h0 (fun q => q.elim g g2)⟩)))
theorem rg_L (hx : x < 2 ^ 31) : (rgI 97 122 (nI x) ∨ rgI 65 90 (nI x)) ↔ tkL x = true := by
  unfold tkL
  simp only [decide_eq_true_eq]
  constructor
  · rintro (⟨n, h1, h2, h3⟩ | ⟨n, h1, h2, h3⟩)
    · have := nI_inj h3 hx (by omega); omega
    · have := nI_inj h3 hx (by omega); omega
  · rintro (h | h)
    · exact Or.inl ⟨x, h.1, h.2, rfl⟩
    · exact Or.inr ⟨x, h.1, h.2, rfl⟩
end
/-! numbers -/
def numR (bt : Nat → Nat) : Nat → Nat → Nat → Nat
  | 0, _, a => a
  | n + 1, i, a => numR bt n (i + 1) (if a < 100000 then 10 * a + bt i - 48 else a)
theorem numR_C : ∀ n i a a', min a 10000 = a' → (∀ j, i ≤ j → j < i + n → 48 ≤ bt j) → min (numR bt n i a) 10000 = numC bt n i a' := by
  intro n
  induction n with
  | zero => intro i a a' h _; exact h
  | succ n ih =>
    intro i a a' h hd
    have h48 := hd i (Nat.le_refl _) (by omega)
    refine ih (i + 1) _ _ ?_ (fun j h1 h2 => hd j (by omega) (by omega))
    split <;> omega
theorem numR_lt : ∀ n i a, a < 1100000 → (∀ j, i ≤ j → j < i + n → bt j < 256) → numR bt n i a < 1100000 := by
  intro n
  induction n with
  | zero => intro i a h _; exact h
  | succ n ih =>
    intro i a h hd
    have h2 := hd i (Nat.le_refl _) (by omega)
    refine ih (i + 1) _ ?_ (fun j h1 h2 => hd j (by omega) (by omega))
    split <;> omega
end RN
