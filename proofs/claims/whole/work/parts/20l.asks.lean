/-! what the reference asks of its token, in the class's numbers -/
section RL
variable {N : Nat} {bt : Nat → Nat} {tn s : Nat} {μ : Me}
def tT (bt : Nat → Nat) (tn s : Nat) : Nat := if s < tn then tSo bt tn s else 21
theorem tok_cases (hb : ∀ j, j < tn → bt j < 256) : (¬ s < tn ∧ rTok bt tn s = 0 ∧ tT bt tn s = 21) ∨ (s < tn ∧ tkD (bt s) = true ∧ rTok bt tn s = 1 ∧ tT bt tn s = 20) ∨ (s < tn ∧ tkL (bt s) = true ∧ rTok bt tn s = 2 ∧ tT bt tn s ≤ 18) ∨ (s < tn ∧ rTok bt tn s = 4 ∧ tT bt tn s = 130) ∨ (s < tn ∧ rTok bt tn s = 5 ∧ tT bt tn s = 131) ∨ (s < tn ∧ rTok bt tn s = tT bt tn s ∧ 35 ≤ tT bt tn s ∧ tT bt tn s ≤ 62) ∨ (s < tn ∧ rTok bt tn s = 3 ∧ tT bt tn s = 0) := by
  unfold rTok tT
  by_cases hs : s < tn
  · rw [if_pos hs, if_pos hs]
    unfold tSo
    by_cases hd : tkD (bt s) = true
    · have hl := (tE_D (tn := tn) hd).2
      rw [if_pos hd, if_neg hl, if_pos hd]
      exact Or.inr (Or.inl ⟨hs, hd, rfl, rfl⟩)
    · rw [if_neg hd]
      by_cases hl : tkL (bt s) = true
      · rw [if_pos hl, if_pos hl]
        exact Or.inr (Or.inr (Or.inl ⟨hs, hl, rfl, wordW_le⟩))
      · rw [if_neg hl, if_neg hl, if_neg hd]
        by_cases h2 : tE bt tn s - s = 2
        · rw [if_pos h2, if_pos h2]
          by_cases h6 : bt s = 60
          · rw [if_pos h6, if_pos h6]
            exact Or.inr (Or.inr (Or.inr (Or.inl ⟨hs, rfl, rfl⟩)))
          · rw [if_neg h6, if_neg h6]
            exact Or.inr (Or.inr (Or.inr (Or.inr (Or.inl ⟨hs, rfl, rfl⟩))))
        · rw [if_neg h2, if_neg h2]
          by_cases h6 : tkS (bt s) = true
          · rw [if_pos h6, if_pos h6]
            have : bt s = 35 ∨ (40 ≤ bt s ∧ bt s ≤ 45) ∨ bt s = 47 ∨ (59 ≤ bt s ∧ bt s ≤ 62) := by unfold tkS at h6; simpa using h6
            exact Or.inr (Or.inr (Or.inr (Or.inr (Or.inr (Or.inl ⟨hs, rfl, by omega, by omega⟩)))))
          · rw [if_neg h6, if_neg h6]
            exact Or.inr (Or.inr (Or.inr (Or.inr (Or.inr (Or.inr ⟨hs, rfl, rfl⟩)))))
  · rw [if_neg hs, if_neg hs]
    exact Or.inl ⟨hs, rfl, rfl⟩
theorem tT_lt (hb : ∀ j, j < tn → bt j < 256) : tT bt tn s < 132 ∧ rTok bt tn s < 132 := by
  rcases tok_cases (s := s) hb with h | h | h | h | h | h | h <;> omega
/-- the token is the sign c -/
theorem tok_c (hb : ∀ j, j < tn → bt j < 256) {c : Nat} (h1 : 35 ≤ c) (h2 : c ≤ 62) : rTok bt tn s = c ↔ tT bt tn s = c := by
  rcases tok_cases (s := s) hb with h | h | h | h | h | h | h <;> omega
theorem tok_0 (hb : ∀ j, j < tn → bt j < 256) : rTok bt tn s = 0 ↔ tT bt tn s = 21 := by
  rcases tok_cases (s := s) hb with h | h | h | h | h | h | h <;> omega
theorem tok_1 (hb : ∀ j, j < tn → bt j < 256) : rTok bt tn s = 1 ↔ tT bt tn s = 20 := by
  rcases tok_cases (s := s) hb with h | h | h | h | h | h | h <;> omega
theorem tok_4 (hb : ∀ j, j < tn → bt j < 256) : rTok bt tn s = 4 ↔ tT bt tn s = 130 := by
  rcases tok_cases (s := s) hb with h | h | h | h | h | h | h <;> omega
theorem tok_5 (hb : ∀ j, j < tn → bt j < 256) : rTok bt tn s = 5 ↔ tT bt tn s = 131 := by
  rcases tok_cases (s := s) hb with h | h | h | h | h | h | h <;> omega
/-- the token is word X -/
theorem tok_w (hb : ∀ j, j < tn → bt j < 256) {X : Nat} (hX : 1 ≤ X) (hX2 : X ≤ 18) (h14 : X ≠ 14) (h : RT bt tn s μ) : (rTok bt tn s = 2 ∧ μ.2 130 11 = lI (wcode X)) ↔ tT bt tn s = X := by
  rcases tok_cases (s := s) hb with g | g | g | g | g | g | g
  · omega
  · omega
  · have := rt_word hX hX2 h14 hb g.1 g.2.1 h
    have e : tT bt tn s = tSo bt tn s := by unfold tT; rw [if_pos g.1]
    rw [e, ← this]
    exact ⟨fun q => q.2, fun q => ⟨g.2.2.1, q⟩⟩
  all_goals omega
theorem tok_2 (hb : ∀ j, j < tn → bt j < 256) (h : rTok bt tn s = 2) : s < tn ∧ tkL (bt s) = true ∧ tT bt tn s = tSo bt tn s := by
  rcases tok_cases (s := s) hb with g | g | g | g | g | g | g
  · omega
  · omega
  · exact ⟨g.1, g.2.1, by unfold tT; rw [if_pos g.1]⟩
  all_goals omega
theorem j_w3 {a b c : Nat} {Ψ : Int64 → Me → Prop} (ha : a < 256) (hb : b < 256) (hc : c < 256) (K : Ψ (lI ((a * 256 + b) * 256 + c)) μ) : VJ N 1 mX12_w3 [.int (nI a), .int (nI b), .int (nI c)] μ Ψ := by
  refine tX12_w3_0 ?_
  rw [lI_b a ha, lI_sh (by omega) hb, lI_sh (by omega) hc]
  exact ⟨_, rfl, K⟩
theorem j_w4 {a b c d : Nat} {Ψ : Int64 → Me → Prop} (ha : a < 256) (hb : b < 256) (hc : c < 256) (hd : d < 256) (K : Ψ (lI (((a * 256 + b) * 256 + c) * 256 + d)) μ) : VJ N 2 mX12_w4 [.int (nI a), .int (nI b), .int (nI c), .int (nI d)] μ Ψ := by
  refine tX12_w4_0 (j_w3 ha hb hc ?_)
  rw [lI_sh (by omega) hd]
  exact ⟨_, rfl, K⟩
theorem j_w5 {a b c d e : Nat} {Ψ : Int64 → Me → Prop} (ha : a < 256) (hb : b < 256) (hc : c < 256) (hd : d < 256) (he : e < 256) (K : Ψ (lI ((((a * 256 + b) * 256 + c) * 256 + d) * 256 + e)) μ) : VJ N 2 mX12_w5 [.int (nI a), .int (nI b), .int (nI c), .int (nI d), .int (nI e)] μ Ψ := by
  refine tX12_w5_0 (j_w3 ha hb hc ?_)
  rw [lI_sh (by omega) hd, lI_sh (by omega) he]
  exact ⟨_, rfl, K⟩
theorem j_w6 {a b c d e f : Nat} {Ψ : Int64 → Me → Prop} (ha : a < 256) (hb : b < 256) (hc : c < 256) (hd : d < 256) (he : e < 256) (hf : f < 256) (K : Ψ (lI (((((a * 256 + b) * 256 + c) * 256 + d) * 256 + e) * 256 + f)) μ) : VJ N 3 mX12_w6 [.int (nI a), .int (nI b), .int (nI c), .int (nI d), .int (nI e), .int (nI f)] μ Ψ := by
  refine tX12_w6_0 (j_w5 ha hb hc hd he ?_)
  rw [lI_sh (by omega) hf]
  exact ⟨_, rfl, K⟩
theorem r_isWord (hb : ∀ j, j < tn → bt j < 256) {X : Nat} (hX : 1 ≤ X) (hX2 : X ≤ 18) (h14 : X ≠ 14) (h : RT bt tn s μ) {Ψ : Int32 → Me → Prop} (h1 : tT bt tn s = X → Ψ 1 μ) (h0 : ¬ tT bt tn s = X → Ψ 0 μ) : VI N 1 mX12_isWord [.ref 130, .long (lI (wcode X)), .null] μ Ψ := by
  have hw := tok_w hb hX hX2 h14 h
  have hlt := (tT_lt (s := s) hb).2
  refine vb_wk (ls' := [.ref 130, .long (lI (wcode X))]) (And.intro rfl (And.intro rfl trivial)) (tX12_isWord_0 ?_)
  rw [h.2.2.1]
  simp (disch := omega) only [lit, Nat.add_sub_cancel, Nat.not_lt_zero, ↓m1_mI, nI_add, pk_mul, nx_and, nx_or, and31, sh_r, sh_1, nx_nand, Nat.and_one_is_mod, nI_clamp, nI_leI, nI_ltI, nI_eq, tb_1, vp_t, up2_a, up2_b, up2_c, br_1, br_0, true_and, and_true, mI_ne, mI_ne', mI_lt, mI_le, mI_nle, mI_nlt, pk_sub, mI_sub]
  refine ⟨fun q => ⟨fun q2 => ⟨_, rfl, h1 (hw.mp ⟨q, (lg_cmp_eq _ _).mp q2⟩)⟩, fun q2 => ⟨_, rfl, h0 (fun g => q2 ((lg_cmp_eq _ _).mpr (hw.mpr g).2))⟩⟩, fun q => ⟨_, rfl, h0 (fun g => q (hw.mpr g).1)⟩⟩
end RL
