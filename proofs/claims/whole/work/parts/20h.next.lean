/-! nextToken: a word -/
section RH
variable {N : Nat} {bt : Nat → Nat} {tn s : Nat}
theorem sub_nI {a b : Nat} (h : b ≤ a) : nI a - nI b = nI (a - b) := pk_sub h
theorem r_wrd161 {Φ : Me → Prop} (hs : s ≤ 300) : ∀ n j w (μ : Me), tn - j = n → j ≤ tn → s ≤ j → rTp bt tn μ.1 → μ.1 130 7 = nI j → μ.1 130 8 = nI s → μ.2 130 11 = lI w → (j - s ≤ 7 → w = wvl bt s (j - s)) → (∀ i, s ≤ i → i < j → bt i < 256) → (∀ (I' : Nat → Nat → Int32) (L' : Nat → Nat → Int64), (∀ c, c ≠ 130 → I' c = μ.1 c) → (∀ b, b ≠ 7 → I' 130 b = μ.1 130 b) → I' 130 7 = nI (rn tkL bt tn j) → (rn tkL bt tn j - s ≤ 7 → L' 130 11 = lI (wvl bt s (rn tkL bt tn j - s))) → (¬ rn tkL bt tn j - s ≤ 7 → L' 130 11 = lI 0) → Φ (I', L')) → VB N 3 mX12_nextToken 161 [.ref 130] [] μ (fun r μ' => r = none ∧ Φ μ') := by
  intro n
  have fin : ∀ j w (μ : Me), j ≤ 300 → s ≤ j → rn tkL bt tn j = j → μ.1 130 7 = nI j → μ.1 130 8 = nI s → μ.2 130 11 = lI w → (j - s ≤ 7 → w = wvl bt s (j - s)) → (∀ (I' : Nat → Nat → Int32) (L' : Nat → Nat → Int64), (∀ c, c ≠ 130 → I' c = μ.1 c) → (∀ b, b ≠ 7 → I' 130 b = μ.1 130 b) → I' 130 7 = nI (rn tkL bt tn j) → (rn tkL bt tn j - s ≤ 7 → L' 130 11 = lI (wvl bt s (rn tkL bt tn j - s))) → (¬ rn tkL bt tn j - s ≤ 7 → L' 130 11 = lI 0) → Φ (I', L')) → br ((μ.1 130 7 - μ.1 130 8) ≤ (7 : Int32)) (Φ μ) (Φ (μ.1, up2 μ.2 130 11 (0 : Int64))) := by
    intro j w μ h2 h3 hr h7 h8 hw hww K
    rw [hr] at K
    rw [h7, h8, sub_nI h3]
    refine ⟨fun g => ?_, fun g => ?_⟩
    · have g' : j - s ≤ 7 := by
        have := i_le.mp g
        rw [nI_toInt (by omega), show Int32.toInt 7 = 7 from rfl] at this
        omega
      exact K μ.1 μ.2 (fun _ _ => rfl) (fun _ _ => rfl) h7 (fun _ => by rw [hw, hww g']) (fun q => absurd g' q)
    · have g' : ¬ j - s ≤ 7 := fun q => g (nI_le (b := 7) q (by omega))
      exact K μ.1 _ (fun _ _ => rfl) (fun _ _ => rfl) h7 (fun q => absurd q g') (fun _ => up2_c)
  induction n with
  | zero =>
    intro j w μ h1 h2 h3 h h7 h8 hw hww hbt K
    have ht := h.2.2.1
    refine tX12_nextToken_161 ?_
    rw [h7]
    refine r_byte h (by omega) (fun g => absurd g (by omega)) (fun _ => ?_)
    refine vi_b (fun Ψ => r_isL) (fun g => absurd g (fun q => q.elim (rg_m (by decide)) (rg_m (by decide)))) (fun _ => ?_)
    have := fin j w μ (by omega) h3 (rn_no (by omega)) h7 h8 hw hww K
    exact ⟨fun q => ⟨rfl, this.1 q⟩, fun q => ⟨rfl, this.2 q⟩⟩
  | succ n ih =>
    intro j w μ h1 h2 h3 h h7 h8 hw hww hbt K
    have ht := h.2.2.1
    have hj : j < tn := by omega
    have hv := h.2.2.2 j hj
    refine tX12_nextToken_161 ?_
    rw [h7]
    refine r_byte h (by omega) (fun _ => ?_) (fun g => absurd hj g)
    refine vi_b (fun Ψ => r_isL) (fun g => ?_) (fun g => ?_)
    · have gl : tkL (bt j) = true := (rg_L (by omega)).mp g
      rw [rn_go hj gl] at K
      by_cases g7 : 7 ≤ j - s
      · simp (disch := omega) only [lit, Nat.add_sub_cancel, Nat.not_lt_zero, ↓m1_mI, nI_add, pk_mul, nx_and, nx_or, and31, sh_r, sh_1, nx_nand, Nat.and_one_is_mod, nI_clamp, nI_leI, nI_ltI, nI_eq, tb_1, vp_t, up2_a, up2_b, up2_c, br_1, br_0, true_and, and_true, mI_ne, mI_ne', mI_lt, mI_le, mI_nle, mI_nlt, pk_sub, mI_sub, h7, h8, eq_true g7]
        refine ih (j + 1) w _ (by omega) (by omega) (by omega) (h.fr ?_ ?_) ?_ ?_ hw (fun q => absurd q (by omega)) (fun i q1 q2 => ?_) (fun I' L' b1 b2 b3 b4 b5 => K I' L' (fun c hc => ?_) (fun b hb => ?_) b3 b4 b5)
        · simp (disch := omega) only [up2_b]
        · simp (disch := omega) only [up2_ne]
        · simp (disch := omega) only [up2_c]
        · simp (disch := omega) only [up2_b, h8]
        · exact h.2.2.2 i (by omega)
        · rw [b1 c hc]; simp (disch := omega) only [up2_ne]
        · rw [b2 b hb]; simp (disch := omega) only [up2_b]
      · simp (disch := omega) only [lit, Nat.add_sub_cancel, Nat.not_lt_zero, ↓m1_mI, nI_add, pk_mul, nx_and, nx_or, and31, sh_r, sh_1, nx_nand, Nat.and_one_is_mod, nI_clamp, nI_leI, nI_ltI, nI_eq, tb_1, vp_t, up2_a, up2_b, up2_c, br_1, br_0, true_and, and_true, mI_ne, mI_ne', mI_lt, mI_le, mI_nle, mI_nlt, pk_sub, mI_sub, h7, h8, eq_false g7]
        refine r_byte h (by omega) (fun _ => ?_) (fun g => absurd hj g)
        have hw' := hww (by omega)
        have hwl : wvl bt s (j - s) < 2 ^ 48 := Nat.lt_of_lt_of_le (wvl_lt (j - s) (fun i hi => h.2.2.2 (s + i) (by omega))) (by have : (256 : Nat) ^ (j - s) ≤ 256 ^ 6 := Nat.pow_le_pow_right (by decide) (by omega); omega)
        refine ih (j + 1) (wvl bt s (j + 1 - s)) _ (by omega) (by omega) (by omega) (h.fr ?_ ?_) ?_ ?_ ?_ (fun q => rfl) (fun i q1 q2 => ?_) (fun I' L' b1 b2 b3 b4 b5 => K I' L' (fun c hc => ?_) (fun b hb => ?_) b3 b4 b5)
        · simp (disch := omega) only [up2_b]
        · simp (disch := omega) only [up2_ne]
        · simp (disch := omega) only [up2_c, h7, nI_add]
        · simp (disch := omega) only [up2_b, h8]
        · simp only [up2_c]
          rw [hw, hw']
          refine (lI_sh hwl (b := bt j) (by omega)).trans ?_
          rw [show j + 1 - s = (j - s) + 1 by omega]
          show lI (wvl bt s (j - s) * 256 + bt j) = lI (wvl bt s (j - s) * 256 + bt (s + (j - s)))
          rw [show s + (j - s) = j by omega]
        · exact h.2.2.2 i (by omega)
        · rw [b1 c hc]; simp (disch := omega) only [up2_ne]
        · rw [b2 b hb]; simp (disch := omega) only [up2_b]
    · have gl : ¬ tkL (bt j) = true := fun q => g ((rg_L (by omega)).mpr q)
      have := fin j w μ (by omega) h3 (rn_no (fun q => gl q.2)) h7 h8 hw hww K
      exact ⟨fun q => ⟨rfl, this.1 q⟩, fun q => ⟨rfl, this.2 q⟩⟩
end RH
