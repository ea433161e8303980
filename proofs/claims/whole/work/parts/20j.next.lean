/-! nextToken, whole -/
section RJ
variable {N : Nat} {bt : Nat → Nat} {tn : Nat} {Φ : Me → Prop}
theorem Nx.tr {μ μ1 μ2 : Me} (h : Nx μ μ1) (h2 : Nx μ1 μ2) : Nx μ μ2 := ⟨fun c hc => (h2.1 c hc).trans (h.1 c hc), fun b hb => (h2.2 b hb).trans (h.2 b hb)⟩
theorem rTp.nx {μ μ1 : Me} (h : rTp bt tn μ.1) (h2 : Nx μ μ1) : rTp bt tn μ1.1 := h.fr (h2.2 4 (by omega)) (h2.1 134 (by omega))
theorem r_next : ∀ n i (μ : Me), tn - i = n → i ≤ tn → rTp bt tn μ.1 → μ.1 130 7 = nI i → (∀ μ', Nx μ μ' → RT bt tn (rn tkB bt tn i) μ' → Φ μ') → VU N 3 mX12_nextToken [.ref 130] μ Φ := by
  intro n
  induction n with
  | zero =>
    intro i μ h1 h2 h h7 K
    have ht := h.2.2.1
    rw [rn_no (by omega)] at K
    refine tX12_nextToken_0 ?_
    rw [h7]
    refine r_byte h (by omega) (fun g => absurd g (by omega)) (fun _ => ⟨fun g => absurd g (by decide), fun _ => ?_⟩)
    rw [h7]
    refine r_byte h (by omega) (fun g => absurd g (by omega)) (fun _ => ⟨fun g => absurd g (by decide), fun _ => ?_⟩)
    rw [h7]
    have n1 : Nx μ (up2 μ.1 130 8 (nI i), μ.2) := ⟨fun c hc => by simp (disch := omega) only [up2_ne], fun b hb => by simp (disch := omega) only [up2_b]⟩
    refine r_byte (μ := (up2 μ.1 130 8 (nI i), μ.2)) (h.nx n1) (by omega) (fun g => absurd g (by omega)) (fun _ => ⟨fun g => absurd g (by decide), fun _ => ⟨rfl, ?_⟩⟩)
    refine K _ (n1.tr ⟨fun c hc => by simp (disch := omega) only [up2_ne], fun b hb => by simp (disch := omega) only [up2_b]⟩) ⟨?_, ?_, ?_, fun q => absurd q (by omega), fun q => absurd q (by omega)⟩
    · simp (disch := omega) only [up2_b, up2_c]
    · rw [if_neg (by omega)]; simp (disch := omega) only [up2_b, h7]
    · unfold rTok; rw [if_neg (by omega)]; simp only [up2_c]; rfl
  | succ n ih =>
    intro i μ h1 h2 h h7 K
    have ht := h.2.2.1
    have hi : i < tn := by omega
    have hv := h.2.2.2 i hi
    have blank : tkB (bt i) = true → VU N 3 mX12_nextToken [.ref 130] (up2 μ.1 130 7 (nI i + (1 : Int32)), μ.2) Φ := by
      intro q
      rw [rn_go hi q] at K
      have n1 : Nx μ (up2 μ.1 130 7 (nI i + (1 : Int32)), μ.2) := ⟨fun c hc => by simp (disch := omega) only [up2_ne], fun b hb => by simp (disch := omega) only [up2_b]⟩
      exact ih (i + 1) _ (by omega) (by omega) (h.nx n1) (by simp only [up2_c]; exact nI_add i 1) (fun μ' q1 q2 => K μ' (n1.tr q1) q2)
    refine tX12_nextToken_0 ?_
    rw [h7]
    refine r_byte h (by omega) (fun _ => ⟨fun g => ?_, fun e1 => ?_⟩) (fun g => absurd hi g)
    · rw [h7]
      exact blank (by have := nI_inj (b := 32) g (by omega) (by omega); unfold tkB; simp [this])
    rw [h7]
    refine r_byte h (by omega) (fun _ => ⟨fun g => ?_, fun e2 => ?_⟩) (fun g => absurd hi g)
    · rw [h7]
      exact blank (by have := nI_inj (b := 10) g (by omega) (by omega); unfold tkB; simp [this])
    rw [h7]
    have nb : rn tkB bt tn i = i := rn_no (fun q => by
      have : bt i = 32 ∨ bt i = 10 := by have := q.2; unfold tkB at this; simpa using this
      rcases this with q | q
      · exact e1 (by rw [q]; rfl)
      · exact e2 (by rw [q]; rfl))
    rw [nb] at K
    have n1 : Nx μ (up2 μ.1 130 8 (nI i), μ.2) := ⟨fun c hc => by simp (disch := omega) only [up2_ne], fun b hb => by simp (disch := omega) only [up2_b]⟩
    have t1 := h.nx n1
    refine r_byte (μ := (up2 μ.1 130 8 (nI i), μ.2)) t1 (by omega) (fun _ => ⟨fun _ => ?_, fun g => absurd (nI_le (a := 0) (by omega) (by omega)) g⟩) (fun g => absurd hi g)
    refine vi_b (fun Ψ => r_isD) (fun g => ?_) (fun g => ?_)
    · have gd := (rg_D (x := bt i) (by omega)).mp g
      refine r_num85 (bt := bt) (tn := tn) _ i 0 _ rfl h2 (by omega) (t1.fr ?_ ?_) ?_ ?_ (fun I' b1 b2 b3 b4 => ?_)
      · simp (disch := omega) only [up2_b]
      · simp (disch := omega) only [up2_ne]
      · simp (disch := omega) only [up2_b, h7]
      · simp only [up2_c]; rfl
      · have ee : rn tkD bt tn i = tE bt tn i := by rw [(tE_D gd).1, rn_go hi gd]
        rw [ee] at b3 b4
        refine K _ ⟨fun c hc => ?_, fun b hb => ?_⟩ ⟨?_, ?_, ?_, fun _ _ => b4, fun _ q => absurd q (tE_D (tn := tn) gd).2⟩
        · refine (b1 c hc).trans ?_; simp (disch := omega) only [up2_ne]
        · refine (b2 b (by omega) (by omega)).trans ?_; simp (disch := omega) only [up2_b]
        · refine (b2 8 (by omega) (by omega)).trans ?_; simp (disch := omega) only [up2_b, up2_c]
        · rw [if_pos hi]; exact b3
        · refine (b2 9 (by omega) (by omega)).trans ?_; unfold rTok; rw [if_pos hi, if_pos gd]; simp (disch := omega) only [up2_b, up2_c]; rfl
    · have gd : ¬ tkD (bt i) = true := fun q => g ((rg_D (by omega)).mpr q)
      refine vi_b (fun Ψ => r_isL) (fun g => ?_) (fun g => ?_)
      · have gl := (rg_L (x := bt i) (by omega)).mp g
        refine r_wrd161 (bt := bt) (tn := tn) (s := i) (by omega) _ i 0 _ rfl h2 (Nat.le_refl _) (t1.fr ?_ ?_) ?_ ?_ ?_ (fun _ => by rw [Nat.sub_self]; rfl) (fun j q1 q2 => absurd q2 (by omega)) (fun I' L' b1 b2 b3 b4 b5 => ?_)
        · simp (disch := omega) only [up2_b]
        · simp (disch := omega) only [up2_ne]
        · simp (disch := omega) only [up2_b, h7]
        · simp (disch := omega) only [up2_b, up2_c]
        · simp only [up2_c]; rfl
        · have ee : rn tkL bt tn i = tE bt tn i := by rw [(tE_L gl).1, rn_go hi gl]
          rw [ee] at b3 b4 b5
          refine K _ ⟨fun c hc => ?_, fun b hb => ?_⟩ ⟨?_, ?_, ?_, fun _ q => absurd q gd, fun _ _ => ⟨b4, b5⟩⟩
          · refine (b1 c hc).trans ?_; simp (disch := omega) only [up2_ne]
          · refine (b2 b (by omega)).trans ?_; simp (disch := omega) only [up2_b]
          · refine (b2 8 (by omega)).trans ?_; simp (disch := omega) only [up2_b, up2_c]
          · rw [if_pos hi]; exact b3
          · refine (b2 9 (by omega)).trans ?_; unfold rTok; rw [if_pos hi, if_neg gd, if_pos gl]; simp (disch := omega) only [up2_b, up2_c]; rfl
      · have gl : ¬ tkL (bt i) = true := fun q => g ((rg_L (by omega)).mpr q)
        have n2 : Nx μ (up2 (up2 μ.1 130 8 (nI i)) 130 7 (nI (i + 1)), μ.2) := ⟨fun c hc => by simp (disch := omega) only [up2_ne], fun b hb => by simp (disch := omega) only [up2_b]⟩
        have sg := r_sign (N := N) (μ := (up2 (up2 μ.1 130 8 (nI i)) 130 7 (nI (i + 1)), μ.2)) (s := i) (h.nx n2) hi gd gl (by simp only [up2_c]) (by simp (disch := omega) only [up2_b, up2_c]) (fun μ' q1 q2 => K μ' (n2.tr q1) q2)
        have e327 : tkS (bt i) = true → VB N 3 mX12_nextToken 327 [.ref 130, .int (nI (bt i))] [] (up2 (up2 μ.1 130 8 (nI i)) 130 7 (nI (i + 1)), μ.2) (fun r μ' => r = none ∧ Φ μ') := fun q => tX12_nextToken_327 (tX12_nextToken_332 ⟨fun e => absurd e (by decide), fun _ => sg (bt i) (by rw [if_pos q])⟩)
        simp (disch := omega) only [lit, Nat.add_sub_cancel, Nat.not_lt_zero, ↓m1_mI, nI_add, pk_mul, nx_and, nx_or, and31, sh_r, sh_1, nx_nand, Nat.and_one_is_mod, nI_clamp, nI_leI, nI_ltI, nI_eq, tb_1, vp_t, up2_a, up2_b, up2_c, br_1, br_0, true_and, and_true, mI_ne, mI_ne', mI_lt, mI_le, mI_nle, mI_nlt, pk_sub, mI_sub, h7]
        refine ⟨fun q => e327 ?_, fun q1 => ⟨fun q => e327 ?_, fun q2 => ⟨fun q => e327 ?_, fun q3 => ⟨fun q => e327 ?_, fun q4 => ⟨fun q => e327 ?_, fun q5 => ⟨fun q => e327 ?_, fun q6 => ⟨fun q => e327 ?_, fun q7 => ⟨fun q => e327 ?_, fun q8 => ⟨fun q => e327 ?_, fun q9 => ⟨fun q => e327 ?_, fun q10 => ⟨fun q => e327 ?_, fun q11 => ⟨fun q => e327 ?_, fun q12 => ?_⟩⟩⟩⟩⟩⟩⟩⟩⟩⟩⟩⟩
        any_goals (unfold tkS; simp; omega)
        exact tX12_nextToken_332 ⟨fun _ => sg 3 (by rw [if_neg (by unfold tkS; simp; omega)]), fun e => absurd rfl e⟩
end RJ
