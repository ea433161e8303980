/-! chain, weakest: the reference, and both -/
section CR_
variable {N : Nat} {μ : Me} {B B' R T tp : Nat → Nat} {tn : Nat} {ft fp : Int32} {e : Nat → Nat} {g : Nat}
def mJ : Int32 := -2
theorem m2_mJ : (-2 : Int32) = mJ := rfl
theorem mJ_ne {n : Nat} (h : n < 2 ^ 31) : ¬ nI n = mJ := by
  intro q
  have := nI_toInt h
  rw [q] at this
  have h2 : mJ.toInt = -2 := by decide
  omega
theorem bI_mJ {b : Nat} (h : b < 2 ^ 31) : ¬ bI b = mJ := by
  unfold bI
  split
  · decide
  · exact mJ_ne h
theorem r_firstRule {f : Nat} {Ψ : Int32 → Me → Prop} (hB : rowB B (μ.1 131)) (hW : WB B) (hT : RuL B T μ.1) (wT : WT T) (he9 : ∀ f, e f ≤ 9) (hf : f < 16) (hne : ¬ e f = shP T e 99 f) (h140 : ∀ f, f < 16 → μ.1 140 f = nI (shP T e 99 f)) (h : Ψ (nI (rsP T e f)) μ) : VI N 3 mX12_firstRule [.ref 130, .int (nI f)] μ Ψ := by
  have h16 := wT.1.2
  obtain ⟨s1, s2, s3, s4, s5⟩ := rsP_sp wT hf hne
  have hs9 : ∀ f, shP T e 99 f ≤ 9 := fun f => shN_9 wT he9 16 f
  refine tX12_firstRule_0 ?_
  refine vb_up (fun k => [.ref 130, .int (nI f), .int (nI k)]) (fun _ => μ) (rsP T e f) (fun k hk K => ?_) ?_
  · have hk0 : k < T 0 := by omega
    have h4 := hT.pos hk0
    have hca := ca_lt hW (show k < 16 by omega)
    have hfl := hT.f h4
    have g2 : ¬ T 0 ≤ k := by omega
    have h9f := hs9 f
    refine tX12_firstRule_2 (r_clauses hB hW hT ?_)
    simp (disch := omega) only [lit, Nat.add_sub_cancel, Nat.not_lt_zero, ↓m1_mI, nI_add, pk_mul, nx_and, nx_or, and31, sh_r, sh_1, nx_nand, Nat.and_one_is_mod, nI_clamp, nI_leI, nI_ltI, nI_eq, tb_1, vp_t, up2_a, up2_b, up2_c, br_1, br_0, true_and, and_true, mI_ne, mI_ne', mI_lt, mI_le, mI_nle, mI_nlt, pk_sub, mI_sub, eq_false g2]
    refine vi_b (fun Ψ => r_isRule hB hW hT wT hk0) (fun q => ?_) (fun q => K)
    have hw := wT.2.1 k hk0 q
    refine r_clauseAt hB hW h4 ?_
    simp (disch := omega) only [lit, Nat.add_sub_cancel, Nat.not_lt_zero, ↓m1_mI, nI_add, pk_mul, nx_and, nx_or, and31, sh_r, sh_1, nx_nand, Nat.and_one_is_mod, nI_clamp, nI_leI, nI_ltI, nI_eq, tb_1, vp_t, up2_a, up2_b, up2_c, br_1, br_0, true_and, and_true, mI_ne, mI_ne', mI_lt, mI_le, mI_nle, mI_nlt, pk_sub, mI_sub, hfl]
    refine ⟨fun q2 => ?_, fun q2 => K⟩
    refine r_strong (b := 99) hB hW hT wT (Or.inr rfl) hk0 q hs9 (fun j hj => h140 j (by omega)) ?_
    have hst := stg_w (T := T) (sh := shP T e 99) (b := 99) (k := k)
    simp (disch := omega) only [lit, Nat.add_sub_cancel, Nat.not_lt_zero, ↓m1_mI, nI_add, pk_mul, nx_and, nx_or, and31, sh_r, sh_1, nx_nand, Nat.and_one_is_mod, nI_clamp, nI_leI, nI_ltI, nI_eq, tb_1, vp_t, up2_a, up2_b, up2_c, br_1, br_0, true_and, and_true, mI_ne, mI_ne', mI_lt, mI_le, mI_nle, mI_nlt, pk_sub, mI_sub, h140]
    exact ⟨fun z => absurd ⟨q, q2, z⟩ (s5 k hk), fun _ => K⟩
  · have h4 := hT.pos s1
    have hca := ca_lt hW (show rsP T e f < 16 by omega)
    have hfl := hT.f h4
    have g2 : ¬ T 0 ≤ rsP T e f := by omega
    have h9f := hs9 f
    refine tX12_firstRule_2 (r_clauses hB hW hT ?_)
    simp (disch := omega) only [lit, Nat.add_sub_cancel, Nat.not_lt_zero, ↓m1_mI, nI_add, pk_mul, nx_and, nx_or, and31, sh_r, sh_1, nx_nand, Nat.and_one_is_mod, nI_clamp, nI_leI, nI_ltI, nI_eq, tb_1, vp_t, up2_a, up2_b, up2_c, br_1, br_0, true_and, and_true, mI_ne, mI_ne', mI_lt, mI_le, mI_nle, mI_nlt, pk_sub, mI_sub, eq_false g2]
    refine vi_b (fun Ψ => r_isRule hB hW hT wT s1) (fun q => ?_) (fun q => absurd s2 q)
    refine r_clauseAt hB hW h4 ?_
    simp (disch := omega) only [lit, Nat.add_sub_cancel, Nat.not_lt_zero, ↓m1_mI, nI_add, pk_mul, nx_and, nx_or, and31, sh_r, sh_1, nx_nand, Nat.and_one_is_mod, nI_clamp, nI_leI, nI_ltI, nI_eq, tb_1, vp_t, up2_a, up2_b, up2_c, br_1, br_0, true_and, and_true, mI_ne, mI_ne', mI_lt, mI_le, mI_nle, mI_nlt, pk_sub, mI_sub, hfl, eq_true s3]
    refine r_strong (b := 99) hB hW hT wT (Or.inr rfl) s1 s2 hs9 (fun j hj => h140 j (by omega)) ?_
    rw [s4]
    simp (disch := omega) only [lit, Nat.add_sub_cancel, Nat.not_lt_zero, ↓m1_mI, nI_add, pk_mul, nx_and, nx_or, and31, sh_r, sh_1, nx_nand, Nat.and_one_is_mod, nI_clamp, nI_leI, nI_ltI, nI_eq, tb_1, vp_t, up2_a, up2_b, up2_c, br_1, br_0, true_and, and_true, mI_ne, mI_ne', mI_lt, mI_le, mI_nle, mI_nlt, pk_sub, mI_sub, h140]
    exact ⟨_, rfl, h⟩
def stR (T e : Nat → Nat) (g f : Nat) : Int32 := if (wnN T e g 16).testBit f = true then bI (rsP T e f) else mJ
theorem r_findChain {set v : Nat} {Ψ : Int32 → Me → Prop} (hB : rowB B (μ.1 131)) (hW : WB B) (hT : RuL B T μ.1) (wT : WT T) (hs : set < 2 ^ B 0) (hv : v < B 1) (k1 : fP B T (eS B T set (B 0)) 99 v → ∀ μ' : Me, Ag scR μ.1 μ'.1 → (∀ f, f < 16 → μ'.1 139 f = nI (eS B T set (B 0) f)) → (∀ f, f < 16 → μ'.1 140 f = nI (shP T (eS B T set (B 0)) 99 f)) → (∀ f, f < 16 → μ'.1 142 f = stR T (eS B T set (B 0)) (B (60 + 3 * v)) f) → Ψ 1 μ') (k0 : ¬ fP B T (eS B T set (B 0)) 99 v → ∀ μ' : Me, Ag scR μ.1 μ'.1 → Ψ 0 μ') : VI N 7 mX12_findChain [.ref 130, .int (nI set), .int (nI v)] μ Ψ := by
  have hn := hW.n
  have h16 := wT.1.2
  have hvv := hW.v hv
  have he9 : ∀ f, eS B T set (B 0) f ≤ 9 := eS_9 hW (Nat.le_refl _)
  generalize heS : eS B T set (B 0) = e at *
  generalize hgv : B (60 + 3 * v) = g at *
  have hs9 : ∀ f, shP T e 99 f ≤ 9 := fun f => shN_9 wT he9 16 f
  refine tX12_findChain_0 (r_ask hB hW hT wT (fun μ1 a1 s1 => ?_))
  have hB1 : rowB B (μ1.1 131) := by rw [a1 131 (by decide)]; exact hB
  have c1 : Ag scR μ.1 μ1.1 := a1.mono (by decide)
  refine r_fby (b := 99) hB1 hW (hT.fr (a1 133 (by decide))) wT (Or.inr rfl) hs hv s1 (fun μ2 a2 d2 d3 gq => ⟨fun q => absurd q (by decide), fun _ => ?_⟩) (fun μ2 a2 _ _ gq => ⟨fun _ => ⟨_, rfl, k0 (by rw [heS] at gq; exact gq) μ2 (c1.tr (a2.mono (by decide)))⟩, fun q => absurd rfl q⟩)
  rw [heS] at d2 d3 gq
  have c2 : Ag scR μ.1 μ2.1 := c1.tr (a2.mono (by decide))
  refine vb_for (N := N) (d := 7) (M := mX12_findChain) (hd := 18) (τ := Me) (fun i _ => [.ref 130, .null, .int (nI v), .int (nI i)]) (fun _ ν => ν) 16 (fun i ν => Ag [142] μ2.1 ν.1 ∧ ∀ f, f < i → ν.1 142 f = mJ) ?_ ?_ 0 μ2 (by omega) ⟨Ag.rf, fun f hf => by omega⟩
  · intro i ν hi ⟨hA, h2⟩ K'
    have g1 : ¬ 16 ≤ i := by omega
    refine tX12_findChain_18 ?_
    simp (disch := omega) only [lit, Nat.add_sub_cancel, Nat.not_lt_zero, ↓m1_mI, nI_add, pk_mul, nx_and, nx_or, and31, sh_r, sh_1, nx_nand, Nat.and_one_is_mod, nI_clamp, nI_leI, nI_ltI, nI_eq, tb_1, vp_t, up2_a, up2_b, up2_c, br_1, br_0, true_and, and_true, mI_ne, mI_ne', mI_lt, mI_le, mI_nle, mI_nlt, pk_sub, mI_sub, eq_false g1, ↓m2_mJ]
    refine K' _ ⟨hA.up (by decide), fun f hf => ?_⟩
    by_cases ef : f = i
    · subst ef; simp only [up2_c]
    · simp (disch := omega) only [up2_b]
      exact h2 f (by omega)
  · intro ν ⟨hA, h2⟩
    have hB3 : rowB B (ν.1 131) := by rw [hA 131 (by decide), c2 131 (by decide)]; exact hB
    have rB := hB3.1
    refine tX12_findChain_18 ?_
    simp (disch := omega) only [lit, Nat.add_sub_cancel, Nat.not_lt_zero, ↓m1_mI, nI_add, pk_mul, nx_and, nx_or, and31, sh_r, sh_1, nx_nand, Nat.and_one_is_mod, nI_clamp, nI_leI, nI_ltI, nI_eq, tb_1, vp_t, up2_a, up2_b, up2_c, br_1, br_0, true_and, and_true, mI_ne, mI_ne', mI_lt, mI_le, mI_nle, mI_nlt, pk_sub, mI_sub, Nat.le_refl]
    refine tX12_factOf_0 ?_
    simp (disch := omega) only [lit, Nat.add_sub_cancel, Nat.not_lt_zero, ↓m1_mI, nI_add, pk_mul, nx_and, nx_or, and31, sh_r, sh_1, nx_nand, Nat.and_one_is_mod, nI_clamp, nI_leI, nI_ltI, nI_eq, tb_1, vp_t, up2_a, up2_b, up2_c, br_1, br_0, true_and, and_true, mI_ne, mI_ne', mI_lt, mI_le, mI_nle, mI_nlt, pk_sub, mI_sub, rB]
    refine ⟨_, rfl, ?_⟩
    rw [hgv]
    simp (disch := omega) only [lit, Nat.add_sub_cancel, Nat.not_lt_zero, ↓m1_mI, nI_add, pk_mul, nx_and, nx_or, and31, sh_r, sh_1, nx_nand, Nat.and_one_is_mod, nI_clamp, nI_leI, nI_ltI, nI_eq, tb_1, vp_t, up2_a, up2_b, up2_c, br_1, br_0, true_and, and_true, mI_ne, mI_ne', mI_lt, mI_le, mI_nle, mI_nlt, pk_sub, mI_sub]
    have Z := vb_wf (N := N) (d := 7) (M := mX12_findChain) (hd := 50) (Ψ := fun r μ' => ∃ v, r = some (.int v) ∧ Ψ v μ') (τ := Nat × Me) (fun x => [.ref 130, .null, .null, .int (nI (wnN T e g x.1)), .int (dI x.1)]) (fun x => x.2) (fun x => 16 - x.1) (fun x => x.1 ≤ 16 ∧ Ag [142] μ2.1 x.2.1 ∧ (∀ f, f < 16 → 16 - x.1 ≤ f → x.2.1 142 f = stR T e g f) ∧ ∀ f, f < 16 - x.1 → x.2.1 142 f = mJ) ?_ (0, ν) ⟨by omega, hA, fun f h1 h2 => by omega, fun f hf => h2 f hf⟩
    · exact Z
    · rintro ⟨n, ξ⟩ ⟨hn16, hAx, hS, hM⟩ K'
      dsimp only at hn16 hAx hS hM K' ⊢
      refine tX12_findChain_50 ?_
      by_cases en : n = 16
      · subst en
        have e1 : dI 16 = mI := rfl
        rw [e1]
        refine ⟨fun _ => ⟨_, rfl, k1 gq ξ (c2.tr (hAx.mono (by decide))) (fun f hf => by rw [hAx 139 (by decide)]; exact d2 f hf) (fun f hf => by rw [hAx 140 (by decide)]; exact d3 f hf) (fun f hf => hS f hf (by omega))⟩, fun z => absurd (by decide) z⟩
      · have e1 : dI n = nI (15 - n) := by unfold dI; rw [if_neg en]
        have hw := wnN_lt (e := e) (g := g) wT hvv.1 n
        have hst := wnN_st (e := e) (g := g) (n := n) (m := 16) (j := 15 - n) wT hn16 (Nat.le_refl _) (Nat.le_refl _)
        have es : wnN T e g (n + 1) = if (wnN T e g n).testBit (15 - n) = true then wnN T e g n ||| ndP T e (15 - n) else wnN T e g n := rfl
        have hBx : rowB B (ξ.1 131) := by rw [hAx 131 (by decide), c2 131 (by decide)]; exact hB
        have hTx : RuL B T ξ.1 := hT.fr (by rw [hAx 133 (by decide), c2 133 (by decide)])
        have r139 : ξ.1 139 (15 - n) = nI (e (15 - n)) := by rw [hAx 139 (by decide)]; exact d2 _ (by omega)
        have h140 : ∀ f, f < 16 → ξ.1 140 f = nI (shP T e 99 f) := fun f hf => by rw [hAx 140 (by decide)]; exact d3 f hf
        have r140 := h140 (15 - n) (by omega)
        have b9 := he9 (15 - n)
        have s9 := hs9 (15 - n)
        rw [e1]
        simp (disch := omega) only [lit, Nat.add_sub_cancel, Nat.not_lt_zero, ↓m1_mI, nI_add, pk_mul, nx_and, nx_or, and31, sh_r, sh_1, nx_nand, Nat.and_one_is_mod, nI_clamp, nI_leI, nI_ltI, nI_eq, tb_1, vp_t, up2_a, up2_b, up2_c, br_1, br_0, true_and, and_true, mI_ne, mI_ne', mI_lt, mI_le, mI_nle, mI_nlt, pk_sub, mI_sub]
        refine vi_b (fun Ψ => r_hasB (by omega) (by omega)) (fun hb => ?_) (fun hb => ?_)
        · have fin : VB N 7 mX12_findChain 100 [.ref 130, .null, .null, .int (nI (wnN T e g n)), .int (nI (15 - n))] [.int (bI (rsP T e (15 - n))), .int (nI (15 - n)), .ref 142] ξ (fun r μ' => ∃ v, r = some (.int v) ∧ Ψ v μ') := by
            refine tX12_findChain_100 ?_
            simp (disch := omega) only [lit, Nat.add_sub_cancel, Nat.not_lt_zero, ↓m1_mI, nI_add, pk_mul, nx_and, nx_or, and31, sh_r, sh_1, nx_nand, Nat.and_one_is_mod, nI_clamp, nI_leI, nI_ltI, nI_eq, tb_1, vp_t, up2_a, up2_b, up2_c, br_1, br_0, true_and, and_true, mI_ne, mI_ne', mI_lt, mI_le, mI_nle, mI_nlt, pk_sub, mI_sub]
            rw [dI_s (by omega)]
            have Kn := K' (n + 1, (up2 ξ.1 142 (15 - n) (bI (rsP T e (15 - n))), ξ.2)) ⟨by omega, hAx.up (by decide), fun f hf h1 => ?_, fun f hf => ?_⟩ (by omega)
            · dsimp only at Kn
              rw [es, if_pos hb] at Kn
              by_cases hr : rsP T e (15 - n) = 99
              · have e2 : bI (rsP T e (15 - n)) = mI := by unfold bI; rw [if_pos hr]
                have e3 : ndP T e (15 - n) = 0 := by unfold ndP; rw [if_pos hr]
                rw [e3, Nat.or_zero] at Kn
                rw [e2] at Kn ⊢
                exact ⟨fun _ => Kn, fun z => absurd (by decide) z⟩
              · have s := rsP_sp (e := e) wT (show 15 - n < 16 by omega) (fun z => hr ((rsP_99 wT (by omega)).mpr z))
                have hlt := s.1
                have e2 : bI (rsP T e (15 - n)) = nI (rsP T e (15 - n)) := by unfold bI; rw [if_neg hr]
                have e3 : ndP T e (15 - n) = fl T (rsP T e (15 - n)) 4 := by unfold ndP; rw [if_neg hr]
                rw [e3] at Kn
                rw [e2] at Kn ⊢
                have h4 := hTx.pos hlt
                have hca := ca_lt hW (show rsP T e (15 - n) < 16 by omega)
                have hfl := hTx.f h4
                have hBy : rowB B ((((up2 ξ.1 142 (15 - n) (nI (rsP T e (15 - n))), ξ.2) : Me).1) 131) := by
                  show rowB B (up2 ξ.1 142 (15 - n) (nI (rsP T e (15 - n))) 131)
                  rw [up2_ne (by decide)]; exact hBx
                refine ⟨fun z => absurd z (nI_pos (by omega)), fun _ => ?_⟩
                refine r_clauseAt hBy hW h4 ?_
                simp (disch := omega) only [lit, Nat.add_sub_cancel, Nat.not_lt_zero, ↓m1_mI, nI_add, pk_mul, nx_and, nx_or, and31, sh_r, sh_1, nx_nand, Nat.and_one_is_mod, nI_clamp, nI_leI, nI_ltI, nI_eq, tb_1, vp_t, up2_a, up2_b, up2_c, br_1, br_0, true_and, and_true, mI_ne, mI_ne', mI_lt, mI_le, mI_nle, mI_nlt, pk_sub, mI_sub, hfl]
                exact Kn
            · by_cases ef : f = 15 - n
              · subst ef
                simp only [up2_c]
                unfold stR
                rw [if_pos (by rw [hst]; exact hb)]
              · simp (disch := omega) only [up2_b]
                exact hS f hf (by omega)
            · simp (disch := omega) only [up2_b]
              exact hM f (by omega)
          simp (disch := omega) only [lit, Nat.add_sub_cancel, Nat.not_lt_zero, ↓m1_mI, nI_add, pk_mul, nx_and, nx_or, and31, sh_r, sh_1, nx_nand, Nat.and_one_is_mod, nI_clamp, nI_leI, nI_ltI, nI_eq, tb_1, vp_t, up2_a, up2_b, up2_c, br_1, br_0, true_and, and_true, mI_ne, mI_ne', mI_lt, mI_le, mI_nle, mI_nlt, pk_sub, mI_sub, r139, r140]
          refine ⟨fun q => ?_, fun q => ?_⟩
          · have hr := (rsP_99 (e := e) wT (show 15 - n < 16 by omega)).mpr q
            have e2 : bI (rsP T e (15 - n)) = mI := by unfold bI; rw [if_pos hr]
            rw [e2] at fin
            exact fin
          · refine r_firstRule hBx hW hTx wT he9 (by omega) q h140 ?_
            have hr : ¬ rsP T e (15 - n) = 99 := fun z => q ((rsP_99 wT (by omega)).mp z)
            have e2 : bI (rsP T e (15 - n)) = nI (rsP T e (15 - n)) := by unfold bI; rw [if_neg hr]
            rw [e2] at fin
            exact fin
        · rw [dI_s (by omega)]
          have Kn := K' (n + 1, ξ) ⟨by omega, hAx, fun f hf h1 => ?_, fun f hf => hM f (by omega)⟩ (by omega)
          · dsimp only at Kn
            rw [es, if_neg hb] at Kn
            exact Kn
          · by_cases ef : f = 15 - n
            · subst ef
              rw [hM _ (by omega)]
              unfold stR
              rw [if_neg (by rw [hst]; exact hb)]
            · exact hS f hf (by omega)
end CR_
