/-! saidBy; of, hear, kinds -/
section SU
variable {N : Nat} {μ : Me} {B T : Nat → Nat} {Ψ : Int32 → Me → Prop}
theorem r_saidBy {w kd : Nat} (hB : rowB B (μ.1 131)) (hW : WB B) (hT : RuL B T μ.1) (wT : WT T) (hw : w < B 0) (hk : kd < 4) (K : ∀ μ' : Me, Ag [136, 138] μ.1 μ'.1 → Ψ (nI (saysP B T w kd)) μ') : VI N 4 mX12_saidBy [.ref 130, .int (nI w), .int (nI kd)] μ Ψ := by
  have hn := hW.n
  have h1 := hW.w hw
  have rB := hB.1
  have h16 := wT.1.2
  -- a law's place, or none
  have ex : ∀ s, s < 3 → ∃ x : Int32, (lk T s < T 0 → x = nI (lk T s)) ∧ (¬ lk T s < T 0 → x = mI) := by
    intro s _
    by_cases h : lk T s < T 0
    · exact ⟨_, fun _ => rfl, fun g => absurd h g⟩
    · exact ⟨mI, fun g => absurd g h, fun _ => rfl⟩
  obtain ⟨y1, y1a, y1b⟩ := ex 1 (by decide)
  obtain ⟨y2, y2a, y2b⟩ := ex 2 (by decide)
  refine tX12_saidBy_0 ?_
  have go : VI N 2 mX12_clauseOf [.ref 130, .int 2] μ (fun v2 μ2 => vp_in (10 + (5 * nI w)) 175 ∧ VU N 1 mX12_name [.ref 130, .int (nI w), .int (nI kd)] μ2 (fun μ3 => VB N 4 mX12_saidBy 38 [.ref 130, .null, .null, .int y1, .int v2, .int (μ2.1 131 (Int32.toNatClampNeg (10 + (5 * nI w)))), .int 0, .int 0] [] μ3 (fun r μ' => ∃ v, r = some (.int v) ∧ Ψ v μ'))) := by
    have go2 : vp_in (10 + (5 * nI w)) 175 ∧ VU N 1 mX12_name [.ref 130, .int (nI w), .int (nI kd)] μ (fun μ3 => VB N 4 mX12_saidBy 38 [.ref 130, .null, .null, .int y1, .int y2, .int (μ.1 131 (Int32.toNatClampNeg (10 + (5 * nI w)))), .int 0, .int 0] [] μ3 (fun r μ' => ∃ v, r = some (.int v) ∧ Ψ v μ')) := by
      simp (disch := omega) only [lit, Nat.add_sub_cancel, Nat.not_lt_zero, ↓m1_mI, nI_add, pk_mul, nx_and, nx_or, and31, sh_r, sh_1, nx_nand, Nat.and_one_is_mod, nI_clamp, nI_leI, nI_ltI, nI_eq, tb_1, vp_t, up2_a, up2_b, up2_c, br_1, br_0, true_and, and_true, mI_ne, mI_ne', mI_lt, mI_le, mI_nle, mI_nlt, pk_sub, mI_sub, rB]
      refine r_name hB hW hw hk (fun μ1 a1 d1 => ?_)
      have Z := vb_for (N := N) (d := 4) (M := mX12_saidBy) (hd := 38) (Ψ := fun r μ' => ∃ v, r = some (.int v) ∧ Ψ v μ') (τ := Me) (fun f _ => [.ref 130, .null, .null, .int y1, .int y2, .int (nI (B (10 + 5 * w))), .int (nI (bits f (fun f => if (B (10 + 5 * w)).testBit f = true then (if lk T 1 < T 0 then decide (valP T (nmP B w kd 0 f) (lk T 1) = 0) else true) else (if lk T 2 < T 0 then decide (valP T (nmP B w kd 0 f) (lk T 2) ≠ 0) else false)))), .int (nI f)]) (fun _ ν => ν) 16 (fun _ ν => Ag [136, 138] μ.1 ν.1 ∧ ∀ v, v < 4 → ν.1 136 v = μ1.1 136 v) ?_ ?_ 0 μ1 (by omega) ⟨a1.mono (by simp), fun _ _ => rfl⟩
      · exact Z
      · intro f ν hf ⟨hA, h136⟩ K'
        have g1 : ¬ 16 ≤ f := by omega
        refine tX12_saidBy_38 ?_
        simp (disch := omega) only [lit, Nat.add_sub_cancel, Nat.not_lt_zero, ↓m1_mI, nI_add, pk_mul, nx_and, nx_or, and31, sh_r, sh_1, nx_nand, Nat.and_one_is_mod, nI_clamp, nI_leI, nI_ltI, nI_eq, tb_1, vp_t, up2_a, up2_b, up2_c, br_1, br_0, true_and, and_true, mI_ne, mI_ne', mI_lt, mI_le, mI_nle, mI_nlt, pk_sub, mI_sub, eq_false g1]
        have hA1 : Ag [136, 138] μ.1 (up2 ν.1 136 6 (nI f)) := hA.up (by simp)
        have hB1 : rowB B ((((up2 ν.1 136 6 (nI f), ν.2) : Me).1) 131) := by
          show rowB B (up2 ν.1 136 6 (nI f) 131)
          rw [hA1 131 (by decide)]; exact hB
        have hT1 : RuL B T (((up2 ν.1 136 6 (nI f), ν.2) : Me).1) := hT.fr (hA1 133 (by decide))
        have hn1 : ∀ s, s ≠ 0 → ∀ v, v < 7 → (s = 0 → v ≠ 6) → (s ≠ 0 → v ≠ 4 ∧ v ≠ 5) → ((((up2 ν.1 136 6 (nI f), ν.2) : Me).1) 136 v).toInt = nmP B w kd 0 f v := by
          intro s hs v hv _ h45
          have h45 := h45 hs
          show (up2 ν.1 136 6 (nI f) 136 v).toInt = _
          by_cases e : v = 6
          · subst e
            rw [up2_c, nI_toInt (by omega)]
            rfl
          · rw [up2_b e, h136 v (by omega), d1 v (by omega)]
            unfold nmP
            have : v = 0 ∨ v = 1 ∨ v = 2 ∨ v = 3 := by omega
            rcases this with rfl | rfl | rfl | rfl <;> rfl
        have hA2 : ∀ ν' : Me, Ag [138] (up2 ν.1 136 6 (nI f)) ν'.1 → Ag [136, 138] μ.1 ν'.1 ∧ ∀ v, v < 4 → ν'.1 136 v = μ1.1 136 v := by
          intro ν' q
          refine ⟨hA1.tr (q.mono (by simp)), fun v hv => ?_⟩
          rw [q 136 (by decide), up2_b (by omega), h136 v hv]
        have hA3 := hA2 (up2 ν.1 136 6 (nI f), ν.2) Ag.rf
        -- behind the law's answer x, is it so?
        have fin : ∀ ν' : Me, Ag [136, 138] μ.1 ν'.1 → (∀ v, v < 4 → ν'.1 136 v = μ1.1 136 v) → ∀ x : Int32, (x = 0 ∨ x = 1) → ((if (B (10 + 5 * w)).testBit f = true then (if lk T 1 < T 0 then decide (valP T (nmP B w kd 0 f) (lk T 1) = 0) else true) else (if lk T 2 < T 0 then decide (valP T (nmP B w kd 0 f) (lk T 2) ≠ 0) else false)) = true ↔ ¬ ((x = 1) ↔ (B (10 + 5 * w)).testBit f = true)) → VB N 4 mX12_saidBy 94 [.ref 130, .null, .null, .int y1, .int y2, .int (nI (B (10 + 5 * w))), .int (nI (bits f (fun f => if (B (10 + 5 * w)).testBit f = true then (if lk T 1 < T 0 then decide (valP T (nmP B w kd 0 f) (lk T 1) = 0) else true) else (if lk T 2 < T 0 then decide (valP T (nmP B w kd 0 f) (lk T 2) ≠ 0) else false)))), .int (nI f), .null, .int x] [] ν' (fun r μ' => ∃ v, r = some (.int v) ∧ Ψ v μ') := by
          intro ν' q1 q2 x hx hq
          have Kn := K' ν' ⟨q1, q2⟩
          have KT : (if (B (10 + 5 * w)).testBit f = true then (if lk T 1 < T 0 then decide (valP T (nmP B w kd 0 f) (lk T 1) = 0) else true) else (if lk T 2 < T 0 then decide (valP T (nmP B w kd 0 f) (lk T 2) ≠ 0) else false)) = true → _ := fun h => by rw [← bits_t h] at Kn; exact Kn
          have KF : ¬ (if (B (10 + 5 * w)).testBit f = true then (if lk T 1 < T 0 then decide (valP T (nmP B w kd 0 f) (lk T 1) = 0) else true) else (if lk T 2 < T 0 then decide (valP T (nmP B w kd 0 f) (lk T 2) ≠ 0) else false)) = true → _ := fun h => by rw [← bits_f h] at Kn; exact Kn
          refine tX12_saidBy_94 ?_
          refine r_hasB (by omega) (by omega) (fun hb => ?_) (fun hb => ?_)
          · refine ⟨fun e => ?_, fun e => ?_⟩
            · simp (disch := omega) only [lit, Nat.add_sub_cancel, Nat.not_lt_zero, ↓m1_mI, nI_add, pk_mul, nx_and, nx_or, and31, sh_r, sh_1, nx_nand, Nat.and_one_is_mod, nI_clamp, nI_leI, nI_ltI, nI_eq, tb_1, vp_t, up2_a, up2_b, up2_c, br_1, br_0, true_and, and_true, mI_ne, mI_ne', mI_lt, mI_le, mI_nle, mI_nlt, pk_sub, mI_sub, Nat.or_zero]
              exact KF (fun h => (hq.mp h) ⟨fun _ => hb, fun _ => e⟩)
            · simp (disch := omega) only [lit, Nat.add_sub_cancel, Nat.not_lt_zero, ↓m1_mI, nI_add, pk_mul, nx_and, nx_or, and31, sh_r, sh_1, nx_nand, Nat.and_one_is_mod, nI_clamp, nI_leI, nI_ltI, nI_eq, tb_1, vp_t, up2_a, up2_b, up2_c, br_1, br_0, true_and, and_true, mI_ne, mI_ne', mI_lt, mI_le, mI_nle, mI_nlt, pk_sub, mI_sub]
              exact KT (hq.mpr (fun h => e (h.mpr hb)))
          · refine ⟨fun e => ?_, fun e => ?_⟩
            · simp (disch := omega) only [lit, Nat.add_sub_cancel, Nat.not_lt_zero, ↓m1_mI, nI_add, pk_mul, nx_and, nx_or, and31, sh_r, sh_1, nx_nand, Nat.and_one_is_mod, nI_clamp, nI_leI, nI_ltI, nI_eq, tb_1, vp_t, up2_a, up2_b, up2_c, br_1, br_0, true_and, and_true, mI_ne, mI_ne', mI_lt, mI_le, mI_nle, mI_nlt, pk_sub, mI_sub, Nat.or_zero]
              exact KF (fun h => (hq.mp h) ⟨fun g => absurd (e.symm.trans g) (by decide), fun g => absurd g hb⟩)
            · simp (disch := omega) only [lit, Nat.add_sub_cancel, Nat.not_lt_zero, ↓m1_mI, nI_add, pk_mul, nx_and, nx_or, and31, sh_r, sh_1, nx_nand, Nat.and_one_is_mod, nI_clamp, nI_leI, nI_ltI, nI_eq, tb_1, vp_t, up2_a, up2_b, up2_c, br_1, br_0, true_and, and_true, mI_ne, mI_ne', mI_lt, mI_le, mI_nle, mI_nlt, pk_sub, mI_sub]
              exact KT (hq.mpr (fun h => hb (h.mp (hx.resolve_left e))))
        have zb : ∀ x : Int, z32 x = 0 ∨ z32 x = 1 := fun x => by unfold z32; split; exact Or.inl rfl; exact Or.inr rfl
        have z1 : ∀ x : Int, z32 x = 1 ↔ x ≠ 0 := by
          intro x
          unfold z32
          by_cases h : x = 0
          · rw [if_pos h]; exact ⟨fun e => absurd e (by decide), fun e => absurd h e⟩
          · rw [if_neg h]; exact ⟨fun _ => h, fun _ => rfl⟩
        refine r_hasB (by omega) (by omega) (fun hb => ⟨fun e => absurd e (by decide), fun _ => ?_⟩) (fun hb => ⟨fun _ => ?_, fun e => absurd rfl e⟩)
        · refine tX12_saidBy_70 ?_
          by_cases g : lk T 1 < T 0
          · rw [y1a g]
            refine ⟨fun e => absurd e (nI_pos (by omega)), fun _ => ?_⟩
            refine r_lawV (s := 1) (w := w) (kd := kd) (mn := 0) (f := f) hB1 hW hT1 wT hw hk (by omega) hf (by decide) g (hn1 1 (by decide)) (fun μ4 a4 _ q1 => ?_)
            have hA4 := hA2 μ4 a4
            rw [← y1a g, q1 (by decide)]
            refine fin _ hA4.1 hA4.2 _ (zb _) ?_
            rw [if_pos hb, if_pos g, z1, decide_eq_true_iff]
            simp [hb]
          · rw [y1b g]
            refine ⟨fun _ => ?_, fun e => absurd (by decide) e⟩
            rw [← y1b g]
            refine fin _ hA3.1 hA3.2 _ (Or.inl rfl) ?_
            rw [if_pos hb, if_neg g]
            simp [hb]
        · refine tX12_saidBy_70 ?_
          by_cases g : lk T 2 < T 0
          · rw [y2a g]
            refine ⟨fun e => absurd e (nI_pos (by omega)), fun _ => ?_⟩
            refine r_lawV (s := 2) (w := w) (kd := kd) (mn := 0) (f := f) hB1 hW hT1 wT hw hk (by omega) hf (by decide) g (hn1 2 (by decide)) (fun μ4 a4 _ q1 => ?_)
            have hA4 := hA2 μ4 a4
            rw [← y2a g, q1 (by decide)]
            refine fin _ hA4.1 hA4.2 _ (zb _) ?_
            rw [if_neg hb, if_pos g, z1, decide_eq_true_iff]
            simp [hb]
          · rw [y2b g]
            refine ⟨fun _ => ?_, fun e => absurd (by decide) e⟩
            rw [← y2b g]
            refine fin _ hA3.1 hA3.2 _ (Or.inl rfl) ?_
            rw [if_neg hb, if_neg g]
            simp [hb]
      · intro ν ⟨hA, _⟩
        refine tX12_saidBy_38 ?_
        simp (disch := omega) only [lit, Nat.add_sub_cancel, Nat.not_lt_zero, ↓m1_mI, nI_add, pk_mul, nx_and, nx_or, and31, sh_r, sh_1, nx_nand, Nat.and_one_is_mod, nI_clamp, nI_leI, nI_ltI, nI_eq, tb_1, vp_t, up2_a, up2_b, up2_c, br_1, br_0, true_and, and_true, mI_ne, mI_ne', mI_lt, mI_le, mI_nle, mI_nlt, pk_sub, mI_sub, Nat.le_refl]
        exact ⟨_, rfl, K ν hA⟩
    refine r_clauseOf (s := 2) hB hW hT wT (by decide) (fun g => ?_) (fun g => ?_)
    · rw [y2a g] at go2; exact go2
    · rw [y2b g] at go2; exact go2
  refine r_clauseOf (s := 1) hB hW hT wT (by decide) (fun g => ?_) (fun g => ?_)
  · rw [y1a g] at go; exact go
  · rw [y1b g] at go; exact go
theorem r_saysNow {w : Nat} (hB : rowB B (μ.1 131)) (hW : WB B) (hT : RuL B T μ.1) (wT : WT T) (hw : w < B 0) (K : ∀ μ' : Me, Ag [136, 138] μ.1 μ'.1 → Ψ (nI (saysP B T w (B (10 + 5 * w + 1)))) μ') : VI N 5 mX12_saysNow [.ref 130, .int (nI w)] μ Ψ := by
  have hn := hW.n
  have h1 := hW.w hw
  have rB := hB.1
  refine tX12_saysNow_0 ?_
  simp (disch := omega) only [lit, Nat.add_sub_cancel, Nat.not_lt_zero, ↓m1_mI, nI_add, pk_mul, nx_and, nx_or, and31, sh_r, sh_1, nx_nand, Nat.and_one_is_mod, nI_clamp, nI_leI, nI_ltI, nI_eq, tb_1, vp_t, up2_a, up2_b, up2_c, br_1, br_0, true_and, and_true, mI_ne, mI_ne', mI_lt, mI_le, mI_nle, mI_nlt, pk_sub, mI_sub, rB]
  exact r_saidBy hB hW hT wT hw h1.2.1 (fun μ' a => ⟨_, rfl, K μ' a⟩)
end SU
