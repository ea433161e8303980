/-! saysAs, feeNow; saidBy, feeOf -/
section SZ
variable {N : Nat} {μ : Me} {B T : Nat → Nat} {Ψ : Int32 → Me → Prop}
theorem c_describe {w : Nat} {Ψ : Me → Prop} (hC : CB B 3 μ.1) (hW : WB B) (hw : w < B 0) (K : ∀ μ' : Me, Ag [82] μ.1 μ'.1 → (∀ v, v < 5 → (μ'.1 82 v).toInt = nmP B w (B (10 + 5 * w + 1)) 0 0 v) → Ψ μ') : VU N 1 mX11_describe [.ref 2, .int (nI w)] μ Ψ := by
  have hn := hW.n
  have h1 := hW.w hw
  refine tX11_describe_0 ?_
  simp (disch := omega) only [lit, Nat.add_sub_cancel, Nat.not_lt_zero, ↓m1_mI, nI_add, pk_mul, nx_and, nx_or, and31, sh_r, sh_1, nx_nand, Nat.and_one_is_mod, nI_clamp, nI_leI, nI_ltI, nI_eq, tb_1, vp_t, up2_a, up2_b, up2_c, br_1, br_0, true_and, and_true, mI_ne, mI_ne', mI_lt, mI_le, mI_nle, mI_nlt, pk_sub, mI_sub, hC.k3, hC.k4, hC.k5, hC.t0]
  refine K _ (by repeat (first | refine Ag.up ?_ (by decide) | exact Ag.rf)) (fun v hv => ?_)
  have : v = 0 ∨ v = 1 ∨ v = 2 ∨ v = 3 ∨ v = 4 := by omega
  rcases this with rfl | rfl | rfl | rfl | rfl
  all_goals (simp (disch := omega) only [up2_b, up2_c]; rw [nI_toInt (by omega)]; rfl)
theorem c_saysAs {w kd : Nat} (hC : CB B 3 μ.1) (hW : WB B) (hL : LW T (lwB B) μ.1) (wT : WT T) (hw : w < B 0) (hk : kd < 4) (K : ∀ μ' : Me, Ag scE μ.1 μ'.1 → Ψ (nI (saysP B T w kd)) μ') : VI N 4 mX11_saysAs [.ref 2, .int (nI w), .int (nI kd)] μ Ψ := by
  have hn := hW.n
  have h1 := hW.w hw
  have h5 := lwB_5 hW
  refine tX11_saysAs_0 (c_describe hC hW hw (fun μ1 a1 d1 => ?_))
  have a2 : Ag [82] μ.1 (up2 μ1.1 82 1 (nI kd)) := a1.up (by simp)
  have hC2 : CB B 3 (((up2 μ1.1 82 1 (nI kd), μ1.2) : Me).1) := hC.fr (fun a k1 k2 => a2 a (by simp; omega))
  refine c_ruling hC2 hW (fun h5 => ⟨h5, ?_⟩)
  simp (disch := omega) only [lit, Nat.add_sub_cancel, Nat.not_lt_zero, ↓m1_mI, nI_add, pk_mul, nx_and, nx_or, and31, sh_r, sh_1, nx_nand, Nat.and_one_is_mod, nI_clamp, nI_leI, nI_ltI, nI_eq, tb_1, vp_t, up2_a, up2_b, up2_c, br_1, br_0, true_and, and_true, mI_ne, mI_ne', mI_lt, mI_le, mI_nle, mI_nlt, pk_sub, mI_sub, hC2.k2]
  have e5 : up2 μ1.1 82 1 (nI kd) 5 w = nI (B (10 + 5 * w)) := hC2.k2 hw
  simp (disch := omega) only [up2_a] at e5
  rw [e5]
  refine c_spoken h5 (hL.fr (fun a k1 k2 => a2 a (by unfold isL5 at h5; simp; omega))) wT hW hw hk (fun v hv => ?_) (fun μ3 a3 => ⟨_, rfl, K μ3 ((a2.mono (by simp [scE])).tr a3)⟩)
  by_cases e : v = 1
  · subst e
    simp only [up2_c]
    rw [nI_toInt (by omega)]
    rfl
  · simp (disch := omega) only [up2_b]
    rw [d1 v (by omega)]
    have : v = 0 ∨ v = 2 ∨ v = 3 := by omega
    rcases this with rfl | rfl | rfl <;> rfl
theorem c_feeNow {w mn : Nat} (hC : CB B 3 μ.1) (hW : WB B) (hL : LW T (lwB B) μ.1) (wT : WT T) (hw : w < B 0) (hm : mn ≤ 10) (K : ∀ μ' : Me, Ag scE μ.1 μ'.1 → Ψ (nI (feeP B T w mn)) μ') : VI N 4 mX11_feeNow [.ref 2, .int (nI w), .int (nI mn)] μ Ψ := by
  have hn := hW.n
  have h1 := hW.w hw
  have h5 := lwB_5 hW
  refine tX11_feeNow_0 (c_describe hC hW hw (fun μ1 a1 d1 => ?_))
  have a2 : Ag [82] μ.1 (up2 μ1.1 82 5 (nI mn)) := a1.up (by simp)
  have hC2 : CB B 3 (((up2 μ1.1 82 5 (nI mn), μ1.2) : Me).1) := hC.fr (fun a k1 k2 => a2 a (by simp; omega))
  have hL2 : LW T (lwB B) (((up2 μ1.1 82 5 (nI mn), μ1.2) : Me).1) := hL.fr (fun a k1 k2 => a2 a (by unfold isL5 at h5; simp; omega))
  have n2 : ∀ v, v < 6 → (up2 μ1.1 82 5 (nI mn) 82 v).toInt = nmP B w (B (10 + 5 * w + 1)) mn 0 v := by
    intro v hv
    by_cases e : v = 5
    · subst e
      rw [up2_c, nI_toInt (by omega)]
      rfl
    · rw [up2_b e, d1 v (by omega)]
      have : v = 0 ∨ v = 1 ∨ v = 2 ∨ v = 3 ∨ v = 4 := by omega
      rcases this with rfl | rfl | rfl | rfl | rfl <;> rfl
  refine c_ruling hC2 hW (fun h5 => ⟨h5, ?_⟩)
  refine tX5_charged_0 h5 (vi_b (fun Ψ => c_hasL h5 hL2 wT (by decide)) (fun g => ?_) (fun g => ⟨_, rfl, _, rfl, ?_⟩))
  · refine c_lawV (w := w) (kd := B (10 + 5 * w + 1)) (mn := mn) (f := 0) h5 hL2 wT hW hw h1.2.1 hm (by decide) (by decide) g (fun v hv h6 _ => n2 v (by have := h6 rfl; omega)) (fun y ν' hy hs hAy => ⟨_, rfl, _, rfl, ?_⟩)
    have hfin := K ν' ((a2.mono (by simp [scE])).tr (hAy.mono (by intro a ha; simp at ha; subst ha; exact scE_10 h5)))
    have key : (if (0 : Int32) < (if y < 9999 then y else 9999) then (if y < 9999 then y else 9999) else 0) = nI (feeP B T w mn) := by
      unfold feeP
      rw [if_pos g, ← hy]
      have e9 : (9999 : Int32).toInt = 9999 := by decide
      by_cases q1 : y < 9999
      · rw [if_pos q1]
        rw [i_lt, e9] at q1
        by_cases q2 : (0 : Int32) < y
        · rw [if_pos q2]
          rw [i_lt, i_0] at q2
          rw [if_neg (by omega), if_neg (by omega)]
          apply i_eq.mpr
          rw [nI_toInt (by omega)]
          omega
        · rw [if_neg q2]
          rw [i_lt, i_0] at q2
          by_cases q3 : y.toInt < 0
          · rw [if_pos q3]; rfl
          · rw [if_neg q3, if_neg (by omega)]
            have : y.toInt.toNat = 0 := by omega
            rw [this]; rfl
      · rw [if_neg q1, if_pos (by decide)]
        rw [i_lt, e9] at q1
        rw [if_neg (by omega)]
        by_cases q3 : 9999 < y.toInt
        · rw [if_pos q3]; rfl
        · rw [if_neg q3]
          have : y.toInt.toNat = 9999 := by omega
          rw [this]; rfl
    rw [key]
    exact hfin
  · have hfin := K (up2 μ1.1 82 5 (nI mn), μ1.2) (a2.mono (S' := scE) (by simp [scE]))
    have e4 := d1 4 (by omega)
    have key : ((up2 μ1.1 82 5 (nI mn), μ1.2) : Me).1 82 4 = nI (feeP B T w mn) := by
      unfold feeP
      rw [if_neg g]
      show up2 μ1.1 82 5 (nI mn) 82 4 = _
      rw [up2_b (by decide)]
      apply i_eq.mpr
      rw [e4, nI_toInt (by omega)]
      rfl
    rw [key]
    exact hfin
/-! the reference -/
theorem r_clauseOf {s : Nat} (hB : rowB B (μ.1 131)) (hW : WB B) (hT : RuL B T μ.1) (wT : WT T) (hs : s < 3) (h1 : lk T s < T 0 → Ψ (nI (lk T s)) μ) (h0 : ¬ lk T s < T 0 → Ψ mI μ) : VI N 2 mX12_clauseOf [.ref 130, .int (nI s)] μ Ψ := by
  have h16 := wT.1.2
  have hle : lk T s ≤ T 0 := fnd_le _ _
  have hf0 := hT.f0
  refine tX12_clauseOf_0 ?_
  refine vb_up (fun i => [.ref 130, .int (nI s), .int (nI i)]) (fun _ => μ) (lk T s) (fun i hi K => ?_) ?_
  · have g1 : ¬ T 0 ≤ i := by omega
    have h4 := hT.pos (show i < T 0 by omega)
    have hca := ca_lt hW (show i < 16 by omega)
    have hb : fl T i 0 < 65536 := wT.1.1 _
    have hne := lk_lt hi
    refine tX12_clauseOf_2 (r_clauses hB hW hT ?_)
    simp (disch := omega) only [lit, Nat.add_sub_cancel, Nat.not_lt_zero, ↓m1_mI, nI_add, pk_mul, nx_and, nx_or, and31, sh_r, sh_1, nx_nand, Nat.and_one_is_mod, nI_clamp, nI_leI, nI_ltI, nI_eq, tb_1, vp_t, up2_a, up2_b, up2_c, br_1, br_0, true_and, and_true, mI_ne, mI_ne', mI_lt, mI_le, mI_nle, mI_nlt, pk_sub, mI_sub, eq_false g1]
    refine r_clauseAt hB hW h4 ?_
    simp (disch := omega) only [lit, Nat.add_sub_cancel, Nat.not_lt_zero, ↓m1_mI, nI_add, pk_mul, nx_and, nx_or, and31, sh_r, sh_1, nx_nand, Nat.and_one_is_mod, nI_clamp, nI_leI, nI_ltI, nI_eq, tb_1, vp_t, up2_a, up2_b, up2_c, br_1, br_0, true_and, and_true, mI_ne, mI_ne', mI_lt, mI_le, mI_nle, mI_nlt, pk_sub, mI_sub, hf0 h4, eq_false hne]
    exact K
  · refine tX12_clauseOf_2 (r_clauses hB hW hT ?_)
    by_cases h : lk T s < T 0
    · have g1 : ¬ T 0 ≤ lk T s := by omega
      have h4 := hT.pos h
      have hca := ca_lt hW (show lk T s < 16 by omega)
      have he := lk_sp h
      simp (disch := omega) only [lit, Nat.add_sub_cancel, Nat.not_lt_zero, ↓m1_mI, nI_add, pk_mul, nx_and, nx_or, and31, sh_r, sh_1, nx_nand, Nat.and_one_is_mod, nI_clamp, nI_leI, nI_ltI, nI_eq, tb_1, vp_t, up2_a, up2_b, up2_c, br_1, br_0, true_and, and_true, mI_ne, mI_ne', mI_lt, mI_le, mI_nle, mI_nlt, pk_sub, mI_sub, eq_false g1]
      refine r_clauseAt hB hW h4 ?_
      simp (disch := omega) only [lit, Nat.add_sub_cancel, Nat.not_lt_zero, ↓m1_mI, nI_add, pk_mul, nx_and, nx_or, and31, sh_r, sh_1, nx_nand, Nat.and_one_is_mod, nI_clamp, nI_leI, nI_ltI, nI_eq, tb_1, vp_t, up2_a, up2_b, up2_c, br_1, br_0, true_and, and_true, mI_ne, mI_ne', mI_lt, mI_le, mI_nle, mI_nlt, pk_sub, mI_sub, hf0 h4, he]
      exact ⟨_, rfl, h1 h⟩
    · have g1 : T 0 ≤ lk T s := by omega
      simp (disch := omega) only [lit, Nat.add_sub_cancel, Nat.not_lt_zero, ↓m1_mI, nI_add, pk_mul, nx_and, nx_or, and31, sh_r, sh_1, nx_nand, Nat.and_one_is_mod, nI_clamp, nI_leI, nI_ltI, nI_eq, tb_1, vp_t, up2_a, up2_b, up2_c, br_1, br_0, true_and, and_true, mI_ne, mI_ne', mI_lt, mI_le, mI_nle, mI_nlt, pk_sub, mI_sub, eq_true g1]
      exact ⟨_, rfl, h0 h⟩
theorem r_name {w kd : Nat} {Ψ : Me → Prop} (hB : rowB B (μ.1 131)) (hW : WB B) (hw : w < B 0) (hk : kd < 4) (K : ∀ μ' : Me, Ag [136] μ.1 μ'.1 → (∀ v, v < 4 → (μ'.1 136 v).toInt = nmP B w kd 0 0 v) → Ψ μ') : VU N 1 mX12_name [.ref 130, .int (nI w), .int (nI kd)] μ Ψ := by
  have hn := hW.n
  have h1 := hW.w hw
  have rB := hB.1
  refine tX12_name_0 ?_
  simp (disch := omega) only [lit, Nat.add_sub_cancel, Nat.not_lt_zero, ↓m1_mI, nI_add, pk_mul, nx_and, nx_or, and31, sh_r, sh_1, nx_nand, Nat.and_one_is_mod, nI_clamp, nI_leI, nI_ltI, nI_eq, tb_1, vp_t, up2_a, up2_b, up2_c, br_1, br_0, true_and, and_true, mI_ne, mI_ne', mI_lt, mI_le, mI_nle, mI_nlt, pk_sub, mI_sub, rB]
  refine K _ (by repeat (first | refine Ag.up ?_ (by decide) | exact Ag.rf)) (fun v hv => ?_)
  have : v = 0 ∨ v = 1 ∨ v = 2 ∨ v = 3 := by omega
  rcases this with rfl | rfl | rfl | rfl
  all_goals (simp (disch := omega) only [up2_b, up2_c]; rw [nI_toInt (by omega)]; rfl)
theorem r_lawV {s w kd mn f : Nat} {Ψ : Me → Prop} (hB : rowB B (μ.1 131)) (hW : WB B) (hT : RuL B T μ.1) (wT : WT T) (hw : w < B 0) (hk : kd < 4) (hm : mn ≤ 10) (hf : f < 16) (hs : s < 3) (h : lk T s < T 0) (hnm : ∀ v, v < 7 → (s = 0 → v ≠ 6) → (s ≠ 0 → v ≠ 4 ∧ v ≠ 5) → (μ.1 136 v).toInt = nmP B w kd mn f v) (K : ∀ μ' : Me, Ag [138] μ.1 μ'.1 → (s = 0 → (μ'.2 137 0).toInt = valP T (nmP B w kd mn f) (lk T s) ∧ smI (valP T (nmP B w kd mn f) (lk T s))) → (s ≠ 0 → μ'.1 138 0 = z32 (valP T (nmP B w kd mn f) (lk T s))) → Ψ μ') : VU N 3 mX12_work [.ref 130, .int (nI (lk T s))] μ Ψ := by
  have hs' := lk_sp h
  have h3 : fl T (lk T s) 0 ≠ 3 := by omega
  refine r_work (nm := nmP B w kd mn f) hB hW hT wT h h3 (fun i h1 h2 ho => ?_) (fun μ' a1 a2 a3 => K μ' a1 (by rw [hs'] at a2; exact a2) (by rw [hs'] at a3; exact a3))
  obtain ⟨_, _, _, _, hit⟩ := wT.2.2.2 _ h h3
  have g := (hit i h1 h2).2 ho
  rw [hs'] at g
  exact ⟨hnm _ g.1 g.2.1 g.2.2, nmP_sm hW hw hk hm hf⟩
theorem r_hasB {n k : Nat} (hn : n < 2 ^ 31) (hk : k < 32) (h1 : n.testBit k = true → Ψ 1 μ) (h0 : ¬ n.testBit k = true → Ψ 0 μ) : VI N 1 mX12_has [.int (nI n), .int (nI k)] μ Ψ := by
  have e : (((nI n) >>> ((nI k) &&& 31)) &&& 1 = (1 : Int32)) ↔ n.testBit k = true := by
    simp (disch := omega) only [lit, Nat.add_sub_cancel, Nat.not_lt_zero, ↓m1_mI, nI_add, pk_mul, nx_and, nx_or, and31, sh_r, sh_1, nx_nand, Nat.and_one_is_mod, nI_clamp, nI_leI, nI_ltI, nI_eq, tb_1, vp_t, up2_a, up2_b, up2_c, br_1, br_0, true_and, and_true, mI_ne, mI_ne', mI_lt, mI_le, mI_nle, mI_nlt, pk_sub, mI_sub]
  exact c_has (fun h => h1 (e.mp h)) (fun h => h0 (fun g => h (e.mpr g)))
theorem r_feeOf {w mn : Nat} (hB : rowB B (μ.1 131)) (hW : WB B) (hT : RuL B T μ.1) (wT : WT T) (hw : w < B 0) (hm : mn ≤ 10) (K : ∀ μ' : Me, Ag [136, 138] μ.1 μ'.1 → Ψ (nI (feeP B T w mn)) μ') : VI N 4 mX12_feeOf [.ref 130, .int (nI w), .int (nI mn)] μ Ψ := by
  have hn := hW.n
  have h1 := hW.w hw
  have rB := hB.1
  have h16 := wT.1.2
  refine tX12_feeOf_0 (r_clauseOf (s := 0) hB hW hT wT (by decide) (fun g => ?_) (fun g => ?_))
  · have hlk : lk T 0 < 16 := by omega
    simp (disch := omega) only [lit, Nat.add_sub_cancel, Nat.not_lt_zero, ↓m1_mI, nI_add, pk_mul, nx_and, nx_or, and31, sh_r, sh_1, nx_nand, Nat.and_one_is_mod, nI_clamp, nI_leI, nI_ltI, nI_eq, tb_1, vp_t, up2_a, up2_b, up2_c, br_1, br_0, true_and, and_true, mI_ne, mI_ne', mI_lt, mI_le, mI_nle, mI_nlt, pk_sub, mI_sub, rB, Nat.zero_le]
    refine r_name hB hW hw h1.2.1 (fun μ1 a1 d1 => ?_)
    have hB1 : rowB B (μ1.1 131) := by rw [a1 131 (by decide)]; exact hB
    have rB1 := hB1.1
    simp (disch := omega) only [lit, Nat.add_sub_cancel, Nat.not_lt_zero, ↓m1_mI, nI_add, pk_mul, nx_and, nx_or, and31, sh_r, sh_1, nx_nand, Nat.and_one_is_mod, nI_clamp, nI_leI, nI_ltI, nI_eq, tb_1, vp_t, up2_a, up2_b, up2_c, br_1, br_0, true_and, and_true, mI_ne, mI_ne', mI_lt, mI_le, mI_nle, mI_nlt, pk_sub, mI_sub, rB1]
    have a2 : Ag [136] μ.1 (up2 (up2 μ1.1 136 4 (nI (B (10 + 5 * w + 3)))) 136 5 (nI mn)) := (a1.up (by simp)).up (by simp)
    refine r_lawV (w := w) (kd := B (10 + 5 * w + 1)) (mn := mn) (f := 0) ?_ hW (hT.fr (a2 133 (by decide))) wT hw h1.2.1 hm (by decide) (by decide) g (fun v hv h6 _ => ?_) (fun μ4 a4 q0 _ => ?_)
    · show rowB B (up2 (up2 μ1.1 136 4 (nI (B (10 + 5 * w + 3)))) 136 5 (nI mn) 131)
      rw [a2 131 (by decide)]; exact hB
    · have h6 := h6 rfl
      show (up2 (up2 μ1.1 136 4 (nI (B (10 + 5 * w + 3)))) 136 5 (nI mn) 136 v).toInt = _
      have : v = 0 ∨ v = 1 ∨ v = 2 ∨ v = 3 ∨ v = 4 ∨ v = 5 := by omega
      rcases this with rfl | rfl | rfl | rfl | rfl | rfl
      · rw [up2_b (by decide), up2_b (by decide), d1 0 (by decide)]; rfl
      · rw [up2_b (by decide), up2_b (by decide), d1 1 (by decide)]; rfl
      · rw [up2_b (by decide), up2_b (by decide), d1 2 (by decide)]; rfl
      · rw [up2_b (by decide), up2_b (by decide), d1 3 (by decide)]; rfl
      · rw [up2_b (by decide), up2_c, nI_toInt (by omega)]; rfl
      · rw [up2_c, nI_toInt (by omega)]; rfl
    · obtain ⟨q1, q2⟩ := q0 rfl
      have hfin := K μ4 ((a2.mono (by simp)).tr (a4.mono (by simp)))
      have e9 : (Int32.toInt64 (9999 : Int32)).toInt = 9999 := by decide
      have e0 : (Int32.toInt64 (0 : Int32)).toInt = 0 := by decide
      have hfe : feeP B T w mn = (if valP T (nmP B w (B (10 + 5 * w + 1)) mn 0) (lk T 0) < 0 then 0 else if 9999 < valP T (nmP B w (B (10 + 5 * w + 1)) mn 0) (lk T 0) then 9999 else (valP T (nmP B w (B (10 + 5 * w + 1)) mn 0) (lk T 0)).toNat) := by unfold feeP; rw [if_pos g]
      rw [hfe] at hfin
      show VI N 1 mX12_held [.long (μ4.2 137 0), .null, .int 0, .int 9999] μ4 _
      refine tX12_held_0 ⟨fun e1 => ⟨fun e2 => ⟨_, rfl, _, rfl, ?_⟩, fun e2 => ⟨_, rfl, _, rfl, ?_⟩⟩, fun e1 => ⟨_, rfl, _, rfl, ?_⟩⟩
      · rw [lg_cmp_ge, l_le, e0, q1] at e1
        rw [lg_cmp_le, l_le, e9, q1] at e2
        rw [if_neg (by omega), if_neg (by omega)] at hfin
        have : Int64.toInt32 (μ4.2 137 0) = nI (valP T (nmP B w (B (10 + 5 * w + 1)) mn 0) (lk T 0)).toNat := by
          apply i_eq.mpr
          rw [Int64.toInt_toInt32, q1, nI_toInt (by omega), bm32 (by omega) (by omega)]
          omega
        rw [this]; exact hfin
      · rw [lg_cmp_ge, l_le, e0, q1] at e1
        rw [lg_cmp_le, l_le, e9, q1] at e2
        rw [if_neg (by omega), if_pos (by omega)] at hfin
        exact hfin
      · rw [lg_cmp_ge, l_le, e0, q1] at e1
        rw [if_pos (by omega)] at hfin
        exact hfin
  · have e0 : ¬ (0 : Int32) ≤ mI := by decide
    refine ⟨fun e => absurd e e0, fun _ => ?_⟩
    have hfin := K μ Ag.rf
    unfold feeP at hfin
    rw [if_neg g] at hfin
    simp (disch := omega) only [lit, Nat.add_sub_cancel, Nat.not_lt_zero, ↓m1_mI, nI_add, pk_mul, nx_and, nx_or, and31, sh_r, sh_1, nx_nand, Nat.and_one_is_mod, nI_clamp, nI_leI, nI_ltI, nI_eq, tb_1, vp_t, up2_a, up2_b, up2_c, br_1, br_0, true_and, and_true, mI_ne, mI_ne', mI_lt, mI_le, mI_nle, mI_nlt, pk_sub, mI_sub, rB]
    exact ⟨_, rfl, hfin⟩
end SZ
