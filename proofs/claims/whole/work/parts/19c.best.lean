/-! the day: findBest, isDay -/
section DB
variable {N : Nat} {μ : Me} {B T : Nat → Nat} {v H : Nat} {I0 : Nat → Nat → Int32}
theorem mI_1 : mI + nI 1 = nI 0 := by decide
theorem SR_all {Ψ : Option Value → Me → Prop} (hB : rowB B (I0 131)) (hW : WB B) (hT : RuL B T I0) (wT : WT T) (hS0 : rSay B T I0) (hH : H ≤ 6) (hv : v < B 1) : ∀ r l, l + r = 2 * H → 1 ≤ l → SR N B T v H I0 Ψ l := by
  have hn := hW.n
  intro r
  induction r with
  | zero =>
    intro l hlr hl1 h t k p ν hh ht hk hp hd r145 r146 K
    have el : l = 2 * H := by omega
    have hB1 : rowB B (ν.1 131) := by rw [hd.1 131 (by decide)]; exact hB
    have hT1 : RuL B T ν.1 := hT.fr (hd.1 133 (by decide))
    have hh10 : h < 1024 := Nat.lt_of_lt_of_le hh (show 2 ^ B 0 ≤ 2 ^ 10 from Nat.pow_le_pow_right (by decide) (by omega))
    have r33 := hd.2.2.1
    have hwin : win B T v H l h t k p ↔ fP B T (eS B T h (B 0)) 99 v := by
      unfold win
      rw [if_pos (by omega), show (2 * H - l) / 2 = 0 by omega]
      exact Iff.rfl
    refine tX12_findBest_37 ?_
    simp (disch := omega) only [lit, Nat.add_sub_cancel, Nat.not_lt_zero, ↓m1_mI, nI_add, pk_mul, nx_and, nx_or, and31, sh_r, sh_1, nx_nand, Nat.and_one_is_mod, nI_clamp, nI_leI, nI_ltI, nI_eq, tb_1, vp_t, up2_a, up2_b, up2_c, br_1, br_0, true_and, and_true, mI_ne, mI_ne', mI_lt, mI_le, mI_nle, mI_nlt, pk_sub, mI_sub, eq_true el, r33]
    refine r_fby (b := 99) hB1 hW hT1 wT (Or.inr rfl) hh hv (rSay_fr hS0 (hd.1 141 (by decide))) (fun μ1 a1 _ _ g => ⟨fun q => absurd q (by decide), fun _ => ?_⟩) (fun μ1 a1 _ _ g => ⟨fun _ => ?_, fun q => absurd rfl q⟩)
    · exact K 1 μ1 (Or.inl ⟨rfl, hwin.mpr g⟩) (hd.fr (a1.mono (by decide))) (fun j _ => by rw [a1 145 (by decide)]) (fun j _ => by rw [a1 146 (by decide)])
    · exact K 2 μ1 (Or.inr ⟨rfl, fun q => g (hwin.mp q)⟩) (hd.fr (a1.mono (by decide))) (fun j _ => by rw [a1 145 (by decide)]) (fun j _ => by rw [a1 146 (by decide)])
  | succ r ih =>
    intro l hlr hl1 h t k p ν hh ht hk hp hd r145 r146 K
    have hl : l < 2 * H := by omega
    have gl : ¬ l = 2 * H := by omega
    have l0 : ¬ l = 0 := by omega
    refine tX12_findBest_37 ?_
    simp (disch := omega) only [lit, Nat.add_sub_cancel, Nat.not_lt_zero, ↓m1_mI, nI_add, pk_mul, nx_and, nx_or, and31, sh_r, sh_1, nx_nand, Nat.and_one_is_mod, nI_clamp, nI_leI, nI_ltI, nI_eq, tb_1, vp_t, up2_a, up2_b, up2_c, br_1, br_0, true_and, and_true, mI_ne, mI_ne', mI_lt, mI_le, mI_nle, mI_nlt, pk_sub, mI_sub, eq_false gl, r145, mI_1]
    refine srch_in (p := p) hB hW hT wT hH hv hl (ih (l + 1) (by omega) (by omega)) hh ht hk hp ν (fun m ν' hm hst hno hd' f1 f2 f3 => ?_) (fun hno ν' hd' f1 f2 => ⟨fun _ => ?_, fun q => absurd q l0⟩) 11 0 _ (by omega) (fun _ => by omega) (fun m' hm' => by omega) (hd.fr (Ag.rf.up (by decide))) (fun j hj => by simp (disch := omega) only [up2_b]) (fun j hj => by simp (disch := omega) only [up2_a]) (by simp only [up2_c]) (by simp (disch := omega) only [up2_a]; exact r146)
    · refine tX12_findBest_198 ⟨fun q => absurd q (by decide), fun _ => ?_⟩
      simp (disch := omega) only [lit, Nat.add_sub_cancel, Nat.not_lt_zero, ↓m1_mI, nI_add, pk_mul, nx_and, nx_or, and31, sh_r, sh_1, nx_nand, Nat.and_one_is_mod, nI_clamp, nI_leI, nI_ltI, nI_eq, tb_1, vp_t, up2_a, up2_b, up2_c, br_1, br_0, true_and, and_true, mI_ne, mI_ne', mI_lt, mI_le, mI_nle, mI_nlt, pk_sub, mI_sub, eq_false l0]
      refine tX12_findBest_217 ⟨fun q => absurd q (by decide), fun _ => ?_⟩
      refine K _ ν' ?_ hd' f1 f2
      by_cases ev : l % 2 = 0
      · exact Or.inl ⟨if_pos ev, (win_e hW hl ev).mpr ⟨m, hm, hst⟩⟩
      · exact Or.inr ⟨if_neg ev, fun q => (win_o hW hl (by omega)).mp q ⟨m, hm, hst⟩⟩
    · refine K _ ν' ?_ hd' f1 f2
      by_cases ev : l % 2 = 0
      · refine Or.inr ⟨if_pos ev, fun q => ?_⟩
        obtain ⟨m, hm, hst⟩ := (win_e hW hl ev).mp q
        exact hno m hm hst
      · exact Or.inl ⟨if_neg ev, (win_o hW hl (by omega)).mpr (fun ⟨m, hm, hst⟩ => hno m hm hst)⟩
def dyG (I0 I : Nat → Nat → Int32) : Prop := (∀ a, a ∉ scR → a ≠ 130 → I a = I0 a) ∧ ∀ b, b ≠ 33 → b ≠ 34 → b ≠ 35 → I 130 b = I0 130 b
theorem r_findBest {k p : Nat} {Ψ : Int32 → Me → Prop} (hB : rowB B (μ.1 131)) (hW : WB B) (hT : RuL B T μ.1) (wT : WT T) (hv : v < B 1) (hH : H ≤ 6) (hH1 : 1 ≤ H) (hk : k ≤ 2) (hp : p ≤ 999) (k1 : ∀ m, m ≤ 10 → stl B T v H 0 0 0 k p m → (∀ m', m' < m → ¬ stl B T v H 0 0 0 k p m') → ∀ μ' : Me, dyG μ.1 μ'.1 → Ψ (nI m) μ') (k0 : (∀ m, m ≤ 10 → ¬ stl B T v H 0 0 0 k p m) → ∀ μ' : Me, dyG μ.1 μ'.1 → Ψ (-1) μ') : VI N 7 mX12_findBest [.ref 130, .int (nI v), .int (nI H), .int (nI k), .int (nI p)] μ Ψ := by
  have hn := hW.n
  refine tX12_findBest_0 (r_ask hB hW hT wT (fun μ1 a1 s1 => ?_))
  have hB1 : rowB B (μ1.1 131) := by rw [a1 131 (by decide)]; exact hB
  have hT1 : RuL B T μ1.1 := hT.fr (a1 133 (by decide))
  simp (disch := omega) only [lit, Nat.add_sub_cancel, Nat.not_lt_zero, ↓m1_mI, nI_add, pk_mul, nx_and, nx_or, and31, sh_r, sh_1, nx_nand, Nat.and_one_is_mod, nI_clamp, nI_leI, nI_ltI, nI_eq, tb_1, vp_t, up2_a, up2_b, up2_c, br_1, br_0, true_and, and_true, mI_ne, mI_ne', mI_lt, mI_le, mI_nle, mI_nlt, pk_sub, mI_sub]
  have hd : dS μ1.1 0 0 k (((up2 (up2 (up2 (up2 (up2 μ1.1 130 33 (nI 0)) 130 34 (nI 0)) 130 35 (nI k)) 146 0 (nI p)) 145 0 mI, μ1.2) : Me).1) := by
    refine ⟨((((Ag.rf.up (by decide)).up (by decide)).up (by decide)).up (by decide)).up (by decide), fun b b1 b2 b3 => ?_, ?_, ?_, ?_⟩
    · simp (disch := omega) only [up2_a, up2_b]
    · simp (disch := omega) only [up2_a, up2_b, up2_c]
    · simp (disch := omega) only [up2_a, up2_b, up2_c]
    · simp (disch := omega) only [up2_a, up2_b, up2_c]
  have fin : ∀ ν : Me, dS μ1.1 0 0 k ν.1 → dyG μ.1 ν.1 := by
    intro ν h
    refine ⟨fun a ha h130 => ?_, fun b b1 b2 b3 => ?_⟩
    · rw [h.1 a (fun q => by
        unfold dyR at q
        rcases List.mem_cons.mp q with z | z
        · exact h130 z
        · have : ∀ x ∈ [136, 138, 139, 140, 145, 146], x ∈ scR := by decide
          exact ha (this a z)), a1 a (fun q => by
        have : ∀ x ∈ [136, 138, 141], x ∈ scR := by decide
        exact ha (this a q))]
    · rw [h.2.1 b b1 b2 b3, a1 130 (by decide)]
  have gl : ¬ 0 = 2 * H := by omega
  refine tX12_findBest_37 ?_
  simp (disch := omega) only [lit, Nat.add_sub_cancel, Nat.not_lt_zero, ↓m1_mI, nI_add, pk_mul, nx_and, nx_or, and31, sh_r, sh_1, nx_nand, Nat.and_one_is_mod, nI_clamp, nI_leI, nI_ltI, nI_eq, tb_1, vp_t, up2_a, up2_b, up2_c, br_1, br_0, true_and, and_true, mI_ne, mI_ne', mI_lt, mI_le, mI_nle, mI_nlt, pk_sub, mI_sub, eq_false gl, mI_1]
  refine srch_in (l := 0) (p := p) (I0 := μ1.1) hB1 hW hT1 wT hH hv (by omega) (SR_all hB1 hW hT1 wT s1 hH hv (2 * H - 1) 1 (by omega) (by omega)) (Nat.two_pow_pos _) (by decide) hk hp (up2 (up2 (up2 (up2 (up2 μ1.1 130 33 (nI 0)) 130 34 (nI 0)) 130 35 (nI k)) 146 0 (nI p)) 145 0 mI, μ1.2) (fun m ν' hm hst hno hd' f1 f2 f3 => ?_) (fun hno ν' hd' f1 f2 => ⟨fun q => absurd rfl q, fun _ => ⟨_, rfl, k0 hno ν' (fin ν' hd')⟩⟩) 11 0 _ (by omega) (fun _ => by omega) (fun m' hm' => by omega) (hd.fr (Ag.rf.up (by decide))) (fun j hj => by omega) (fun j hj => ?_) (by simp only [up2_c]) (by simp (disch := omega) only [up2_a, up2_c])
  · refine tX12_findBest_198 ⟨fun q => absurd q (by decide), fun _ => ⟨fun _ => ⟨_, rfl, ?_⟩, fun q => absurd rfl q⟩⟩
    rw [f3]
    exact k1 m hm hst hno ν' (fin ν' hd')
  · simp (disch := omega) only [up2_a]
/-! isDay -/
def nfr (B : Nat → Nat) : Nat := cnt (B 0) (fun w => !stk B w)
theorem nfr_eq (hW : WB B) : nfr B + cn16 (sb B) = B 0 := by
  have hn := hW.n
  rw [cn16_eq]
  have key : ∀ m, m ≤ B 0 → ∀ j, m + j = 16 → cnt m (fun i => (sb B).testBit i) + cnt m (fun w => !stk B w) = m := by
    intro m
    induction m with
    | zero => intro _ _ _; rfl
    | succ m ih =>
      intro hm j hj
      have := ih (by omega) (j + 1) (by omega)
      show cnt m _ + (if (sb B).testBit m = true then 1 else 0) + (cnt m _ + (if (!stk B m) = true then 1 else 0)) = m + 1
      rw [sb_tb B (show m < B 0 by omega)]
      have e : decide (B (10 + 5 * m + 4) = 1) = stk B m := rfl
      rw [e]
      cases stk B m <;> simp <;> omega
  have hi : ∀ m, B 0 ≤ m → cnt m (fun i => (sb B).testBit i) = cnt (B 0) (fun i => (sb B).testBit i) := by
    intro m hm
    induction m with
    | zero => have : B 0 = 0 := by omega
              rw [this]
    | succ m ih =>
      by_cases e : B 0 = m + 1
      · rw [e]
      · show cnt m _ + (if (sb B).testBit m = true then 1 else 0) = _
        rw [ih (by omega)]
        have : (sb B).testBit m = false := by
          unfold sb
          rw [bits_tb, decide_eq_false (by omega), Bool.false_and]
        rw [this]
        rfl
  have := key (B 0) (Nat.le_refl _) (16 - B 0) (by omega)
  rw [hi 16 (by omega)]
  unfold nfr
  omega
def dyOk (B : Nat → Nat) (x1 x2 x3 x4 : Int32) : Prop := (∃ v, v < B 1 ∧ x1 = nI v) ∧ nfr B ≤ 6 ∧ rgI 0 6 x2 ∧ rgI 0 2 x3 ∧ rgI 0 999 x4
theorem c_isDay {x1 x2 x3 x4 : Int32} {Ψ : Int32 → Me → Prop} (hC : CB B 3 μ.1) (hW : WB B) (k1 : dyOk B x1 x2 x3 x4 → Ψ 1 μ) (k0 : ¬ dyOk B x1 x2 x3 x4 → Ψ 0 μ) : VI N 2 mX11_isDay [.ref 2, .int x1, .int x2, .int x3, .int x4] μ Ψ := by
  have hn := hW.n
  have hsb := sb_lt hW
  have hnf := nfr_eq hW
  refine tX11_isDay_0 ?_
  rw [hC.k1]
  refine c_bc (by omega) ?_
  refine vi_b (fun Ψ => c_isV hC hW) (fun g1 => ?_) (fun g => ⟨_, rfl, k0 (fun q => g q.1)⟩)
  have e1 : B 0 - cn16 (sb B) = nfr B := by omega
  simp (disch := omega) only [lit, Nat.add_sub_cancel, Nat.not_lt_zero, ↓m1_mI, nI_add, pk_mul, nx_and, nx_or, and31, sh_r, sh_1, nx_nand, Nat.and_one_is_mod, nI_clamp, nI_leI, nI_ltI, nI_eq, tb_1, vp_t, up2_a, up2_b, up2_c, br_1, br_0, true_and, and_true, mI_ne, mI_ne', mI_lt, mI_le, mI_nle, mI_nlt, pk_sub, mI_sub, hC.k0, e1]
  refine ⟨fun z => ⟨_, rfl, k0 (fun q => by have := q.2.1; omega)⟩, fun z1 => ?_⟩
  refine ⟨fun z => ⟨_, rfl, k0 (fun q => rg_lt (lo := 0) (hi := 6) (by decide) (by decide) z q.2.2.1)⟩, fun z2 => ?_⟩
  refine ⟨fun z => ⟨_, rfl, k0 (fun q => rg_gt (lo := 0) (hi := 6) (by decide) (by decide) z q.2.2.1)⟩, fun z3 => ?_⟩
  refine ⟨fun z => ⟨_, rfl, k0 (fun q => rg_lt (lo := 0) (hi := 2) (by decide) (by decide) z q.2.2.2.1)⟩, fun z4 => ?_⟩
  refine ⟨fun z => ⟨_, rfl, k0 (fun q => rg_gt (lo := 0) (hi := 2) (by decide) (by decide) z q.2.2.2.1)⟩, fun z5 => ?_⟩
  refine ⟨fun z => ⟨_, rfl, k0 (fun q => rg_lt (lo := 0) (hi := 999) (by decide) (by decide) z q.2.2.2.2)⟩, fun z6 => ?_⟩
  refine ⟨fun z => ⟨_, rfl, k0 (fun q => rg_gt (lo := 0) (hi := 999) (by decide) (by decide) z q.2.2.2.2)⟩, fun z7 => ?_⟩
  exact ⟨_, rfl, k1 ⟨g1, by omega, rg_mk (by decide) (by decide) z2 z3, rg_mk (by decide) (by decide) z4 z5, rg_mk (by decide) (by decide) z6 z7⟩⟩
theorem r_isDay {x1 x2 x3 x4 : Int32} {Ψ : Int32 → Me → Prop} (hB : rowB B (μ.1 131)) (hW : WB B) (k1 : dyOk B x1 x2 x3 x4 → Ψ 1 μ) (k0 : ¬ dyOk B x1 x2 x3 x4 → Ψ 0 μ) : VI N 3 mX12_isDay [.ref 130, .int x1, .int x2, .int x3, .int x4] μ Ψ := by
  have hn := hW.n
  have rB := hB.1
  refine tX12_isDay_0 ?_
  refine vb_up (fun i => [.ref 130, .int x1, .int x2, .int x3, .int x4, .int (nI (cnt i (fun w => !stk B w))), .int (nI i)]) (fun _ => μ) (B 0) (fun i hi K => ?_) ?_
  · have g1 : ¬ B 0 ≤ i := by omega
    refine tX12_isDay_6 ?_
    simp (disch := omega) only [lit, Nat.add_sub_cancel, Nat.not_lt_zero, ↓m1_mI, nI_add, pk_mul, nx_and, nx_or, and31, sh_r, sh_1, nx_nand, Nat.and_one_is_mod, nI_clamp, nI_leI, nI_ltI, nI_eq, tb_1, vp_t, up2_a, up2_b, up2_c, br_1, br_0, true_and, and_true, mI_ne, mI_ne', mI_lt, mI_le, mI_nle, mI_nlt, pk_sub, mI_sub, rB, eq_false g1]
    refine vi_b (fun Ψ => r_isX hB hW hi) (fun q => ?_) (fun q => ?_)
    · rw [cnt_f (p := fun w => !stk B w) (by rw [stk_iff.mpr q]; decide)]
      exact K
    · rw [cnt_t (p := fun w => !stk B w) (by rw [eq_false_of_ne_true (fun z => q (stk_iff.mp z))]; rfl)]
      exact K
  · have hc := cnt_le (B 0) (fun w => !stk B w)
    refine tX12_isDay_6 ?_
    simp (disch := omega) only [lit, Nat.add_sub_cancel, Nat.not_lt_zero, ↓m1_mI, nI_add, pk_mul, nx_and, nx_or, and31, sh_r, sh_1, nx_nand, Nat.and_one_is_mod, nI_clamp, nI_leI, nI_ltI, nI_eq, tb_1, vp_t, up2_a, up2_b, up2_c, br_1, br_0, true_and, and_true, mI_ne, mI_ne', mI_lt, mI_le, mI_nle, mI_nlt, pk_sub, mI_sub, rB, Nat.le_refl]
    refine vi_b (fun Ψ => r_isV hB hW) (fun g1 => ?_) (fun g => ⟨_, rfl, k0 (fun q => g q.1)⟩)
    refine vi_b (fun Ψ => r_in 0 6 (by decide) (by decide)) (fun g2 => ?_) (fun g => ⟨_, rfl, k0 (fun q => g q.2.2.1)⟩)
    refine vi_b (fun Ψ => r_in 0 2 (by decide) (by decide)) (fun g3 => ?_) (fun g => ⟨_, rfl, k0 (fun q => g q.2.2.2.1)⟩)
    refine vi_b (fun Ψ => r_in 0 999 (by decide) (by decide)) (fun g4 => ?_) (fun g => ⟨_, rfl, k0 (fun q => g q.2.2.2.2)⟩)
    refine ⟨fun z => ⟨_, rfl, k0 (fun q => ?_)⟩, fun z => ⟨_, rfl, k1 ⟨g1, ?_, g2, g3, g4⟩⟩⟩
    · have := q.2.1
      unfold nfr at this
      omega
    · unfold nfr
      omega
end DB
