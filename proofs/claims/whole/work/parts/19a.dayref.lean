/-! the day: the reference's search, move by move -/
section DY
variable {N : Nat} {μ : Me} {B T : Nat → Nat} {v : Nat}
def frW (B : Nat → Nat) (h t w : Nat) : Prop := w < B 0 ∧ ¬ B (10 + 5 * w + 4) = 1 ∧ ¬ (h ||| t).testBit w = true
def hcn (h : Nat) : Nat := cnt 10 (fun i => h.testBit i)
def gC (B T : Nat → Nat) (v n h t k p : Nat) : Prop := match n with
  | 0 => fP B T (eS B T h (B 0)) 99 v
  | n + 1 => (∃ w, frW B h t w ∧ feeP B T w (hcn h) ≤ p ∧ ((∀ u, frW B (h ||| 2 ^ w) t u → 0 < k → gC B T v n (h ||| 2 ^ w) (t ||| 2 ^ u) (k - 1) (p - feeP B T w (hcn h))) ∧ gC B T v n (h ||| 2 ^ w) t k (p - feeP B T w (hcn h)))) ∨ ((∀ u, frW B h t u → 0 < k → gC B T v n h (t ||| 2 ^ u) (k - 1) p) ∧ gC B T v n h t k p)
def gA (B T : Nat → Nat) (v n h t k p : Nat) : Prop := (∀ u, frW B h t u → 0 < k → gC B T v n h (t ||| 2 ^ u) (k - 1) p) ∧ gC B T v n h t k p
theorem gC_s {n h t k p : Nat} : gC B T v (n + 1) h t k p ↔ (∃ w, frW B h t w ∧ feeP B T w (hcn h) ≤ p ∧ gA B T v n (h ||| 2 ^ w) t k (p - feeP B T w (hcn h))) ∨ gA B T v n h t k p := Iff.rfl
def dyR : List Nat := [130, 136, 138, 139, 140, 145, 146]
def dS (I0 : Nat → Nat → Int32) (h t k : Nat) (I : Nat → Nat → Int32) : Prop := Ag dyR I0 I ∧ (∀ b, b ≠ 33 → b ≠ 34 → b ≠ 35 → I 130 b = I0 130 b) ∧ I 130 33 = nI h ∧ I 130 34 = nI t ∧ I 130 35 = nI k
theorem dS.fr {I0 I I' : Nat → Nat → Int32} {h t k : Nat} (hd : dS I0 h t k I) (ha : Ag [136, 138, 139, 140, 145, 146] I I') : dS I0 h t k I' := by
  obtain ⟨h1, h2, h3, h4, h5⟩ := hd
  have e := ha 130 (by decide)
  refine ⟨h1.tr (ha.mono (by decide)), ?_, ?_, ?_, ?_⟩
  all_goals (rw [e]; assumption)
theorem hcn_le (h : Nat) : hcn h ≤ 10 := cnt_le _ _
/-- a move at a level can be made: what is so then -/
def okM (B T : Nat → Nat) (l h t k p m : Nat) : Prop := m = 10 ∨ (frW B h t m ∧ (l % 2 = 0 → feeP B T m (hcn h) ≤ p) ∧ (l % 2 = 1 → 0 < k))
def mH (l h m : Nat) : Nat := if m = 10 ∨ l % 2 = 1 then h else h ||| 2 ^ m
def mT (l t m : Nat) : Nat := if m = 10 ∨ l % 2 = 0 then t else t ||| 2 ^ m
def mK (l k m : Nat) : Nat := if m = 10 ∨ l % 2 = 0 then k else k - 1
def mP (B T : Nat → Nat) (l h p m : Nat) : Nat := if m = 10 ∨ l % 2 = 1 then p else p - feeP B T m (hcn h)
theorem r_canMove {I0 : Nat → Nat → Int32} {l h t k p m : Nat} {Ψ : Int32 → Me → Prop} (hB : rowB B (I0 131)) (hW : WB B) (hT : RuL B T I0) (wT : WT T) (hl : l < 12) (hm : m ≤ 10) (hh : h < 1024) (ht : t < 1024) (hk : k ≤ 2) (hp : p ≤ 999) (hd : dS I0 h t k μ.1) (r145 : μ.1 145 l = nI m) (r146 : μ.1 146 l = nI p)
    (k1 : okM B T l h t k p m → ∀ μ' : Me, dS I0 (mH l h m) (mT l t m) (mK l k m) μ'.1 → μ'.1 145 = μ.1 145 → (∀ j, j ≠ l + 1 → μ'.1 146 j = μ.1 146 j) → μ'.1 146 (l + 1) = nI (mP B T l h p m) → Ψ 1 μ') (k0 : ¬ okM B T l h t k p m → ∀ μ' : Me, dS I0 h t k μ'.1 → μ'.1 145 = μ.1 145 → (∀ j, j ≠ l + 1 → μ'.1 146 j = μ.1 146 j) → Ψ 0 μ') : VI N 5 mX12_canMove [.ref 130, .int (nI l)] μ Ψ := by
  have hn := hW.n
  have hd0 := hd
  obtain ⟨d1, d2, d3, d4, d5⟩ := hd
  have hBμ : rowB B (μ.1 131) := by rw [d1 131 (by decide)]; exact hB
  refine tX12_canMove_0 ?_
  simp (disch := omega) only [lit, Nat.add_sub_cancel, Nat.not_lt_zero, ↓m1_mI, nI_add, pk_mul, nx_and, nx_or, and31, sh_r, sh_1, nx_nand, Nat.and_one_is_mod, nI_clamp, nI_leI, nI_ltI, nI_eq, tb_1, vp_t, up2_a, up2_b, up2_c, br_1, br_0, true_and, and_true, mI_ne, mI_ne', mI_lt, mI_le, mI_nle, mI_nlt, pk_sub, mI_sub, r145, r146]
  have hd1 : dS I0 h t k (up2 μ.1 146 (l + 1) (nI p)) := hd0.fr (Ag.rf.up (by decide))
  have hB1 : rowB B ((((up2 μ.1 146 (l + 1) (nI p), μ.2) : Me).1) 131) := by
    show rowB B (up2 μ.1 146 (l + 1) (nI p) 131)
    rw [up2_ne (by decide)]; exact hBμ
  have s145 : up2 μ.1 146 (l + 1) (nI p) 145 = μ.1 145 := up2_ne (by decide)
  have s146 : ∀ j, j ≠ l + 1 → up2 μ.1 146 (l + 1) (nI p) 146 j = μ.1 146 j := fun j hj => up2_b hj
  refine ⟨fun em => ⟨_, rfl, ?_⟩, fun em => ?_⟩
  · have := k1 (Or.inl em) (up2 μ.1 146 (l + 1) (nI p), μ.2)
    unfold mH mT mK mP at this
    rw [if_pos (Or.inl em), if_pos (Or.inl em), if_pos (Or.inl em), if_pos (Or.inl em)] at this
    exact this hd1 s145 s146 (by simp only [up2_c])
  · refine vi_b (fun Ψ => r_isW hB1 hW) (fun gw => ?_) (fun gw => ⟨_, rfl, k0 (fun q => q.elim em (fun z => gw ⟨m, z.1.1, rfl⟩)) _ hd1 s145 s146⟩)
    have gw : m < B 0 := by
      obtain ⟨w, hw, e⟩ := gw
      have := nI_inj e (by omega) (by omega)
      omega
    refine vi_b (fun Ψ => r_isX hB1 hW gw) (fun gx => ⟨_, rfl, k0 (fun q => q.elim em (fun z => z.1.2.1 gx)) _ hd1 s145 s146⟩) (fun gx => ?_)
    have hor : h ||| t < 2 ^ 31 := lt31 (Nat.or_lt_two_pow (n := 10) hh ht) (by decide)
    simp (disch := omega) only [lit, Nat.add_sub_cancel, Nat.not_lt_zero, ↓m1_mI, nI_add, pk_mul, nx_and, nx_or, and31, sh_r, sh_1, nx_nand, Nat.and_one_is_mod, nI_clamp, nI_leI, nI_ltI, nI_eq, tb_1, vp_t, up2_a, up2_b, up2_c, br_1, br_0, true_and, and_true, mI_ne, mI_ne', mI_lt, mI_le, mI_nle, mI_nlt, pk_sub, mI_sub, d3, d4, d5]
    refine vi_b (fun Ψ => r_hasB hor (by omega)) (fun gb => ⟨_, rfl, k0 (fun q => q.elim em (fun z => z.1.2.2 gb)) _ hd1 s145 s146⟩) (fun gb => ?_)
    have hfr : frW B h t m := ⟨gw, gx, gb⟩
    have hl2 : l / 2 * 2 ≤ l := Nat.div_mul_le_self _ _
    have el : l - l / 2 * 2 = l % 2 := by omega
    simp (disch := omega) only [lit, Nat.add_sub_cancel, Nat.not_lt_zero, ↓m1_mI, nI_add, pk_mul, nx_and, nx_or, and31, sh_r, sh_1, nx_nand, Nat.and_one_is_mod, nI_clamp, nI_leI, nI_ltI, nI_eq, tb_1, vp_t, up2_a, up2_b, up2_c, br_1, br_0, true_and, and_true, mI_ne, mI_ne', mI_lt, mI_le, mI_nle, mI_nlt, pk_sub, mI_sub, pk_div, el, d3, d4, d5]
    refine ⟨fun q1 => ⟨fun q2 => ⟨_, rfl, k0 (fun q => q.elim em (fun z => by have := z.2.2 q1; omega)) _ hd1 s145 s146⟩, fun q2 => ⟨_, rfl, ?_⟩⟩, fun q1 => ?_⟩
    · have hk0 : 0 < k := by omega
      have := k1 (Or.inr ⟨hfr, fun z => by omega, fun _ => hk0⟩) (up2 (up2 (up2 μ.1 146 (l + 1) (nI p)) 130 35 (nI k - nI 1)) 130 34 (nI (t ||| 2 ^ m)), μ.2)
      unfold mH mT mK mP at this
      rw [if_pos (Or.inr q1), if_neg (by omega), if_neg (by omega), if_pos (Or.inr q1)] at this
      have hk1 : nI k - nI 1 = nI (k - 1) := pk_sub hk0
      simp (disch := omega) only [lit, Nat.add_sub_cancel, Nat.not_lt_zero, ↓m1_mI, nI_add, pk_mul, nx_and, nx_or, and31, sh_r, sh_1, nx_nand, Nat.and_one_is_mod, nI_clamp, nI_leI, nI_ltI, nI_eq, tb_1, vp_t, up2_a, up2_b, up2_c, br_1, br_0, true_and, and_true, mI_ne, mI_ne', mI_lt, mI_le, mI_nle, mI_nlt, pk_sub, mI_sub]
      rw [hk1] at this
      refine this ⟨?_, ?_, ?_, ?_, ?_⟩ ?_ ?_ ?_
      · exact (hd1.1.up (by decide)).up (by decide)
      · intro b b1 b2 b3
        simp only [up2_b b2, up2_b b3]
        exact hd1.2.1 b b1 b2 b3
      · simp (disch := omega) only [up2_b]
        exact hd1.2.2.1
      · simp only [up2_c]
      · simp (disch := omega) only [up2_b, up2_c]
      · simp (disch := omega) only [up2_ne]
      · intro j hj
        simp (disch := omega) only [up2_a, up2_b]
      · simp (disch := omega) only [up2_a, up2_c]
    · have ev : l % 2 = 0 := by omega
      have hmn : ∀ i, i ≤ 10 → cnt i (fun i => h.testBit i) ≤ 10 := fun i hi => Nat.le_trans (cnt_le _ _) hi
      refine vb_up (fun i => [.ref 130, .int (nI l), .int (nI m), .int (nI (cnt i (fun i => h.testBit i))), .int (nI i)]) (fun _ => (up2 μ.1 146 (l + 1) (nI p), μ.2)) 10 (fun i hi K => ?_) ?_
      · have g1 : ¬ 10 ≤ i := by omega
        have hc := hmn i (by omega)
        refine tX12_canMove_108 ?_
        simp (disch := omega) only [lit, Nat.add_sub_cancel, Nat.not_lt_zero, ↓m1_mI, nI_add, pk_mul, nx_and, nx_or, and31, sh_r, sh_1, nx_nand, Nat.and_one_is_mod, nI_clamp, nI_leI, nI_ltI, nI_eq, tb_1, vp_t, up2_a, up2_b, up2_c, br_1, br_0, true_and, and_true, mI_ne, mI_ne', mI_lt, mI_le, mI_nle, mI_nlt, pk_sub, mI_sub, eq_false g1, d3]
        have e1 : cnt (i + 1) (fun i => h.testBit i) = cnt i (fun i => h.testBit i) + h / 2 ^ i % 2 := by
          show cnt i _ + (if h.testBit i = true then 1 else 0) = _
          by_cases q : h / 2 ^ i % 2 = 1
          · rw [if_pos (by rw [← tb_1]; exact q), q]
          · rw [if_neg (by rw [← tb_1]; exact q)]
            have := Nat.mod_two_eq_zero_or_one (h / 2 ^ i)
            omega
        rw [e1] at K
        exact K
      · refine tX12_canMove_108 ?_
        simp (disch := omega) only [lit, Nat.add_sub_cancel, Nat.not_lt_zero, ↓m1_mI, nI_add, pk_mul, nx_and, nx_or, and31, sh_r, sh_1, nx_nand, Nat.and_one_is_mod, nI_clamp, nI_leI, nI_ltI, nI_eq, tb_1, vp_t, up2_a, up2_b, up2_c, br_1, br_0, true_and, and_true, mI_ne, mI_ne', mI_lt, mI_le, mI_nle, mI_nlt, pk_sub, mI_sub, Nat.le_refl]
        have hT1 : RuL B T (((up2 μ.1 146 (l + 1) (nI p), μ.2) : Me).1) := hT.fr (by show up2 μ.1 146 (l + 1) (nI p) 133 = _; rw [up2_ne (by decide), d1 133 (by decide)])
        refine r_feeOf hB1 hW hT1 wT gw (hmn 10 (by omega)) (fun μ2 a2 => ?_)
        have hfe := feeP_le (T := T) (mn := hcn h) hW gw
        have hd2 : dS I0 h t k μ2.1 := hd1.fr (a2.mono (by decide))
        have t145 : μ2.1 145 = μ.1 145 := by rw [a2 145 (by decide)]; exact s145
        have t146 : ∀ j, j ≠ l + 1 → μ2.1 146 j = μ.1 146 j := fun j hj => by rw [a2 146 (by decide)]; exact s146 j hj
        have rp : μ2.1 146 l = nI p := by rw [t146 l (by omega)]; exact r146
        have r33 := hd2.2.2.1
        have ehc : cnt 10 (fun i => h.testBit i) = hcn h := rfl
        rw [ehc]
        simp (disch := omega) only [lit, Nat.add_sub_cancel, Nat.not_lt_zero, ↓m1_mI, nI_add, pk_mul, nx_and, nx_or, and31, sh_r, sh_1, nx_nand, Nat.and_one_is_mod, nI_clamp, nI_leI, nI_ltI, nI_eq, tb_1, vp_t, up2_a, up2_b, up2_c, br_1, br_0, true_and, and_true, mI_ne, mI_ne', mI_lt, mI_le, mI_nle, mI_nlt, pk_sub, mI_sub, rp]
        refine ⟨fun q2 => ?_, fun q2 => ⟨_, rfl, k0 (fun q => q.elim em (fun z => by have := z.2.1 ev; omega)) _ hd2 t145 t146⟩⟩
        simp (disch := omega) only [lit, Nat.add_sub_cancel, Nat.not_lt_zero, ↓m1_mI, nI_add, pk_mul, nx_and, nx_or, and31, sh_r, sh_1, nx_nand, Nat.and_one_is_mod, nI_clamp, nI_leI, nI_ltI, nI_eq, tb_1, vp_t, up2_a, up2_b, up2_c, br_1, br_0, true_and, and_true, mI_ne, mI_ne', mI_lt, mI_le, mI_nle, mI_nlt, pk_sub, mI_sub, r33]
        have := k1 (Or.inr ⟨hfr, fun _ => q2, fun z => by omega⟩) (up2 (up2 μ2.1 146 (l + 1) (nI (p - feeP B T m (hcn h)))) 130 33 (nI (h ||| 2 ^ m)), μ2.2)
        unfold mH mT mK mP at this
        rw [if_neg (by omega), if_pos (Or.inr ev), if_pos (Or.inr ev), if_neg (by omega)] at this
        refine ⟨_, rfl, this ⟨?_, ?_, ?_, ?_, ?_⟩ ?_ ?_ ?_⟩
        · exact (hd2.1.up (by decide)).up (by decide)
        · intro b b1 b2 b3
          simp (disch := omega) only [up2_b b1, up2_a]
          exact hd2.2.1 b b1 b2 b3
        · simp only [up2_c]
        · simp (disch := omega) only [up2_b, up2_a]
          exact hd2.2.2.2.1
        · simp (disch := omega) only [up2_b, up2_a]
          exact hd2.2.2.2.2
        · simp (disch := omega) only [up2_ne]
          exact t145
        · intro j hj
          simp (disch := omega) only [up2_a, up2_b]
          exact t146 j hj
        · simp (disch := omega) only [up2_a, up2_c]
end DY
