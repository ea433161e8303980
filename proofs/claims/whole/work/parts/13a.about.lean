/-! the text that rules; about -/
section AB
variable {N : Nat} {μ : Me} {B B' R T tp : Nat → Nat} {tn : Nat} {ft fp : Int32} {I I1 I' : Nat → Nat → Int32}
def ca (B : Nat → Nat) (k : Nat) : Nat := 750 * (B 4 - 1) + 1 + 6 * k
theorem ca_lt (hW : WB B) {k : Nat} (hk : k < 16) : ca B k + 5 < 3000 := by
  have := hW.n
  unfold ca
  omega
theorem RuL.f (h : RuL B T I) (h4 : B 4 ≠ 0) (k j : Nat) : I 133 (ca B k + j) = nI (fl T k j) := by
  have := h.2 h4 (1 + 6 * k + j)
  unfold ca fl
  rw [← this]
  congr 1
  omega
theorem RuL.f0 (h : RuL B T I) (h4 : B 4 ≠ 0) (k : Nat) : I 133 (ca B k) = nI (fl T k 0) := h.f h4 k 0
theorem RuL.fr (h : RuL B T I) (he : I' 133 = I 133) : RuL B T I' := by
  unfold RuL at *
  rw [he]
  exact h
theorem RuL.pos (h : RuL B T I) {k : Nat} (hk : k < T 0) : B 4 ≠ 0 := fun e => by rw [h.1 e] at hk; omega
section
variable {Ψ : Int32 → Me → Prop}
theorem r_clauses (hB : rowB B (μ.1 131)) (hW : WB B) (hT : RuL B T μ.1) (h : Ψ (nI (T 0)) μ) : VI N 1 mX12_clauses [.ref 130] μ Ψ := by
  have hn := hW.n
  refine tX12_clauses_0 ?_
  rw [hB.2]
  by_cases e : B 4 = 0
  · rw [n1_mI e]
    simp (disch := omega) only [lit, Nat.add_sub_cancel, Nat.not_lt_zero, ↓m1_mI, nI_add, pk_mul, nx_and, nx_or, and31, sh_r, sh_1, nx_nand, Nat.and_one_is_mod, nI_clamp, nI_leI, nI_ltI, nI_eq, tb_1, vp_t, up2_a, up2_b, up2_c, br_1, br_0, true_and, and_true, mI_ne, mI_ne', mI_lt, mI_le, mI_nle, mI_nlt, pk_sub, mI_sub]
    rw [hT.1 e] at h
    exact ⟨_, rfl, h⟩
  · have h0 := hT.2 e 0
    rw [Nat.add_zero] at h0
    have hv : 750 * (B 4 - 1) < 3000 := by omega
    have h9 : 0 < B 4 := by omega
    rw [n1_eq h9]
    simp (disch := omega) only [lit, Nat.add_sub_cancel, Nat.not_lt_zero, ↓m1_mI, nI_add, pk_mul, nx_and, nx_or, and31, sh_r, sh_1, nx_nand, Nat.and_one_is_mod, nI_clamp, nI_leI, nI_ltI, nI_eq, tb_1, vp_t, up2_a, up2_b, up2_c, br_1, br_0, true_and, and_true, mI_ne, mI_ne', mI_lt, mI_le, mI_nle, mI_nlt, pk_sub, mI_sub, h0, Nat.zero_le]
    exact ⟨_, rfl, h⟩
theorem r_clauseAt {k : Nat} (hB : rowB B (μ.1 131)) (hW : WB B) (h4 : B 4 ≠ 0) (h : Ψ (nI (ca B k)) μ) : VI N 1 mX12_clauseAt [.ref 130, .int (nI k)] μ Ψ := by
  refine tX12_clauseAt_0 ?_
  rw [hB.2]
  have h9 : 0 < B 4 := by omega
  rw [n1_eq h9]
  simp (disch := omega) only [lit, Nat.add_sub_cancel, Nat.not_lt_zero, ↓m1_mI, nI_add, pk_mul, nx_and, nx_or, and31, sh_r, sh_1, nx_nand, Nat.and_one_is_mod, nI_clamp, nI_leI, nI_ltI, nI_eq, tb_1, vp_t, up2_a, up2_b, up2_c, br_1, br_0, true_and, and_true, mI_ne, mI_ne', mI_lt, mI_le, mI_nle, mI_nlt, pk_sub, mI_sub]
  exact ⟨_, rfl, h⟩
theorem r_isRule {k : Nat} (hB : rowB B (μ.1 131)) (hW : WB B) (hT : RuL B T μ.1) (wT : WT T) (hk : k < T 0) (h1 : fl T k 0 = 3 → Ψ 1 μ) (h0 : ¬ fl T k 0 = 3 → Ψ 0 μ) : VI N 2 mX12_isRule [.ref 130, .int (nI k)] μ Ψ := by
  have h4 := hT.pos hk
  have h16 := wT.1.2
  have hca := ca_lt hW (show k < 16 by omega)
  have hb : fl T k 0 < 65536 := wT.1.1 _
  refine tX12_isRule_0 (r_clauseAt hB hW h4 ?_)
  simp (disch := omega) only [lit, Nat.add_sub_cancel, Nat.not_lt_zero, ↓m1_mI, nI_add, pk_mul, nx_and, nx_or, and31, sh_r, sh_1, nx_nand, Nat.and_one_is_mod, nI_clamp, nI_leI, nI_ltI, nI_eq, tb_1, vp_t, up2_a, up2_b, up2_c, br_1, br_0, true_and, and_true, mI_ne, mI_ne', mI_lt, mI_le, mI_nle, mI_nlt, pk_sub, mI_sub, hT.f0 h4]
  exact ⟨fun e => ⟨_, rfl, h1 e⟩, fun e => ⟨_, rfl, h0 e⟩⟩
theorem cnt_le (n : Nat) (p : Nat → Bool) : cnt n p ≤ n := by
  induction n with
  | zero => exact Nat.le_refl _
  | succ n ih =>
    show cnt n p + (if p n = true then 1 else 0) ≤ _
    split <;> omega
theorem cnt_t {n : Nat} {p : Nat → Bool} (h : p n = true) : cnt n p + 1 = cnt (n + 1) p := by
  show _ = cnt n p + (if p n = true then 1 else 0)
  rw [if_pos h]
theorem cnt_f {n : Nat} {p : Nat → Bool} (h : ¬ p n = true) : cnt n p + 0 = cnt (n + 1) p := by
  show _ = cnt n p + (if p n = true then 1 else 0)
  rw [if_neg h]
theorem isR_iff {k : Nat} : isR T k = true ↔ fl T k 0 = 3 := by unfold isR; exact decide_eq_true_iff
theorem r_rules (hB : rowB B (μ.1 131)) (hW : WB B) (hT : RuL B T μ.1) (wT : WT T) (h : Ψ (nI (nR T)) μ) : VI N 3 mX12_rules [.ref 130] μ Ψ := by
  have h16 := wT.1.2
  refine tX12_rules_0 ?_
  refine vb_up (fun i => [.ref 130, .int (nI (cnt i (isR T))), .int (nI i)]) (fun _ => μ) (T 0) (fun i hi K => ?_) ?_
  · refine tX12_rules_4 (r_clauses hB hW hT ?_)
    have e : ¬ T 0 ≤ i := by omega
    have hc := cnt_le i (isR T)
    simp (disch := omega) only [lit, Nat.add_sub_cancel, Nat.not_lt_zero, ↓m1_mI, nI_add, pk_mul, nx_and, nx_or, and31, sh_r, sh_1, nx_nand, Nat.and_one_is_mod, nI_clamp, nI_leI, nI_ltI, nI_eq, tb_1, vp_t, up2_a, up2_b, up2_c, br_1, br_0, true_and, and_true, mI_ne, mI_ne', mI_lt, mI_le, mI_nle, mI_nlt, pk_sub, mI_sub, eq_false e]
    refine vi_b (fun Ψ => r_isRule hB hW hT wT hi) (fun g => ?_) (fun g => ?_)
    · rw [cnt_t (isR_iff.mpr g)]; exact K
    · rw [cnt_f (fun h => g (isR_iff.mp h))]; exact K
  · refine tX12_rules_4 (r_clauses hB hW hT ?_)
    simp (disch := omega) only [lit, Nat.add_sub_cancel, Nat.not_lt_zero, ↓m1_mI, nI_add, pk_mul, nx_and, nx_or, and31, sh_r, sh_1, nx_nand, Nat.and_one_is_mod, nI_clamp, nI_leI, nI_ltI, nI_eq, tb_1, vp_t, up2_a, up2_b, up2_c, br_1, br_0, true_and, and_true, mI_ne, mI_ne', mI_lt, mI_le, mI_nle, mI_nlt, pk_sub, mI_sub, Nat.le_refl]
    exact ⟨_, rfl, h⟩
end
theorem lwB_5 (hW : WB B) : isL5 (lwB B) := by
  have := hW.n
  unfold isL5 lwB
  by_cases e : B 4 = 0
  · rw [if_pos e]; exact Or.inl rfl
  · rw [if_neg e]; omega
theorem c_ruling {Ψ : Nat → Me → Prop} (hC : CB B 3 μ.1) (hW : WB B) (h : isL5 (lwB B) → Ψ (lwB B) μ) : VA N 1 mX11_ruling [.ref 2] μ Ψ := by
  have hn := hW.n
  have h' := h (lwB_5 hW)
  refine tX11_ruling_0 ?_
  rw [hC.t2]
  unfold lwB at h'
  by_cases e : B 4 = 0
  · rw [if_pos e] at h'
    rw [n1_mI e]
    simp (disch := omega) only [lit, Nat.add_sub_cancel, Nat.not_lt_zero, ↓m1_mI, nI_add, pk_mul, nx_and, nx_or, and31, sh_r, sh_1, nx_nand, Nat.and_one_is_mod, nI_clamp, nI_leI, nI_ltI, nI_eq, tb_1, vp_t, up2_a, up2_b, up2_c, br_1, br_0, true_and, and_true, mI_ne, mI_ne', mI_lt, mI_le, mI_nle, mI_nlt, pk_sub, mI_sub]
    exact tX11_ruling_26 (tX11_ruling_30 (Or.inl rfl) ⟨_, rfl, h'⟩)
  · rw [if_neg e] at h'
    have h9 : 0 < B 4 := by omega
    have e4 : ¬ 4 ≤ B 4 - 1 := by omega
    rw [n1_eq h9]
    simp (disch := omega) only [lit, Nat.add_sub_cancel, Nat.not_lt_zero, ↓m1_mI, nI_add, pk_mul, nx_and, nx_or, and31, sh_r, sh_1, nx_nand, Nat.and_one_is_mod, nI_clamp, nI_leI, nI_ltI, nI_eq, tb_1, vp_t, up2_a, up2_b, up2_c, br_1, br_0, true_and, and_true, mI_ne, mI_ne', mI_lt, mI_le, mI_nle, mI_nlt, pk_sub, mI_sub, eq_false e4]
    obtain ⟨t, ht⟩ : ∃ t, B 4 - 1 = t := ⟨_, rfl⟩
    rw [ht] at h' e4 ⊢
    have : t = 0 ∨ t = 1 ∨ t = 2 ∨ t = 3 := by omega
    rcases this with rfl | rfl | rfl | rfl
    · exact ⟨rfl, tX11_ruling_23 (Or.inl rfl) (tX11_ruling_30 (Or.inr (Or.inl rfl)) ⟨_, rfl, h'⟩)⟩
    · exact ⟨rfl, tX11_ruling_23 (Or.inr (Or.inl rfl)) (tX11_ruling_30 (Or.inr (Or.inr (Or.inl rfl))) ⟨_, rfl, h'⟩)⟩
    · exact ⟨rfl, tX11_ruling_23 (Or.inr (Or.inr (Or.inl rfl))) (tX11_ruling_30 (Or.inr (Or.inr (Or.inr (Or.inl rfl)))) ⟨_, rfl, h'⟩)⟩
    · exact ⟨rfl, tX11_ruling_23 (Or.inr (Or.inr (Or.inr rfl))) (tX11_ruling_30 (Or.inr (Or.inr (Or.inr (Or.inr rfl)))) ⟨_, rfl, h'⟩)⟩
/-- what about answers -/
def abP (B T : Nat → Nat) (tn : Nat) (j : Nat) : Int32 :=
  if j = 0 then nI (B 0) else if j = 1 then nI (B 1) else if j = 2 then nI (B 2) else if j = 3 then nI (B 3) else if j = 4 then nI (B 4) - nI 1 else if j = 5 then nI (B 5) else if j = 6 then nI (B 6) else if j = 7 then nI tn else if j = 8 then nI (nR T)
  else if 10 ≤ j ∧ j < 10 + B 5 then nI (B (80 + 3 * (j - 10))) else if 20 ≤ j ∧ j < 20 + B 5 then nI (B (80 + 3 * (j - 20) + 1)) else if 30 ≤ j ∧ j < 30 + B 5 then nI (B (80 + 3 * (j - 30) + 2)) else -2
theorem c_about {x1 : Int32} {Ψ : Int32 → Me → Prop} (hC : CB B 3 μ.1) (hW : WB B) (hL : LW T (lwB B) μ.1) (h52 : μ.1 52 0 = nI tn) (h0 : x1 < nI 0 → Ψ (-2) μ) (h1 : ∀ j, j < 2 ^ 31 → x1 = nI j → Ψ (abP B T tn j) μ) : VI N 2 mX11_about [.ref 2, .int x1] μ Ψ := by
  have hn := hW.n
  refine tX11_about_0 ?_
  by_cases hx : x1 < nI 0
  · have ne : ∀ n, n < 9 → ¬ x1 = nI n := fun n hn e => by rw [e] at hx; exact nI_pos (by omega) hx
    refine ⟨fun e => absurd e (ne 0 (by decide)), fun e => absurd e (ne 1 (by decide)), fun e => absurd e (ne 2 (by decide)), fun e => absurd e (ne 3 (by decide)), fun e => absurd e (ne 4 (by decide)), fun e => absurd e (ne 5 (by decide)), fun e => absurd e (ne 6 (by decide)), fun e => absurd e (ne 7 (by decide)), fun e => absurd e (ne 8 (by decide)), fun _ => ?_⟩
    refine tX11_aboutHeard_0 ⟨fun _ => ⟨_, rfl, _, rfl, h0 hx⟩, fun e => absurd ?_ e⟩
    have g := i_lt.mp hx
    rw [nI_toInt (by decide)] at g
    rw [i_lt, show (10 : Int32).toInt = 10 from by decide]
    omega
  · obtain ⟨j, hj, rfl⟩ := nI_of hx
    have h2 := h1 j hj rfl
    unfold abP at h2
    simp (disch := omega) only [lit, Nat.add_sub_cancel, Nat.not_lt_zero, ↓m1_mI, nI_add, pk_mul, nx_and, nx_or, and31, sh_r, sh_1, nx_nand, Nat.and_one_is_mod, nI_clamp, nI_leI, nI_ltI, nI_eq, tb_1, vp_t, up2_a, up2_b, up2_c, br_1, br_0, true_and, and_true, mI_ne, mI_ne', mI_lt, mI_le, mI_nle, mI_nlt, pk_sub, mI_sub, hC.k0, hC.k6, hC.t0, hC.t1, hC.t2, hC.k10, hC.k14, h52, nI_toInt]
    refine ⟨fun e => ?_, fun e => ?_, fun e => ?_, fun e => ?_, fun e => ?_, fun e => ?_, fun e => ?_, fun e => ?_, fun e => ?_, fun e => ?_⟩
    · subst e; exact ⟨_, rfl, h2⟩
    · subst e; exact ⟨_, rfl, h2⟩
    · subst e; exact ⟨_, rfl, h2⟩
    · subst e; exact ⟨_, rfl, h2⟩
    · subst e; exact ⟨_, rfl, h2⟩
    · subst e; exact ⟨_, rfl, h2⟩
    · subst e; exact ⟨_, rfl, h2⟩
    · subst e; exact ⟨_, rfl, h2⟩
    · subst e
      refine c_ruling hC hW (fun h5 => ⟨h5, _, rfl, ?_⟩)
      rw [hL.1]
      exact h2
    · have e8 : 8 < j := by omega
      simp (disch := omega) only [if_neg] at h2
      refine tX11_aboutHeard_0 ?_
      by_cases q1 : 10 ≤ j ∧ j < 10 + B 5
      · obtain ⟨i, rfl⟩ : ∃ i, j = 10 + i := ⟨j - 10, by omega⟩
        have d1 : (10 + i) / 10 = 1 := by omega
        have d2 : 10 + i - 1 * 10 = i := by omega
        have d3 : ¬ 10 + i < 10 := by omega
        have d4 : i < B 5 := by omega
        rw [if_pos q1, Nat.add_sub_cancel_left] at h2
        simp (disch := omega) only [lit, Nat.add_sub_cancel, Nat.not_lt_zero, ↓m1_mI, nI_add, pk_mul, nx_and, nx_or, and31, sh_r, sh_1, nx_nand, Nat.and_one_is_mod, nI_clamp, nI_leI, nI_ltI, nI_eq, tb_1, vp_t, up2_a, up2_b, up2_c, br_1, br_0, true_and, and_true, mI_ne, mI_ne', mI_lt, mI_le, mI_nle, mI_nlt, pk_sub, mI_sub, pk_div, d1, d2, eq_false d3, hC.k10, eq_true d4, hC.k11]
        exact ⟨fun _ => ⟨_, rfl, _, rfl, h2⟩, fun e => absurd e (by decide), fun e => absurd e (by decide), fun e => absurd e (by decide)⟩
      · rw [if_neg q1] at h2
        by_cases q2 : 20 ≤ j ∧ j < 20 + B 5
        · obtain ⟨i, rfl⟩ : ∃ i, j = 20 + i := ⟨j - 20, by omega⟩
          have d1 : (20 + i) / 10 = 2 := by omega
          have d2 : 20 + i - 2 * 10 = i := by omega
          have d3 : ¬ 20 + i < 10 := by omega
          have d4 : i < B 5 := by omega
          rw [if_pos q2, Nat.add_sub_cancel_left] at h2
          simp (disch := omega) only [lit, Nat.add_sub_cancel, Nat.not_lt_zero, ↓m1_mI, nI_add, pk_mul, nx_and, nx_or, and31, sh_r, sh_1, nx_nand, Nat.and_one_is_mod, nI_clamp, nI_leI, nI_ltI, nI_eq, tb_1, vp_t, up2_a, up2_b, up2_c, br_1, br_0, true_and, and_true, mI_ne, mI_ne', mI_lt, mI_le, mI_nle, mI_nlt, pk_sub, mI_sub, pk_div, d1, d2, eq_false d3, hC.k10, eq_true d4, hC.k12]
          exact ⟨fun e => absurd e (by decide), fun _ => ⟨_, rfl, _, rfl, h2⟩, fun e => absurd e (by decide), fun e => absurd e (by decide)⟩
        · rw [if_neg q2] at h2
          by_cases q3 : 30 ≤ j ∧ j < 30 + B 5
          · obtain ⟨i, rfl⟩ : ∃ i, j = 30 + i := ⟨j - 30, by omega⟩
            have d1 : (30 + i) / 10 = 3 := by omega
            have d2 : 30 + i - 3 * 10 = i := by omega
            have d3 : ¬ 30 + i < 10 := by omega
            have d4 : i < B 5 := by omega
            rw [if_pos q3, Nat.add_sub_cancel_left] at h2
            simp (disch := omega) only [lit, Nat.add_sub_cancel, Nat.not_lt_zero, ↓m1_mI, nI_add, pk_mul, nx_and, nx_or, and31, sh_r, sh_1, nx_nand, Nat.and_one_is_mod, nI_clamp, nI_leI, nI_ltI, nI_eq, tb_1, vp_t, up2_a, up2_b, up2_c, br_1, br_0, true_and, and_true, mI_ne, mI_ne', mI_lt, mI_le, mI_nle, mI_nlt, pk_sub, mI_sub, pk_div, d1, d2, eq_false d3, hC.k10, eq_true d4, hC.k13]
            exact ⟨fun e => absurd e (by decide), fun e => absurd e (by decide), fun _ => ⟨_, rfl, _, rfl, h2⟩, fun e => absurd e (by decide)⟩
          · rw [if_neg q3] at h2
            have dd : j / 10 * 10 ≤ j := Nat.div_mul_le_self _ _
            simp (disch := omega) only [lit, Nat.add_sub_cancel, Nat.not_lt_zero, ↓m1_mI, nI_add, pk_mul, nx_and, nx_or, and31, sh_r, sh_1, nx_nand, Nat.and_one_is_mod, nI_clamp, nI_leI, nI_ltI, nI_eq, tb_1, vp_t, up2_a, up2_b, up2_c, br_1, br_0, true_and, and_true, mI_ne, mI_ne', mI_lt, mI_le, mI_nle, mI_nlt, pk_sub, mI_sub, pk_div, hC.k10, nI_toInt]
            refine ⟨fun _ => ⟨_, rfl, _, rfl, h2⟩, fun e3 => ⟨fun e4 => ⟨fun e5 => ?_, fun e5 => ?_, fun e5 => ?_, fun _ => ⟨_, rfl, _, rfl, h2⟩⟩, fun _ => ⟨_, rfl, _, rfl, h2⟩⟩⟩
            all_goals (exfalso; omega)
theorem r_about {x1 : Int32} {Ψ : Int32 → Me → Prop} (hB : rowB B (μ.1 131)) (hW : WB B) (hT : RuL B T μ.1) (wT : WT T) (h4 : μ.1 130 4 = nI tn) (h0 : x1 < nI 0 → Ψ (-2) μ) (h1 : ∀ j, j < 2 ^ 31 → x1 = nI j → Ψ (abP B T tn j) μ) : VI N 4 mX12_about [.ref 130, .int x1] μ Ψ := by
  have hn := hW.n
  have rB := hB.1
  refine tX12_about_0 ?_
  simp (disch := omega) only [lit, Nat.add_sub_cancel, Nat.not_lt_zero, ↓m1_mI, nI_add, pk_mul, nx_and, nx_or, and31, sh_r, sh_1, nx_nand, Nat.and_one_is_mod, nI_clamp, nI_leI, nI_ltI, nI_eq, tb_1, vp_t, up2_a, up2_b, up2_c, br_1, br_0, true_and, and_true, mI_ne, mI_ne', mI_lt, mI_le, mI_nle, mI_nlt, pk_sub, mI_sub, rB, hB.2]
  by_cases hx : x1 < nI 0
  · have ne : ∀ n, n < 9 → ¬ x1 = nI n := fun n hn e => by rw [e] at hx; exact nI_pos (by omega) hx
    have no : ∀ lo hi, hi < 2 ^ 31 → ¬ rgI lo hi x1 := by
      rintro lo hi hh ⟨n, h2, h3, rfl⟩
      exact nI_pos (by omega) hx
    refine vi_b (fun Ψ => r_in 10 (9 + B 5) (by decide) (by omega)) (fun g => absurd g (no _ _ (by omega))) (fun _ => ?_)
    simp (disch := omega) only [lit, Nat.add_sub_cancel, Nat.not_lt_zero, ↓m1_mI, nI_add, pk_mul, nx_and, nx_or, and31, sh_r, sh_1, nx_nand, Nat.and_one_is_mod, nI_clamp, nI_leI, nI_ltI, nI_eq, tb_1, vp_t, up2_a, up2_b, up2_c, br_1, br_0, true_and, and_true, mI_ne, mI_ne', mI_lt, mI_le, mI_nle, mI_nlt, pk_sub, mI_sub, rB, hB.2]
    refine vi_b (fun Ψ => r_in 20 (19 + B 5) (by decide) (by omega)) (fun g => absurd g (no _ _ (by omega))) (fun _ => ?_)
    simp (disch := omega) only [lit, Nat.add_sub_cancel, Nat.not_lt_zero, ↓m1_mI, nI_add, pk_mul, nx_and, nx_or, and31, sh_r, sh_1, nx_nand, Nat.and_one_is_mod, nI_clamp, nI_leI, nI_ltI, nI_eq, tb_1, vp_t, up2_a, up2_b, up2_c, br_1, br_0, true_and, and_true, mI_ne, mI_ne', mI_lt, mI_le, mI_nle, mI_nlt, pk_sub, mI_sub, rB, hB.2]
    refine vi_b (fun Ψ => r_in 30 (29 + B 5) (by decide) (by omega)) (fun g => absurd g (no _ _ (by omega))) (fun _ => ?_)
    exact ⟨fun e => absurd e (ne 0 (by decide)), fun e => absurd e (ne 1 (by decide)), fun e => absurd e (ne 2 (by decide)), fun e => absurd e (ne 3 (by decide)), fun e => absurd e (ne 4 (by decide)), fun e => absurd e (ne 5 (by decide)), fun e => absurd e (ne 6 (by decide)), fun e => absurd e (ne 7 (by decide)), fun e => absurd e (ne 8 (by decide)), fun _ => ⟨_, rfl, h0 hx⟩⟩
  · obtain ⟨j, hj, rfl⟩ := nI_of hx
    have h2 := h1 j hj rfl
    unfold abP at h2
    refine vi_b (fun Ψ => r_in 10 (9 + B 5) (by decide) (by omega)) (fun g => ?_) (fun g1 => ?_)
    · obtain ⟨n, l1, l2, l3⟩ := g
      obtain rfl := nI_inj l3 hj (by omega)
      simp (disch := omega) only [if_neg, if_pos] at h2
      simp (disch := omega) only [lit, Nat.add_sub_cancel, Nat.not_lt_zero, ↓m1_mI, nI_add, pk_mul, nx_and, nx_or, and31, sh_r, sh_1, nx_nand, Nat.and_one_is_mod, nI_clamp, nI_leI, nI_ltI, nI_eq, tb_1, vp_t, up2_a, up2_b, up2_c, br_1, br_0, true_and, and_true, mI_ne, mI_ne', mI_lt, mI_le, mI_nle, mI_nlt, pk_sub, mI_sub, rB]
      exact ⟨_, rfl, h2⟩
    · have g1' : ¬ (10 ≤ j ∧ j < 10 + B 5) := fun h => g1 ⟨j, h.1, by omega, rfl⟩
      refine vi_b (P := rgI 20 (19 + B 5) (nI j)) (fun Ψ => ?_) (fun g => ?_) (fun g2 => ?_)
      · simp (disch := omega) only [lit, Nat.add_sub_cancel, Nat.not_lt_zero, ↓m1_mI, nI_add, pk_mul, nx_and, nx_or, and31, sh_r, sh_1, nx_nand, Nat.and_one_is_mod, nI_clamp, nI_leI, nI_ltI, nI_eq, tb_1, vp_t, up2_a, up2_b, up2_c, br_1, br_0, true_and, and_true, mI_ne, mI_ne', mI_lt, mI_le, mI_nle, mI_nlt, pk_sub, mI_sub, rB, hB.2]
        exact r_in 20 (19 + B 5) (by decide) (by omega)
      · obtain ⟨n, l1, l2, l3⟩ := g
        obtain rfl := nI_inj l3 hj (by omega)
        simp (disch := omega) only [if_neg, if_pos] at h2
        simp (disch := omega) only [lit, Nat.add_sub_cancel, Nat.not_lt_zero, ↓m1_mI, nI_add, pk_mul, nx_and, nx_or, and31, sh_r, sh_1, nx_nand, Nat.and_one_is_mod, nI_clamp, nI_leI, nI_ltI, nI_eq, tb_1, vp_t, up2_a, up2_b, up2_c, br_1, br_0, true_and, and_true, mI_ne, mI_ne', mI_lt, mI_le, mI_nle, mI_nlt, pk_sub, mI_sub, rB]
        exact ⟨_, rfl, h2⟩
      · have g2' : ¬ (20 ≤ j ∧ j < 20 + B 5) := fun h => g2 ⟨j, h.1, by omega, rfl⟩
        refine vi_b (P := rgI 30 (29 + B 5) (nI j)) (fun Ψ => ?_) (fun g => ?_) (fun g3 => ?_)
        · simp (disch := omega) only [lit, Nat.add_sub_cancel, Nat.not_lt_zero, ↓m1_mI, nI_add, pk_mul, nx_and, nx_or, and31, sh_r, sh_1, nx_nand, Nat.and_one_is_mod, nI_clamp, nI_leI, nI_ltI, nI_eq, tb_1, vp_t, up2_a, up2_b, up2_c, br_1, br_0, true_and, and_true, mI_ne, mI_ne', mI_lt, mI_le, mI_nle, mI_nlt, pk_sub, mI_sub, rB, hB.2]
          exact r_in 30 (29 + B 5) (by decide) (by omega)
        · obtain ⟨n, l1, l2, l3⟩ := g
          obtain rfl := nI_inj l3 hj (by omega)
          simp (disch := omega) only [if_neg, if_pos] at h2
          simp (disch := omega) only [lit, Nat.add_sub_cancel, Nat.not_lt_zero, ↓m1_mI, nI_add, pk_mul, nx_and, nx_or, and31, sh_r, sh_1, nx_nand, Nat.and_one_is_mod, nI_clamp, nI_leI, nI_ltI, nI_eq, tb_1, vp_t, up2_a, up2_b, up2_c, br_1, br_0, true_and, and_true, mI_ne, mI_ne', mI_lt, mI_le, mI_nle, mI_nlt, pk_sub, mI_sub, rB]
          exact ⟨_, rfl, h2⟩
        · have g3' : ¬ (30 ≤ j ∧ j < 30 + B 5) := fun h => g3 ⟨j, h.1, by omega, rfl⟩
          simp (disch := omega) only [lit, Nat.add_sub_cancel, Nat.not_lt_zero, ↓m1_mI, nI_add, pk_mul, nx_and, nx_or, and31, sh_r, sh_1, nx_nand, Nat.and_one_is_mod, nI_clamp, nI_leI, nI_ltI, nI_eq, tb_1, vp_t, up2_a, up2_b, up2_c, br_1, br_0, true_and, and_true, mI_ne, mI_ne', mI_lt, mI_le, mI_nle, mI_nlt, pk_sub, mI_sub, rB, hB.2, h4, nI_toInt]
          refine ⟨fun e => ?_, fun e => ?_, fun e => ?_, fun e => ?_, fun e => ?_, fun e => ?_, fun e => ?_, fun e => ?_, fun e => ?_, fun e => ?_⟩
          · subst e; exact ⟨_, rfl, h2⟩
          · subst e; exact ⟨_, rfl, h2⟩
          · subst e; exact ⟨_, rfl, h2⟩
          · subst e; exact ⟨_, rfl, h2⟩
          · subst e; exact ⟨_, rfl, h2⟩
          · subst e; exact ⟨_, rfl, h2⟩
          · subst e; exact ⟨_, rfl, h2⟩
          · subst e; exact ⟨_, rfl, h2⟩
          · subst e; exact r_rules hB hW hT wT ⟨_, rfl, h2⟩
          · have e8 : 8 < j := by omega
            simp (disch := omega) only [if_neg] at h2
            exact ⟨_, rfl, h2⟩
theorem k_about {x1 : Int32} {Φ : Int32 → Int32 → Me → Prop} (h : IV μ.1) (K : ∀ v (μ' : Me), IV μ'.1 → μ'.1 0 = μ.1 0 → Φ v v μ') : VI N 2 mX11_about [.ref 2, .int x1] μ (fun v μ1 => μ1.1 0 = μ.1 0 ∧ VI N 4 mX12_about [.ref 130, .int x1] μ1 (fun v' μ2 => Φ v v' μ2)) := by
  have h' := h
  obtain ⟨B, B', R, tp, tn, ft, fp, hw, hc, hr⟩ := h
  refine c_about (tn := tn) hc.1 hw.1 (hc.ruL hw) hc.2.2.2.1 (fun g => ?_) (fun j hj e => ?_)
  · refine And.intro (by first | rfl | exact hA 0 (by decide) | exact b3 0 (by decide) | exact b2 0 (by decide) | exact a1 0 (by decide) | exact a1 0 (by omega) | exact a3 0 (by decide) (by decide) | simp (disch := omega) only [up2_ne]) ?_
    refine r_about (tn := tn) hr.1 hw.1 hr.ruT hw.ruT hr.2.2.2.1 (fun _ => K _ _ h' rfl) (fun j hj e => ?_)
    subst e
    exact absurd g (nI_pos hj)
  · subst e
    try refine And.intro (by first | rfl | exact hA 0 (by decide) | exact b3 0 (by decide) | exact b2 0 (by decide) | exact a1 0 (by decide) | exact a1 0 (by omega) | exact a3 0 (by decide) (by decide) | simp (disch := omega) only [up2_ne]) ?_
    refine r_about (tn := tn) hr.1 hw.1 hr.ruT hw.ruT hr.2.2.2.1 (fun g => absurd g (nI_pos hj)) (fun j' hj' e => ?_)
    obtain rfl := nI_inj e hj hj'
    exact K _ _ h' rfl
end AB
