/-! the reference reads what is asked, with and, or -/
section RX
variable {N : Nat} {bt : Nat → Nat} {tn m t0 fee : Nat}
section
variable {k op : Nat} {L : Cd} {μ : Me} {Ψ : Int32 → Me → Prop} {A C : Int32 → Me → Prop}
theorem r_comp (h : RK bt tn m t0 k L op μ) (h1 : isC (kT bt tn k) → Ψ (nI (cop (kT bt tn k))) μ) (h0 : ¬ isC (kT bt tn k) → Ψ mI μ) : VI N 1 mX12_compareOf [.ref 130] μ Ψ := by
  have ⟨t1, t2⟩ := rk_tok h
  have e4 : rTok bt tn (tS bt tn k) = 4 ↔ kT bt tn k = 130 := tok_4 h.1.2.2.2
  have e5 : rTok bt tn (tS bt tn k) = 5 ↔ kT bt tn k = 131 := tok_5 h.1.2.2.2
  unfold isC at h1 h0
  refine tX12_compareOf_0 ?_
  rw [t1]
  simp (disch := omega) only [lit, Nat.add_sub_cancel, Nat.not_lt_zero, ↓m1_mI, nI_add, pk_mul, nx_and, nx_or, and31, sh_r, sh_1, nx_nand, Nat.and_one_is_mod, nI_clamp, nI_leI, nI_ltI, nI_eq, tb_1, vp_t, up2_a, up2_b, up2_c, br_1, br_0, true_and, and_true, mI_ne, mI_ne', mI_lt, mI_le, mI_nle, mI_nlt, pk_sub, mI_sub, tkc h 60, tkc h 62, tkc h 61, tkc h 35, e4, e5]
  refine ⟨fun q => ⟨_, rfl, ?_⟩, fun q1 => ⟨fun q => ⟨_, rfl, ?_⟩, fun q2 => ⟨fun q => ⟨_, rfl, ?_⟩, fun q3 => ⟨fun q => ⟨_, rfl, ?_⟩, fun q4 => ⟨fun q => ⟨_, rfl, ?_⟩, fun q5 => ⟨fun q => ⟨_, rfl, ?_⟩, fun q6 => ⟨_, rfl, h0 (by omega)⟩⟩⟩⟩⟩⟩⟩
  all_goals
    have := h1 (by omega)
    rw [q] at this
    exact this
theorem q_isW {X v : Nat} (hX : 1 ≤ X) (hX2 : X ≤ 18) (h14 : X ≠ 14) (hw : wcode X = v) (h : RK bt tn m t0 k L op μ) (h1 : kT bt tn k = X → Ψ 1 μ) (h0 : ¬ kT bt tn k = X → Ψ 0 μ) : VI N 1 mX12_isWord [.ref 130, .long (lI v), .null] μ Ψ := by
  rw [← hw]
  exact r_isWord h.1.2.2.2 hX hX2 h14 h.2.1 h1 h0
theorem q_isB {X v : Nat} (hX : 1 ≤ X) (hX2 : X ≤ 18) (h14 : X ≠ 14) (hw : wcode X = v) (h : RK bt tn m t0 k L op μ) (h1 : kT bt tn k = X → C 1 μ) (h0 : ¬ kT bt tn k = X → A 0 μ) : VI N 1 mX12_isWord [.ref 130, .long (lI v), .null] μ (fun v μ1 => br (v = 0) (A v μ1) (C v μ1)) :=
  vi_b (fun Ψ => q_isW hX hX2 h14 hw h) h1 h0
/-- a word of two letters -/
theorem q_w2 {X v : Nat} {P Q R : Prop} (hX : 1 ≤ X) (hX2 : X ≤ 18) (h14 : X ≠ 14) (hw : wcode X = v) (h : RK bt tn m t0 k L op μ) (h1 : kT bt tn k = X → P) (h0 : ¬ kT bt tn k = X → Q) (h00 : ¬ kT bt tn k = X → R) : br (μ.1 130 9 = 2) (br (lg_cmp (μ.2 130 11) (lI v) = 0) P Q) R := by
  have ⟨t1, t2⟩ := rk_tok h
  have hw2 : (rTok bt tn (tS bt tn k) = 2 ∧ μ.2 130 11 = lI (wcode X)) ↔ kT bt tn k = X := tok_w h.1.2.2.2 hX hX2 h14 h.2.1
  rw [hw] at hw2
  rw [t1]
  simp (disch := omega) only [lit, Nat.add_sub_cancel, Nat.not_lt_zero, ↓m1_mI, nI_add, pk_mul, nx_and, nx_or, and31, sh_r, sh_1, nx_nand, Nat.and_one_is_mod, nI_clamp, nI_leI, nI_ltI, nI_eq, tb_1, vp_t, up2_a, up2_b, up2_c, br_1, br_0, true_and, and_true, mI_ne, mI_ne', mI_lt, mI_le, mI_nle, mI_nlt, pk_sub, mI_sub]
  refine ⟨fun q => ⟨fun q2 => h1 (hw2.mp ⟨q, (lg_cmp_eq _ _).mp q2⟩), fun q2 => h0 (fun g => q2 ((lg_cmp_eq _ _).mpr (hw2.mpr g).2))⟩, fun q => h00 (fun g => q (hw2.mpr g).1)⟩
end
def nts (n : Nat) : Cd := List.replicate n (20, 0)
theorem nts_s (n : Nat) : nts (n + 1) = (20, 0) :: nts n := rfl
theorem r_105 {k : Nat} {Ψ : Int32 → Me → Prop} {d : Nat} (hd : d ≤ 8) : ∀ n x (L : Cd) (μ : Me), x + n = d → RK bt tn m t0 k L 0 μ → L.length + n ≤ 300 → (∀ μ', RFr t0 μ.1 μ'.1 → RK bt tn m t0 k (L ++ nts n) 0 μ' → Ψ 0 μ') → VB N 6 mX12_asks 105 [.ref 130, .int (nI d), .null, .null, .int (nI x)] [] μ (fun r μ' => ∃ v, r = some (.int v) ∧ Ψ v μ') := by
  intro n
  induction n with
  | zero =>
    intro x L μ hx h hl K
    refine tX12_asks_105 ?_
    simp (disch := omega) only [lit, Nat.add_sub_cancel, Nat.not_lt_zero, ↓m1_mI, nI_add, pk_mul, nx_and, nx_or, and31, sh_r, sh_1, nx_nand, Nat.and_one_is_mod, nI_clamp, nI_leI, nI_ltI, nI_eq, tb_1, vp_t, up2_a, up2_b, up2_c, br_1, br_0, true_and, and_true, mI_ne, mI_ne', mI_lt, mI_le, mI_nle, mI_nlt, pk_sub, mI_sub, eq_true (show d ≤ x by omega)]
    exact ⟨_, rfl, K μ RFr.rf (by rw [show L ++ nts 0 = L from List.append_nil L]; exact h)⟩
  | succ n ih =>
    intro x L μ hx h hl K
    refine tX12_asks_105 ?_
    simp (disch := omega) only [lit, Nat.add_sub_cancel, Nat.not_lt_zero, ↓m1_mI, nI_add, pk_mul, nx_and, nx_or, and31, sh_r, sh_1, nx_nand, Nat.and_one_is_mod, nI_clamp, nI_leI, nI_ltI, nI_eq, tb_1, vp_t, up2_a, up2_b, up2_c, br_1, br_0, true_and, and_true, mI_ne, mI_ne', mI_lt, mI_le, mI_nle, mI_nlt, pk_sub, mI_sub, eq_false (show ¬ d ≤ x by omega)]
    refine r_emit (o := 20) (v := 0) h (by omega) (by decide) (by decide) (fun I' q1 q2 _ _ => ?_)
    refine ih (x + 1) _ (I', μ.2) (by omega) q2 (by rw [List.length_append]; show L.length + 1 + n ≤ 300; omega) (fun μ' q3 q4 => K μ' (q1.tr q3) ?_)
    rw [List.append_assoc] at q4
    exact q4
theorem SO.fr {I I' : Nat → Nat → Int32} (h : SO fee I) (fr : RFr t0 I I') : SO fee I' := by
  unfold SO at *
  rw [fr.2.1 20 (by omega)]
  exact h
/-- what is behind the nots -/
theorem r_cmp {k d f k1 e : Nat} {c L : Cd} {μ : Me} {Ψ : Int32 → Me → Prop} (hr : Rcm (kT bt tn) (kV bt tn) fee d k f k1 c) (hn : kT bt tn k ≠ 11) (hso : SO fee μ.1) (h : RK bt tn m t0 k L d μ) (hd : d ≤ 8) (hl : L.length + d + e ≤ k) (K : f = 0 → ∀ μ', RFr t0 μ.1 μ'.1 → RK bt tn m t0 k1 (L ++ c ++ nts d) 0 μ' → (L ++ c ++ nts d).length + e ≤ k1 → Ψ 0 μ') (K2 : f ≠ 0 → ∀ μ', RFr t0 μ.1 μ'.1 → RB bt tn k1 μ' → Ψ (nI f) μ') : VB N 6 mX12_asks 2 [.ref 130, .int (nI d)] [] μ (fun r μ' => ∃ v, r = some (.int v) ∧ Ψ v μ') := by
  refine tX12_asks_2 (j_w3 (a := 110) (b := 111) (c := 116) (by decide) (by decide) (by decide) (q_isB (X := 11) (by decide) (by decide) (by decide) (by decide) h (fun g => absurd g hn) (fun _ => ?_)))
  rcases hr with ⟨c1, hr1, hf⟩ | ⟨c1, hr1, hc, hf⟩ | ⟨k2, c1, c2, hr1, hc, hr2, hcc⟩
  · have hf6 := hr1.len.1
    refine r_sum (e := d + e) hr1 hso h hd (by omega) (fun g => absurd g hf) (fun _ μ1 q1 q2 => ?_)
    simp (disch := omega) only [lit, Nat.add_sub_cancel, Nat.not_lt_zero, ↓m1_mI, nI_add, pk_mul, nx_and, nx_or, and31, sh_r, sh_1, nx_nand, Nat.and_one_is_mod, nI_clamp, nI_leI, nI_ltI, nI_eq, tb_1, vp_t, up2_a, up2_b, up2_c, br_1, br_0, true_and, and_true, mI_ne, mI_ne', mI_lt, mI_le, mI_nle, mI_nlt, pk_sub, mI_sub, eq_false hf]
    exact ⟨_, rfl, K2 hf μ1 q1 q2⟩
  · subst hf
    refine r_sum (e := d + e) hr1 hso h hd (by omega) (fun _ μ1 q1 q2 hb => ⟨fun _ => ?_, fun g => absurd rfl g⟩) (fun g => absurd rfl g)
    refine r_comp q2 (fun g => absurd g hc) (fun _ => ?_)
    simp (disch := omega) only [lit, Nat.add_sub_cancel, Nat.not_lt_zero, ↓m1_mI, nI_add, pk_mul, nx_and, nx_or, and31, sh_r, sh_1, nx_nand, Nat.and_one_is_mod, nI_clamp, nI_leI, nI_ltI, nI_eq, tb_1, vp_t, up2_a, up2_b, up2_c, br_1, br_0, true_and, and_true, mI_ne, mI_ne', mI_lt, mI_le, mI_nle, mI_nlt, pk_sub, mI_sub]
    exact ⟨_, rfl, K2 (by decide) μ1 q1 q2.rb⟩
  · refine r_sum (e := d + e) hr1 hso h hd (by omega) (fun _ μ1 q1 q2 hb => ⟨fun _ => ?_, fun g => absurd rfl g⟩) (fun g => absurd rfl g)
    have hcb := cop_b (kT bt tn k2)
    refine r_comp q2 (fun _ => ?_) (fun g => absurd hc g)
    have hk2 : kT bt tn k2 ≠ 21 := by unfold isC at hc; omega
    simp (disch := omega) only [lit, Nat.add_sub_cancel, Nat.not_lt_zero, ↓m1_mI, nI_add, pk_mul, nx_and, nx_or, and31, sh_r, sh_1, nx_nand, Nat.and_one_is_mod, nI_clamp, nI_leI, nI_ltI, nI_eq, tb_1, vp_t, up2_a, up2_b, up2_c, br_1, br_0, true_and, and_true, mI_ne, mI_ne', mI_lt, mI_le, mI_nle, mI_nlt, pk_sub, mI_sub, eq_true (Nat.zero_le (cop (kT bt tn k2)))]
    refine r_nxt q2 hk2 (fun μ2 q3 q4 => ?_)
    have fr2 : RFr t0 μ.1 μ2.1 := q1.tr (RFr.nx q3)
    have hf6 := hr2.len.1
    refine r_sum (e := d + e + 1) hr2 (hso.fr fr2) q4 hd (by omega) (fun ef μ3 q5 q6 hb2 => ⟨fun _ => ?_, fun g => absurd rfl g⟩) (fun ef μ3 q5 q6 => ?_)
    · have hm := q6.2.2.1
      refine r_emit (v := 0) q6 (by omega) (by omega) (by decide) (fun I' q7 q8 _ _ => ?_)
      have h18 : I' 130 18 = nI d := q8.2.2.2.2.1
      have e0 : nI d - nI d = nI 0 := by rw [sub_nI (Nat.le_refl d), Nat.sub_self]
      rw [show ((I', μ3.2) : Me).1 130 18 = nI d from h18, e0]
      have h9 := q8.op (op' := 0)
      have el : L ++ c1 ++ c2 ++ [(cop (kT bt tn k2), 0)] = L ++ c := by rw [hcc, ← List.append_assoc, ← List.append_assoc]
      rw [el] at h9
      have hlen : (L ++ c).length = (L ++ c1 ++ c2).length + 1 := by rw [← el, List.length_append]; rfl
      refine r_105 hd d 0 (L ++ c) _ (by omega) h9 (by omega) (fun μ' q9 q10 => K ef μ' ?_ q10 ?_)
      · exact (((fr2.tr q5).tr q7).tr (RFr.f (Or.inr (Or.inr (Or.inl rfl))))).tr q9
      · rw [List.length_append]
        unfold nts
        rw [List.length_replicate]
        omega
    · simp (disch := omega) only [lit, Nat.add_sub_cancel, Nat.not_lt_zero, ↓m1_mI, nI_add, pk_mul, nx_and, nx_or, and31, sh_r, sh_1, nx_nand, Nat.and_one_is_mod, nI_clamp, nI_leI, nI_ltI, nI_eq, tb_1, vp_t, up2_a, up2_b, up2_c, br_1, br_0, true_and, and_true, mI_ne, mI_ne', mI_lt, mI_le, mI_nle, mI_nlt, pk_sub, mI_sub, eq_false ef]
      exact ⟨_, rfl, K2 ef μ3 (fr2.tr q5) q6⟩
theorem r_asksL {e f k1 : Nat} {Ψ : Int32 → Me → Prop} : ∀ j d k (c L : Cd) (μ : Me), Ra (kT bt tn) (kV bt tn) fee j d k f k1 c → SO fee μ.1 → RK bt tn m t0 k L d μ → d + j = 8 → L.length + d + e ≤ k → (f = 0 → ∀ μ', RFr t0 μ.1 μ'.1 → RK bt tn m t0 k1 (L ++ c ++ nts d) 0 μ' → (L ++ c ++ nts d).length + e ≤ k1 → Ψ 0 μ') → (f ≠ 0 → ∀ μ', RFr t0 μ.1 μ'.1 → RB bt tn k1 μ' → Ψ (nI f) μ') → VB N 6 mX12_asks 2 [.ref 130, .int (nI d)] [] μ (fun r μ' => ∃ v, r = some (.int v) ∧ Ψ v μ') := by
  intro j
  induction j with
  | zero =>
    intro d k c L μ hr hso h hd hl K K2
    rcases hr with ⟨h1, h2, h3⟩ | ⟨h1, h2⟩
    · subst h2 h3
      have h18 : μ.1 130 18 = nI d := h.2.2.2.2.1
      refine tX12_asks_2 (j_w3 (a := 110) (b := 111) (c := 116) (by decide) (by decide) (by decide) (q_isB (X := 11) (by decide) (by decide) (by decide) (by decide) h (fun _ => ?_) (fun g => absurd h1 g)))
      rw [h18]
      simp (disch := omega) only [lit, Nat.add_sub_cancel, Nat.not_lt_zero, ↓m1_mI, nI_add, pk_mul, nx_and, nx_or, and31, sh_r, sh_1, nx_nand, Nat.and_one_is_mod, nI_clamp, nI_leI, nI_ltI, nI_eq, tb_1, vp_t, up2_a, up2_b, up2_c, br_1, br_0, true_and, and_true, mI_ne, mI_ne', mI_lt, mI_le, mI_nle, mI_nlt, pk_sub, mI_sub, eq_true (show d = 8 by omega)]
      exact ⟨_, rfl, K2 (by decide) μ RFr.rf h.rb⟩
    · exact r_cmp h2 h1 hso h (by omega) hl K K2
  | succ j ih =>
    intro d k c L μ hr hso h hd hl K K2
    rcases hr with ⟨h1, c1, h2, h3⟩ | ⟨h1, h2⟩
    · have h18 : μ.1 130 18 = nI d := h.2.2.2.2.1
      refine tX12_asks_2 (j_w3 (a := 110) (b := 111) (c := 116) (by decide) (by decide) (by decide) (q_isB (X := 11) (by decide) (by decide) (by decide) (by decide) h (fun _ => ?_) (fun g => absurd h1 g)))
      rw [h18]
      simp (disch := omega) only [lit, Nat.add_sub_cancel, Nat.not_lt_zero, ↓m1_mI, nI_add, pk_mul, nx_and, nx_or, and31, sh_r, sh_1, nx_nand, Nat.and_one_is_mod, nI_clamp, nI_leI, nI_ltI, nI_eq, tb_1, vp_t, up2_a, up2_b, up2_c, br_1, br_0, true_and, and_true, mI_ne, mI_ne', mI_lt, mI_le, mI_nle, mI_nlt, pk_sub, mI_sub, eq_false (show ¬ d = 8 by omega)]
      refine r_nxt (h.op (op' := d + 1)) (by omega) (fun μ1 q1 q2 => ?_)
      have fr1 : RFr t0 μ.1 μ1.1 := (RFr.f (Or.inr (Or.inr (Or.inl rfl)))).tr (RFr.nx q1)
      have el : L ++ c1 ++ nts (d + 1) = L ++ c ++ nts d := by rw [h3, nts_s, ← List.append_assoc L c1, List.append_assoc (L ++ c1)]; rfl
      refine ih (d + 1) (k + 1) c1 L μ1 h2 (hso.fr fr1) q2 (by omega) (by omega) (fun ef μ' q3 q4 hb => ?_) (fun ef μ' q3 q4 => K2 ef μ' (fr1.tr q3) q4)
      rw [el] at q4 hb
      exact K ef μ' (fr1.tr q3) q4 hb
    · exact r_cmp h2 h1 hso h (by omega) hl K K2
theorem r_asks {k f k1 e : Nat} {c L : Cd} {μ : Me} {Ψ : Int32 → Me → Prop} (hr : Ra (kT bt tn) (kV bt tn) fee 8 0 k f k1 c) (hso : SO fee μ.1) (h : RK bt tn m t0 k L 0 μ) (hl : L.length + e ≤ k) (K : f = 0 → ∀ μ', RFr t0 μ.1 μ'.1 → RK bt tn m t0 k1 (L ++ c) 0 μ' → (L ++ c).length + e ≤ k1 → Ψ 0 μ') (K2 : f ≠ 0 → ∀ μ', RFr t0 μ.1 μ'.1 → RB bt tn k1 μ' → Ψ (nI f) μ') : VI N 6 mX12_asks [.ref 130] μ Ψ := by
  have e0 : L ++ c ++ nts 0 = L ++ c := List.append_nil _
  refine tX12_asks_0 (r_asksL 8 0 k c L μ hr hso h rfl hl (fun ef μ' q1 q2 hb => ?_) K2)
  rw [e0] at q2 hb
  exact K ef μ' q1 q2 hb
/-- either's loop -/
def ME (N : Nat) (bt : Nat → Nat) (tn m t0 : Nat) (I0 : Nat → Nat → Int32) (Ψ : Int32 → Me → Prop) (q a o k f k1 : Nat) (c : Cd) : Prop :=
  ∀ (L : Cd) (e : Nat), a ≤ 1 → o ≤ 1 → L.length + (if q = 0 then ok1 a else 0) + ok1 o + e ≤ k → (f = 0 → ∀ μ', RFr t0 I0 μ'.1 → RK bt tn m t0 k1 (L ++ c) 0 μ' → (L ++ c).length + e ≤ k1 → Ψ 0 μ') → (f ≠ 0 → ∀ μ', RFr t0 I0 μ'.1 → RB bt tn k1 μ' → Ψ (nI f) μ') → ∀ μ : Me, RFr t0 I0 μ.1 → RK bt tn m t0 k L 0 μ →
    (q = 0 → VB N 7 mX12_either 6 [.ref 130, .int (nI a), .int (nI o), .int (nI 1)] [] μ (fun r μ' => ∃ v, r = some (.int v) ∧ Ψ v μ')) ∧
    (q = 1 → VB N 7 mX12_either 35 [.ref 130, .null, .int (nI o)] [] μ (fun r μ' => ∃ v, r = some (.int v) ∧ Ψ v μ'))
section
variable {I0 : Nat → Nat → Int32} {Ψ : Int32 → Me → Prop}
/-- the words behind -/
theorem e_35 {k o : Nat} {L : Cd} {μ : Me} (h : RK bt tn m t0 k L 0 μ) (K : ∀ a s : Nat, (a = 1 ∧ s = 0 ∧ kT bt tn k = 10) ∨ (a = 0 ∧ s = 1 ∧ kT bt tn k = 9) ∨ (a = 0 ∧ s = 0 ∧ kT bt tn k ≠ 10 ∧ kT bt tn k ≠ 9) → VB N 7 mX12_either 73 [.ref 130, .int (nI a), .int (nI o)] [.int (nI s)] μ (fun r μ' => ∃ v, r = some (.int v) ∧ Ψ v μ')) : VB N 7 mX12_either 35 [.ref 130, .null, .int (nI o)] [] μ (fun r μ' => ∃ v, r = some (.int v) ∧ Ψ v μ') := by
  refine tX12_either_35 (j_w3 (a := 97) (b := 110) (c := 100) (by decide) (by decide) (by decide) (q_isW (X := 10) (by decide) (by decide) (by decide) (by decide) h (fun g => ?_) (fun g => ?_)))
  · refine q_w2 (X := 9) (v := 28530) (by decide) (by decide) (by decide) (by decide) h (fun g2 => absurd g2 (by omega)) (fun g2 => tX12_either_72 ?_) (fun g2 => tX12_either_72 ?_)
    · exact K 1 0 (Or.inl ⟨rfl, rfl, g⟩)
    · exact K 1 0 (Or.inl ⟨rfl, rfl, g⟩)
  · refine q_w2 (X := 9) (v := 28530) (by decide) (by decide) (by decide) (by decide) h (fun g2 => ?_) (fun g2 => tX12_either_72 ?_) (fun g2 => tX12_either_72 ?_)
    · exact K 0 1 (Or.inr (Or.inl ⟨rfl, rfl, g2⟩))
    · exact K 0 0 (Or.inr (Or.inr ⟨rfl, rfl, g, g2⟩))
    · exact K 0 0 (Or.inr (Or.inr ⟨rfl, rfl, g, g2⟩))
theorem me (hso : SO fee I0) {q a o k f k1 : Nat} {c : Cd} (hr : Re (kT bt tn) (kV bt tn) fee q a o k f k1 c) : ME N bt tn m t0 I0 Ψ q a o k f k1 c := by
  refine hr (ME N bt tn m t0 I0 Ψ) ⟨?_, ?_, ?_, ?_, ?_⟩
  · intro a o k f k1 c h1 hf L e ha ho hl K K2 μ fr h
    refine ⟨fun _ => tX12_either_6 ?_, fun g => absurd g (by decide)⟩
    have hf6 := h1.len.1
    simp (disch := omega) only [lit, Nat.add_sub_cancel, Nat.not_lt_zero, ↓m1_mI, nI_add, pk_mul, nx_and, nx_or, and31, sh_r, sh_1, nx_nand, Nat.and_one_is_mod, nI_clamp, nI_leI, nI_ltI, nI_eq, tb_1, vp_t, up2_a, up2_b, up2_c, br_1, br_0, true_and, and_true, mI_ne, mI_ne', mI_lt, mI_le, mI_nle, mI_nlt, pk_sub, mI_sub, eq_false (show ¬ (1 : Nat) = 0 by decide)]
    refine r_asks (e := 0) h1 (hso.fr fr) h (by omega) (fun g => absurd g hf) (fun _ μ1 q1 q2 => ?_)
    simp (disch := omega) only [lit, Nat.add_sub_cancel, Nat.not_lt_zero, ↓m1_mI, nI_add, pk_mul, nx_and, nx_or, and31, sh_r, sh_1, nx_nand, Nat.and_one_is_mod, nI_clamp, nI_leI, nI_ltI, nI_eq, tb_1, vp_t, up2_a, up2_b, up2_c, br_1, br_0, true_and, and_true, mI_ne, mI_ne', mI_lt, mI_le, mI_nle, mI_nlt, pk_sub, mI_sub, eq_false hf]
    exact ⟨_, rfl, K2 hf μ1 (fr.tr q1) q2⟩
  · intro a o k k1 c f k2 c2 h1 ih L e ha ho hl K K2 μ fr h
    refine ⟨fun _ => tX12_either_6 ?_, fun g => absurd g (by decide)⟩
    rw [if_pos rfl] at hl
    simp (disch := omega) only [lit, Nat.add_sub_cancel, Nat.not_lt_zero, ↓m1_mI, nI_add, pk_mul, nx_and, nx_or, and31, sh_r, sh_1, nx_nand, Nat.and_one_is_mod, nI_clamp, nI_leI, nI_ltI, nI_eq, tb_1, vp_t, up2_a, up2_b, up2_c, br_1, br_0, true_and, and_true, mI_ne, mI_ne', mI_lt, mI_le, mI_nle, mI_nlt, pk_sub, mI_sub, eq_false (show ¬ (1 : Nat) = 0 by decide)]
    refine r_asks (e := ok1 a + ok1 o + e) h1 (hso.fr fr) h (by omega) (fun _ μ1 q1 q2 hb => ⟨fun _ => ?_, fun g => absurd rfl g⟩) (fun g => absurd rfl g)
    have go : ∀ μ2 : Me, RFr t0 I0 μ2.1 → RK bt tn m t0 k1 (L ++ c ++ pb a 21) 0 μ2 → VB N 7 mX12_either 35 [.ref 130, .null, .int (nI o)] [] μ2 (fun r μ' => ∃ v, r = some (.int v) ∧ Ψ v μ') := by
      intro μ2 fr2 h2
      have el : L ++ c ++ pb a 21 ++ c2 = L ++ (c ++ pb a 21 ++ c2) := by simp only [List.append_assoc]
      refine (ih (L ++ c ++ pb a 21) e (by decide) ho ?_ (fun ef μ' q3 q4 hb2 => ?_) K2 μ2 fr2 h2).2 rfl
      · rw [if_neg (by decide), List.length_append, pb_l]; omega
      · rw [el] at q4 hb2
        exact K ef μ' q3 q4 hb2
    refine ⟨fun g => go μ1 (fr.tr q1) ?_, fun g => ?_⟩
    · rw [g, show pb 0 21 = [] from rfl, List.append_nil]; exact q2
    · have hm := q2.2.2.1
      have hz : ok1 a = 1 := if_neg g
      refine r_emit (o := 21) (v := 0) q2 (by omega) (by decide) (by decide) (fun I' q3 q4 _ _ => go (I', μ1.2) ((fr.tr q1).tr q3) ?_)
      have : pb a 21 = [(21, 0)] := if_neg g
      rw [this]
      exact q4
  · intro o k f k1 c h1 ih L e ha ho hl K K2 μ fr h
    refine ⟨fun g => absurd g (by decide), fun _ => e_35 h (fun a s hh => ?_)⟩
    rw [if_neg (by decide)] at hl
    obtain ⟨ea, es⟩ : a = 1 ∧ s = 0 := by omega
    subst ea es
    refine tX12_either_73 ?_
    simp (disch := omega) only [lit, Nat.add_sub_cancel, Nat.not_lt_zero, ↓m1_mI, nI_add, pk_mul, nx_and, nx_or, and31, sh_r, sh_1, nx_nand, Nat.and_one_is_mod, nI_clamp, nI_leI, nI_ltI, nI_eq, tb_1, vp_t, up2_a, up2_b, up2_c, br_1, br_0, true_and, and_true, mI_ne, mI_ne', mI_lt, mI_le, mI_nle, mI_nlt, pk_sub, mI_sub, eq_false (show ¬ (1 : Nat) = 0 by decide)]
    refine tX12_either_93 ?_
    simp (disch := omega) only [lit, Nat.add_sub_cancel, Nat.not_lt_zero, ↓m1_mI, nI_add, pk_mul, nx_and, nx_or, and31, sh_r, sh_1, nx_nand, Nat.and_one_is_mod, nI_clamp, nI_leI, nI_ltI, nI_eq, tb_1, vp_t, up2_a, up2_b, up2_c, br_1, br_0, true_and, and_true, mI_ne, mI_ne', mI_lt, mI_le, mI_nle, mI_nlt, pk_sub, mI_sub, eq_false (show ¬ (1 : Nat) = 0 by decide)]
    refine tX12_either_102 (tX12_either_107 ?_)
    simp (disch := omega) only [lit, Nat.add_sub_cancel, Nat.not_lt_zero, ↓m1_mI, nI_add, pk_mul, nx_and, nx_or, and31, sh_r, sh_1, nx_nand, Nat.and_one_is_mod, nI_clamp, nI_leI, nI_ltI, nI_eq, tb_1, vp_t, up2_a, up2_b, up2_c, br_1, br_0, true_and, and_true, mI_ne, mI_ne', mI_lt, mI_le, mI_nle, mI_nlt, pk_sub, mI_sub, eq_false (show ¬ (1 : Nat) = 0 by decide)]
    refine r_nxt h (by omega) (fun μ1 q1 q2 => ?_)
    exact (ih L e (by decide) ho (by rw [if_pos rfl]; have : ok1 1 = 1 := rfl; omega) K K2 μ1 (fr.tr (RFr.nx q1)) q2).1 rfl
  · intro o k f k1 c h1 ih L e ha ho hl K K2 μ fr h
    refine ⟨fun g => absurd g (by decide), fun _ => e_35 h (fun a s hh => ?_)⟩
    rw [if_neg (by decide)] at hl
    obtain ⟨ea, es⟩ : a = 0 ∧ s = 1 := by omega
    subst ea es
    have hlt := rk_lt h (by omega)
    have hm := h.2.2.1
    have go : ∀ μ2 : Me, RFr t0 I0 μ2.1 → RK bt tn m t0 k (L ++ pb o 22) 0 μ2 → VB N 7 mX12_either 90 [.ref 130, .int (nI 0), .null, .null, .null, .int (nI 1)] [] μ2 (fun r μ' => ∃ v, r = some (.int v) ∧ Ψ v μ') := by
      intro μ2 fr2 h2
      refine tX12_either_90 (tX12_either_93 ?_)
      simp (disch := omega) only [lit, Nat.add_sub_cancel, Nat.not_lt_zero, ↓m1_mI, nI_add, pk_mul, nx_and, nx_or, and31, sh_r, sh_1, nx_nand, Nat.and_one_is_mod, nI_clamp, nI_leI, nI_ltI, nI_eq, tb_1, vp_t, up2_a, up2_b, up2_c, br_1, br_0, true_and, and_true, mI_ne, mI_ne', mI_lt, mI_le, mI_nle, mI_nlt, pk_sub, mI_sub, eq_false (show ¬ (1 : Nat) = 0 by decide), eq_true (show (0 : Nat) = 0 from rfl)]
      refine tX12_either_102 (tX12_either_107 ?_)
      simp (disch := omega) only [lit, Nat.add_sub_cancel, Nat.not_lt_zero, ↓m1_mI, nI_add, pk_mul, nx_and, nx_or, and31, sh_r, sh_1, nx_nand, Nat.and_one_is_mod, nI_clamp, nI_leI, nI_ltI, nI_eq, tb_1, vp_t, up2_a, up2_b, up2_c, br_1, br_0, true_and, and_true, mI_ne, mI_ne', mI_lt, mI_le, mI_nle, mI_nlt, pk_sub, mI_sub, eq_false (show ¬ (1 : Nat) = 0 by decide)]
      refine r_nxt h2 (by omega) (fun μ1 q1 q2 => ?_)
      have el : L ++ pb o 22 ++ c = L ++ (pb o 22 ++ c) := List.append_assoc _ _ _
      refine (ih (L ++ pb o 22) e (by decide) (by decide) (by rw [if_pos rfl, List.length_append, pb_l]; have : ok1 1 = 1 := rfl; have : ok1 0 = 0 := rfl; omega) (fun ef μ' q3 q4 hb => ?_) K2 μ1 (fr2.tr (RFr.nx q1)) q2).1 rfl
      rw [el] at q4 hb
      exact K ef μ' q3 q4 hb
    refine tX12_either_73 ?_
    simp (disch := omega) only [lit, Nat.add_sub_cancel, Nat.not_lt_zero, ↓m1_mI, nI_add, pk_mul, nx_and, nx_or, and31, sh_r, sh_1, nx_nand, Nat.and_one_is_mod, nI_clamp, nI_leI, nI_ltI, nI_eq, tb_1, vp_t, up2_a, up2_b, up2_c, br_1, br_0, true_and, and_true, mI_ne, mI_ne', mI_lt, mI_le, mI_nle, mI_nlt, pk_sub, mI_sub, eq_true (show (0 : Nat) = 0 from rfl)]
    refine ⟨fun g => go μ fr ?_, fun g => ?_⟩
    · rw [g, show pb 0 22 = [] from rfl, List.append_nil]; exact h
    · refine r_emit (o := 22) (v := 0) h (by omega) (by decide) (by decide) (fun I' q3 q4 _ _ => go (I', μ.2) (fr.tr q3) ?_)
      have : pb o 22 = [(22, 0)] := if_neg g
      rw [this]
      exact q4
  · intro o k h1 h2 L e ha ho hl K K2 μ fr h
    refine ⟨fun g => absurd g (by decide), fun _ => e_35 h (fun a s hh => ?_)⟩
    rw [if_neg (by decide)] at hl
    obtain ⟨ea, es⟩ : a = 0 ∧ s = 0 := by omega
    subst ea es
    have hm := h.2.2.1
    have go : ∀ μ2 : Me, RFr t0 I0 μ2.1 → RK bt tn m t0 k (L ++ pb o 22) 0 μ2 → VB N 7 mX12_either 90 [.ref 130, .int (nI 0), .null, .null, .null, .int (nI 0)] [] μ2 (fun r μ' => ∃ v, r = some (.int v) ∧ Ψ v μ') := by
      intro μ2 fr2 h2
      refine tX12_either_90 (tX12_either_93 ?_)
      simp (disch := omega) only [lit, Nat.add_sub_cancel, Nat.not_lt_zero, ↓m1_mI, nI_add, pk_mul, nx_and, nx_or, and31, sh_r, sh_1, nx_nand, Nat.and_one_is_mod, nI_clamp, nI_leI, nI_ltI, nI_eq, tb_1, vp_t, up2_a, up2_b, up2_c, br_1, br_0, true_and, and_true, mI_ne, mI_ne', mI_lt, mI_le, mI_nle, mI_nlt, pk_sub, mI_sub, eq_true (show (0 : Nat) = 0 from rfl)]
      refine tX12_either_107 ?_
      simp (disch := omega) only [lit, Nat.add_sub_cancel, Nat.not_lt_zero, ↓m1_mI, nI_add, pk_mul, nx_and, nx_or, and31, sh_r, sh_1, nx_nand, Nat.and_one_is_mod, nI_clamp, nI_leI, nI_ltI, nI_eq, tb_1, vp_t, up2_a, up2_b, up2_c, br_1, br_0, true_and, and_true, mI_ne, mI_ne', mI_lt, mI_le, mI_nle, mI_nlt, pk_sub, mI_sub, eq_true (show (0 : Nat) = 0 from rfl)]
      refine tX12_either_6 ?_
      simp (disch := omega) only [lit, Nat.add_sub_cancel, Nat.not_lt_zero, ↓m1_mI, nI_add, pk_mul, nx_and, nx_or, and31, sh_r, sh_1, nx_nand, Nat.and_one_is_mod, nI_clamp, nI_leI, nI_ltI, nI_eq, tb_1, vp_t, up2_a, up2_b, up2_c, br_1, br_0, true_and, and_true, mI_ne, mI_ne', mI_lt, mI_le, mI_nle, mI_nlt, pk_sub, mI_sub, eq_true (show (0 : Nat) = 0 from rfl)]
      exact ⟨_, rfl, K rfl μ2 fr2 h2 (by rw [List.length_append, pb_l]; omega)⟩
    refine tX12_either_73 ?_
    simp (disch := omega) only [lit, Nat.add_sub_cancel, Nat.not_lt_zero, ↓m1_mI, nI_add, pk_mul, nx_and, nx_or, and31, sh_r, sh_1, nx_nand, Nat.and_one_is_mod, nI_clamp, nI_leI, nI_ltI, nI_eq, tb_1, vp_t, up2_a, up2_b, up2_c, br_1, br_0, true_and, and_true, mI_ne, mI_ne', mI_lt, mI_le, mI_nle, mI_nlt, pk_sub, mI_sub, eq_true (show (0 : Nat) = 0 from rfl)]
    refine ⟨fun g => go μ fr ?_, fun g => ?_⟩
    · rw [g, show pb 0 22 = [] from rfl, List.append_nil]; exact h
    · have hz : ok1 o = 1 := if_neg g
      refine r_emit (o := 22) (v := 0) h (by omega) (by decide) (by decide) (fun I' q3 q4 _ _ => go (I', μ.2) (fr.tr q3) ?_)
      have : pb o 22 = [(22, 0)] := if_neg g
      rw [this]
      exact q4
end
theorem r_eith {k f k1 e : Nat} {c L : Cd} {μ : Me} {Ψ : Int32 → Me → Prop} (hr : Re (kT bt tn) (kV bt tn) fee 0 0 0 k f k1 c) (hso : SO fee μ.1) (h : RK bt tn m t0 k L 0 μ) (hl : L.length + e ≤ k) (K : f = 0 → ∀ μ', RFr t0 μ.1 μ'.1 → RK bt tn m t0 k1 (L ++ c) 0 μ' → (L ++ c).length + e ≤ k1 → Ψ 0 μ') (K2 : f ≠ 0 → ∀ μ', RFr t0 μ.1 μ'.1 → RB bt tn k1 μ' → Ψ (nI f) μ') : VI N 7 mX12_either [.ref 130] μ Ψ :=
  tX12_either_0 ((me (N := N) (m := m) (t0 := t0) (I0 := μ.1) (Ψ := Ψ) hso hr L e (by decide) (by decide) (by show L.length + 0 + 0 + e ≤ k; omega) K K2 μ RFr.rf h).1 rfl)
end RX
