/-! calls that change a court by little: witness, verdict, hour, strike, by, tell, rise -/
section SC
variable {N : Nat} {μ : Me} {B B' R T tp : Nat → Nat} {tn : Nat} {ft fp : Int32} {I : Nat → Nat → Int32} {Ψ : Int32 → Me → Prop}
theorem cHd_ub {r : Nat → Int32} {k v : Nat} (h : cHd B r) (hk : k ≠ 2 ∧ k ≠ 3 ∧ k ≠ 4) : cHd (ub B k v) r := by
  unfold cHd at *
  rw [ub_n (Ne.symm hk.1), ub_n (Ne.symm hk.2.1), ub_n (Ne.symm hk.2.2)]
  exact h
theorem cRow_ub {r r1 r2 r3 : Nat → Int32} {n s k v : Nat} (h : cRow B n s r r1 r2 r3) (hn : n ≠ k) (hk : ∀ i, i < B n → s + 3 * i ≠ k ∧ s + 3 * i + 1 ≠ k ∧ s + 3 * i + 2 ≠ k) : cRow (ub B k v) n s r r1 r2 r3 := by
  unfold cRow at *
  rw [ub_n hn]
  refine ⟨h.1, fun i hi => ?_⟩
  rw [ub_n (hk i hi).1, ub_n (hk i hi).2.1, ub_n (hk i hi).2.2]
  exact h.2 i hi
theorem sb_ub {k v : Nat} (hn : 0 ≠ k) (hk : ∀ i, i < B 0 → 10 + 5 * i + 4 ≠ k) : sb (ub B k v) = sb B := by
  unfold sb
  rw [ub_n hn]
  apply bits_ext
  intro i hi
  rw [ub_n (hk i hi)]
theorem cRoll_ub {r r1 r2 r3 r4 : Nat → Int32} {k v : Nat} (h : cRoll B r r1 r2 r3 r4) (hn : 0 ≠ k) (hk : ∀ i, i < B 0 → 10 + 5 * i ≠ k ∧ 10 + 5 * i + 1 ≠ k ∧ 10 + 5 * i + 2 ≠ k ∧ 10 + 5 * i + 3 ≠ k ∧ 10 + 5 * i + 4 ≠ k) : cRoll (ub B k v) r r1 r2 r3 r4 := by
  unfold cRoll at *
  rw [sb_ub hn (fun i hi => (hk i hi).2.2.2.2), ub_n hn]
  refine ⟨h.1, h.2.1, fun i hi => ?_⟩
  rw [ub_n (hk i hi).1, ub_n (hk i hi).2.1, ub_n (hk i hi).2.2.1, ub_n (hk i hi).2.2.2.1]
  exact h.2.2 i hi
def nwB (B : Nat → Nat) (a b c d : Nat) : Nat → Nat := ub (ub (ub (ub (ub (ub B (10 + 5 * B 0) a) (10 + 5 * B 0 + 1) b) (10 + 5 * B 0 + 2) c) (10 + 5 * B 0 + 3) d) (10 + 5 * B 0 + 4) 0) 0 (B 0 + 1)
def nvB (B : Nat → Nat) (a b c : Nat) : Nat → Nat := ub (ub (ub (ub B (60 + 3 * B 1) a) (60 + 3 * B 1 + 1) b) (60 + 3 * B 1 + 2) c) 1 (B 1 + 1)
def nhB (B : Nat → Nat) (a b c : Nat) : Nat → Nat := ub (ub (ub (ub B (80 + 3 * B 5) a) (80 + 3 * B 5 + 1) b) (80 + 3 * B 5 + 2) c) 5 (B 5 + 1)
def ntB (B : Nat → Nat) (a b c : Nat) : Nat → Nat := ub (ub (ub (ub B (110 + 3 * B 6) a) (110 + 3 * B 6 + 1) b) (110 + 3 * B 6 + 2) c) 6 (B 6 + 1)
/-- a row of three gets one more -/
theorem cRow_add {r r1 r2 r3 : Nat → Int32} {n s a b c : Nat} (h : cRow B n s r r1 r2 r3) (hn : n < s) {q q1 q2 q3 : Nat → Int32} (h0 : q 0 = nI (B n + 1)) (h1 : ∀ i, q1 i = if i = B n then nI a else r1 i) (h2 : ∀ i, q2 i = if i = B n then nI b else r2 i) (h3 : ∀ i, q3 i = if i = B n then nI c else r3 i) :
    cRow (ub (ub (ub (ub B (s + 3 * B n) a) (s + 3 * B n + 1) b) (s + 3 * B n + 2) c) n (B n + 1)) n s q q1 q2 q3 := by
  unfold cRow at *
  rw [ub_e]
  refine ⟨h0, fun i hi => ?_⟩
  rw [h1, h2, h3, ub_n (by omega), ub_n (by omega), ub_n (by omega)]
  by_cases e : i = B n
  · subst e
    rw [if_pos rfl, if_pos rfl, if_pos rfl]
    simp (disch := omega) only [ub_n, ub_e, and_self]
  · rw [if_neg e, if_neg e, if_neg e]
    have := h.2 i (by omega)
    (try simp (disch := omega) only [ub_n])
    exact this
theorem CB_witness {a b c d : Nat} (hC : CB B 3 I) (hW : WB B) (hl : B 0 < 10) : CB (nwB B a b c d) 3 (up2 (up2 (up2 (up2 (up2 I 5 (B 0) (nI a)) 6 (B 0) (nI b)) 7 (B 0) (nI c)) 8 (B 0) (nI d)) 4 0 (nI (B 0 + 1))) := by
  have hn := hW.n
  obtain ⟨c1, c2, c3, c4, c5⟩ := hC
  unfold CB nwB
  simp (disch := omega) only [up2_ne]
  refine ⟨cHd_ub (cHd_ub (cHd_ub (cHd_ub (cHd_ub (cHd_ub c1 ?_) ?_) ?_) ?_) ?_) ?_, ?_, ?_, ?_, ?_⟩
  iterate 6 omega
  · unfold cRoll
    rw [ub_e]
    refine ⟨up2_c, ?_, fun i hi => ?_⟩
    · rw [up2_b (by decide), up2_a (by decide), up2_a (by decide), up2_a (by decide), up2_a (by decide)]
      have e1 : sb (ub (ub (ub (ub (ub (ub B (10 + 5 * B 0) a) (10 + 5 * B 0 + 1) b) (10 + 5 * B 0 + 2) c) (10 + 5 * B 0 + 3) d) (10 + 5 * B 0 + 4) 0) 0 (B 0 + 1)) = sb B := by
        show bits _ _ = _
        rw [ub_e, ← bits_f]
        · apply bits_ext
          intro i hi
          (try simp (disch := omega) only [ub_n])
        · simp (disch := omega) only [ub_n, ub_e]
          decide
      rw [e1]
      exact c2.2.1
    · by_cases e : i = B 0
      · subst e
        simp (disch := omega) only [ub_n, ub_e, up2_a, up2_c, and_self]
      · have := c2.2.2 i (by omega)
        simp (disch := omega) only [ub_n, up2_a, up2_b]
        exact this
  · refine cRow_ub (cRow_ub (cRow_ub (cRow_ub (cRow_ub (cRow_ub c3 ?_ ?_) ?_ ?_) ?_ ?_) ?_ ?_) ?_ ?_) ?_ ?_
    all_goals first | omega | (intro i hi; simp (disch := omega) only [ub_n] at hi; omega)
  · refine cRow_ub (cRow_ub (cRow_ub (cRow_ub (cRow_ub (cRow_ub c4 ?_ ?_) ?_ ?_) ?_ ?_) ?_ ?_) ?_ ?_) ?_ ?_
    all_goals first | omega | (intro i hi; simp (disch := omega) only [ub_n] at hi; omega)
  · refine cRow_ub (cRow_ub (cRow_ub (cRow_ub (cRow_ub (cRow_ub c5 ?_ ?_) ?_ ?_) ?_ ?_) ?_ ?_) ?_ ?_) ?_ ?_
    all_goals first | omega | (intro i hi; simp (disch := omega) only [ub_n] at hi; omega)
theorem WB_witness {a b c d : Nat} (hW : WB B) (hl : B 0 < 10) (ha : a ≤ 65535) (hb : b ≤ 3) (hc : 1 ≤ c) (hc9 : c ≤ 9) (hd : d ≤ 99) : WB (nwB B a b c d) := by
  have hn := hW.n
  obtain ⟨⟨w0, _⟩, w1, w2, w3, w4, w5⟩ := hW
  unfold WB nwB
  rw [ub_e]
  (try simp (disch := omega) only [ub_n])
  refine ⟨⟨fun k => ?_, by omega⟩, fun i hi => ?_, fun i hi => ?_, fun i hi => ?_, fun i j hi hj => ?_, fun i hi => ?_⟩
  · have := w0 k
    unfold ub
    repeat' split
    all_goals omega
  · by_cases e : i = B 0
    · subst e
      simp (disch := omega) only [ub_n, ub_e]
      omega
    · have := w1 i (by omega)
      (try simp (disch := omega) only [ub_n])
      exact this
  · have := w2 i hi
    (try simp (disch := omega) only [ub_n])
    exact this
  · have := w3 i hi
    (try simp (disch := omega) only [ub_n])
    omega
  · have := w4 i j hi hj
    (try simp (disch := omega) only [ub_n])
    exact this
  · have := w5 i hi
    (try simp (disch := omega) only [ub_n])
    omega
theorem r_witness {x1 x2 x3 x4 : Int32} (hB : rowB B (μ.1 131)) (hW : WB B)
    (h0 : ¬ (rgI 0 65535 x1 ∧ rgI 0 3 x2 ∧ rgI 1 9 x3 ∧ rgI 0 99 x4 ∧ B 0 < 10) → Ψ (-1) μ)
    (h1 : ∀ a b c d, x1 = nI a → x2 = nI b → x3 = nI c → x4 = nI d → a ≤ 65535 → b ≤ 3 → 1 ≤ c → c ≤ 9 → d ≤ 99 → B 0 < 10 → ∀ μ' : Me, Ag [131] μ.1 μ'.1 → rowB (nwB B a b c d) (μ'.1 131) → Ψ (nI (B 0)) μ') :
    VI N 2 mX12_witness [.ref 130, .int x1, .int x2, .int x3, .int x4] μ Ψ := by
  have hn := hW.n
  have rB := hB.1
  refine tX12_witness_0 (vi_b (fun Ψ => r_in 0 65535 (by decide) (by decide)) (fun g1 => ?_) (fun g1 => ⟨_, rfl, h0 (fun k => g1 k.1)⟩))
  refine vi_b (fun Ψ => r_in 0 3 (by decide) (by decide)) (fun g2 => ?_) (fun g => ⟨_, rfl, h0 (fun k => g k.2.1)⟩)
  refine vi_b (fun Ψ => r_in 1 9 (by decide) (by decide)) (fun g3 => ?_) (fun g => ⟨_, rfl, h0 (fun k => g k.2.2.1)⟩)
  refine vi_b (fun Ψ => r_in 0 99 (by decide) (by decide)) (fun g4 => ?_) (fun g => ⟨_, rfl, h0 (fun k => g k.2.2.2.1)⟩)
  obtain ⟨a, -, ha, rfl⟩ := g1
  obtain ⟨b, -, hb, rfl⟩ := g2
  obtain ⟨c, hc0, hc, rfl⟩ := g3
  obtain ⟨d, -, hd, rfl⟩ := g4
  by_cases e : B 0 = 10
  · simp (disch := omega) only [lit, Nat.add_sub_cancel, Nat.not_lt_zero, ↓m1_mI, nI_add, pk_mul, nx_and, nx_or, and31, sh_r, sh_1, nx_nand, Nat.and_one_is_mod, nI_clamp, nI_leI, nI_ltI, nI_eq, tb_1, vp_t, up2_a, up2_b, up2_c, br_1, br_0, true_and, and_true, mI_ne, mI_ne', mI_lt, mI_le, mI_nle, mI_nlt, pk_sub, mI_sub, rB, e]
    exact ⟨_, rfl, h0 (fun k => by omega)⟩
  · simp (disch := omega) only [lit, Nat.add_sub_cancel, Nat.not_lt_zero, ↓m1_mI, nI_add, pk_mul, nx_and, nx_or, and31, sh_r, sh_1, nx_nand, Nat.and_one_is_mod, nI_clamp, nI_leI, nI_ltI, nI_eq, tb_1, vp_t, up2_a, up2_b, up2_c, br_1, br_0, true_and, and_true, mI_ne, mI_ne', mI_lt, mI_le, mI_nle, mI_nlt, pk_sub, mI_sub, rB, eq_false e]
    exact ⟨_, rfl, h1 a b c d rfl rfl rfl rfl ha hb hc0 hc hd (by omega) _ (by repeat (first | refine Ag.up ?_ (by decide) | exact Ag.rf)) (rowB_up (rowB_up (rowB_up (rowB_up (rowB_up (rowB_up hB (by omega)) (by omega)) (by omega)) (by omega)) (by omega)) (by omega))⟩
theorem c_wit46 {x1 x2 x3 x4 : Int32} (h : Ψ (-1) μ) : VB N 2 mX11_witness 46 [.ref 2, .int x1, .int x2, .int x3, .int x4] [] μ (fun r μ' => ∃ v, r = some (.int v) ∧ Ψ v μ') := tX11_witness_46 (tX11_witness_47 ⟨fun _ => ⟨_, rfl, h⟩, fun e => absurd rfl e⟩)
theorem c_witness {x1 x2 x3 x4 : Int32} (hC : CB B 3 μ.1) (hW : WB B)
    (h0 : ¬ (rgI 0 65535 x1 ∧ rgI 0 3 x2 ∧ rgI 1 9 x3 ∧ rgI 0 99 x4 ∧ B 0 < 10) → Ψ (-1) μ)
    (h1 : ∀ a b c d, x1 = nI a → x2 = nI b → x3 = nI c → x4 = nI d → a ≤ 65535 → b ≤ 3 → 1 ≤ c → c ≤ 9 → d ≤ 99 → B 0 < 10 → ∀ μ' : Me, Ag ktR μ.1 μ'.1 → CB (nwB B a b c d) 3 μ'.1 → Ψ (nI (B 0)) μ') :
    VI N 2 mX11_witness [.ref 2, .int x1, .int x2, .int x3, .int x4] μ Ψ := by
  have hn := hW.n
  refine tX11_witness_0 ?_
  refine ⟨fun e => c_wit46 (h0 (fun k => rg_lt (lo := 0) (hi := 65535) (by decide) (by decide) e k.1)), fun e1 => ?_⟩
  refine ⟨fun e => c_wit46 (h0 (fun k => rg_gt (lo := 0) (hi := 65535) (by decide) (by decide) e k.1)), fun e2 => ?_⟩
  refine ⟨fun e => c_wit46 (h0 (fun k => rg_lt (lo := 0) (hi := 3) (by decide) (by decide) e k.2.1)), fun e3 => ?_⟩
  refine ⟨fun e => c_wit46 (h0 (fun k => rg_ge (lo := 0) (hi := 3) (by decide) e k.2.1)), fun e4 => ?_⟩
  refine ⟨fun e => c_wit46 (h0 (fun k => rg_lt (lo := 1) (hi := 9) (by decide) (by decide) e k.2.2.1)), fun e5 => ?_⟩
  refine ⟨fun e => c_wit46 (h0 (fun k => rg_gt (lo := 1) (hi := 9) (by decide) (by decide) e k.2.2.1)), fun e6 => ?_⟩
  refine ⟨fun e => c_wit46 (h0 (fun k => rg_lt (lo := 0) (hi := 99) (by decide) (by decide) e k.2.2.2.1)), fun e7 => ?_⟩
  refine ⟨fun e => c_wit46 (h0 (fun k => rg_gt (lo := 0) (hi := 99) (by decide) (by decide) e k.2.2.2.1)), fun e8 => ?_⟩
  obtain ⟨a, -, ha, rfl⟩ := rg_mk (lo := 0) (hi := 65535) (by decide) (by decide) e1 e2
  obtain ⟨b, -, hb, rfl⟩ := rg_mk' (lo := 0) (hi := 3) (by decide) (by decide) e3 e4
  obtain ⟨c, hc0, hc, rfl⟩ := rg_mk (lo := 1) (hi := 9) (by decide) (by decide) e5 e6
  obtain ⟨d, -, hd, rfl⟩ := rg_mk (lo := 0) (hi := 99) (by decide) (by decide) e7 e8
  refine tX11_witness_47 ⟨fun e => absurd e (by decide), fun _ => ?_⟩
  refine tX8_add_0 ?_
  by_cases e : B 0 < 10
  · simp (disch := omega) only [lit, Nat.add_sub_cancel, Nat.not_lt_zero, ↓m1_mI, nI_add, pk_mul, nx_and, nx_or, and31, sh_r, sh_1, nx_nand, Nat.and_one_is_mod, nI_clamp, nI_leI, nI_ltI, nI_eq, tb_1, vp_t, up2_a, up2_b, up2_c, br_1, br_0, true_and, and_true, mI_ne, mI_ne', mI_lt, mI_le, mI_nle, mI_nlt, pk_sub, mI_sub, hC.k0, eq_true e]
    exact ⟨_, rfl, _, rfl, h1 a b c d rfl rfl rfl rfl ha hb hc0 hc hd e _ (by repeat (first | refine Ag.up ?_ (by decide) | exact Ag.rf)) (CB_witness hC hW e)⟩
  · simp (disch := omega) only [lit, Nat.add_sub_cancel, Nat.not_lt_zero, ↓m1_mI, nI_add, pk_mul, nx_and, nx_or, and31, sh_r, sh_1, nx_nand, Nat.and_one_is_mod, nI_clamp, nI_leI, nI_ltI, nI_eq, tb_1, vp_t, up2_a, up2_b, up2_c, br_1, br_0, true_and, and_true, mI_ne, mI_ne', mI_lt, mI_le, mI_nle, mI_nlt, pk_sub, mI_sub, hC.k0, eq_false e]
    exact ⟨_, rfl, _, rfl, h0 (fun k => e k.2.2.2.2)⟩
theorem nI_inj {a b : Nat} (h : nI a = nI b) (ha : a < 2 ^ 31) (hb : b < 2 ^ 31) : a = b := (nI_eq ha hb).mp h
theorem k_witness {x1 x2 x3 x4 : Int32} {Φ : Int32 → Int32 → Me → Prop} (h : IV μ.1) (K : ∀ v (μ' : Me), IV μ'.1 → μ'.1 0 = μ.1 0 → Φ v v μ') : VI N 2 mX11_witness [.ref 2, .int x1, .int x2, .int x3, .int x4] μ (fun v μ1 => μ1.1 0 = μ.1 0 ∧ VI N 2 mX12_witness [.ref 130, .int x1, .int x2, .int x3, .int x4] μ1 (fun v' μ2 => Φ v v' μ2)) := by
  obtain ⟨B, B', R, tp, tn, ft, fp, hw, hc, hr⟩ := h
  refine c_witness hc.1 hw.1 (fun g => ?_) (fun a b c d e1 e2 e3 e4 l1 l2 l3 l4 l5 l6 μ1 hA hC1 => ?_)
  · refine And.intro (by first | rfl | exact hA 0 (by decide) | exact b3 0 (by decide) | exact b2 0 (by decide) | exact a1 0 (by decide) | exact a1 0 (by omega) | exact a3 0 (by decide) (by decide) | simp (disch := omega) only [up2_ne]) ?_
    refine r_witness hr.1 hw.1 (fun _ => K _ _ ⟨B, B', R, tp, tn, ft, fp, hw, hc, hr⟩ rfl) (fun a b c d e1 e2 e3 e4 l1 l2 l3 l4 l5 l6 μ1 _ _ => absurd ⟨⟨a, by omega, l1, e1⟩, ⟨b, by omega, l2, e2⟩, ⟨c, l3, l4, e3⟩, ⟨d, by omega, l5, e4⟩, l6⟩ g)
  · have hr1 : rowB B (μ1.1 131) := by rw [hA 131 (ktR_ge (by decide))]; exact hr.1
    try refine And.intro (by first | rfl | exact hA 0 (by decide) | exact b3 0 (by decide) | exact b2 0 (by decide) | exact a1 0 (by decide) | exact a1 0 (by omega) | exact a3 0 (by decide) (by decide) | simp (disch := omega) only [up2_ne]) ?_
    refine r_witness hr1 hw.1 (fun g => absurd ⟨⟨a, by omega, l1, e1⟩, ⟨b, by omega, l2, e2⟩, ⟨c, l3, l4, e3⟩, ⟨d, by omega, l5, e4⟩, l6⟩ g) (fun a' b' c' d' f1 f2 f3 f4 m1 m2 m3 m4 m5 _ μ2 hA2 hb => ?_)
    obtain rfl := nI_inj (e1.symm.trans f1) (by omega) (by omega)
    obtain rfl := nI_inj (e2.symm.trans f2) (by omega) (by omega)
    obtain rfl := nI_inj (e3.symm.trans f3) (by omega) (by omega)
    obtain rfl := nI_inj (e4.symm.trans f4) (by omega) (by omega)
    refine K _ _ (IV.court hw hc hr (WB_witness hw.1 l6 l1 l2 l3 l4 l5) ?_ (fun a _ h => hA a h) hC1 (fun a _ h => hA2 a (by simpa using h)) hb) ((hA2 0 (by decide)).trans (hA 0 (by decide)))
    unfold nwB
    (try simp (disch := omega) only [ub_n])
end SC
