/-! the reference's steps within a sum -/
section RV
variable {N : Nat} {bt : Nat → Nat} {tn m t0 : Nat} {k op w fee : Nat} {L : Cd} {p : List Nat} {μ : Me} {Ψ : Int32 → Me → Prop}
theorem tkc {k op : Nat} {L : Cd} {μ : Me} (h : RK bt tn m t0 k L op μ) (c : Nat) (h1 : 35 ≤ c := by decide) (h2 : c ≤ 62 := by decide) : rTok bt tn (tS bt tn k) = c ↔ kT bt tn k = c := tok_c h.1.2.2.2 h1 h2
def SO (fee : Nat) (I : Nat → Nat → Int32) : Prop := (I 130 20 = nI 0 ∧ fee = 1) ∨ (∃ x, 1 ≤ x ∧ x ≤ 3 ∧ I 130 20 = nI x ∧ fee ≠ 1)
theorem r_barred {x : Nat} (hx : 12 ≤ x) (hx2 : x ≤ 18) (h : SO fee μ.1) (h1 : fgn fee x → Ψ 1 μ) (h0 : ¬ fgn fee x → Ψ 0 μ) : VI N 1 mX12_isBarred [.ref 130, .int (nI (x - 12))] μ Ψ := by
  unfold fgn at h1 h0
  refine tX12_isBarred_0 ?_
  rcases h with ⟨e, ef⟩ | ⟨y, y1, y2, e, ef⟩
  · rw [if_pos ef] at h1 h0
    rw [e]
    simp (disch := omega) only [lit, Nat.add_sub_cancel, Nat.not_lt_zero, ↓m1_mI, nI_add, pk_mul, nx_and, nx_or, and31, sh_r, sh_1, nx_nand, Nat.and_one_is_mod, nI_clamp, nI_leI, nI_ltI, nI_eq, tb_1, vp_t, up2_a, up2_b, up2_c, br_1, br_0, true_and, and_true, mI_ne, mI_ne', mI_lt, mI_le, mI_nle, mI_nlt, pk_sub, mI_sub, eq_true (show (0 : Nat) = 0 from rfl)]
    exact ⟨fun q => ⟨_, rfl, h1 (by omega)⟩, fun q => ⟨_, rfl, h0 (by omega)⟩⟩
  · rw [if_neg ef] at h1 h0
    rw [e]
    simp (disch := omega) only [lit, Nat.add_sub_cancel, Nat.not_lt_zero, ↓m1_mI, nI_add, pk_mul, nx_and, nx_or, and31, sh_r, sh_1, nx_nand, Nat.and_one_is_mod, nI_clamp, nI_leI, nI_ltI, nI_eq, tb_1, vp_t, up2_a, up2_b, up2_c, br_1, br_0, true_and, and_true, mI_ne, mI_ne', mI_lt, mI_le, mI_nle, mI_nlt, pk_sub, mI_sub, eq_false (show ¬ y = 0 by omega)]
    exact ⟨fun q => ⟨_, rfl, h1 (by omega)⟩, fun q1 => ⟨fun q => ⟨_, rfl, h1 (by omega)⟩, fun q => ⟨_, rfl, h0 (by omega)⟩⟩⟩
theorem s_goes (h : SS bt tn m t0 k L op p w μ) (h1 : (kT bt tn k = 43 ∨ kT bt tn k = 45 ∨ kT bt tn k = 42 ∨ kT bt tn k = 47 ∨ (kT bt tn k = 41 ∧ 40 ∈ p)) → Ψ 1 μ) (h0 : ¬ (kT bt tn k = 43 ∨ kT bt tn k = 45 ∨ kT bt tn k = 42 ∨ kT bt tn k = 47 ∨ (kT bt tn k = 41 ∧ 40 ∈ p)) → Ψ 0 μ) : VI N 2 mX12_goesOn [.ref 130] μ Ψ := by
  have ⟨t1, t2⟩ := rk_tok h.1
  refine tX12_goesOn_0 ?_
  rw [t1]
  simp (disch := omega) only [lit, Nat.add_sub_cancel, Nat.not_lt_zero, ↓m1_mI, nI_add, pk_mul, nx_and, nx_or, and31, sh_r, sh_1, nx_nand, Nat.and_one_is_mod, nI_clamp, nI_leI, nI_ltI, nI_eq, tb_1, vp_t, up2_a, up2_b, up2_c, br_1, br_0, true_and, and_true, mI_ne, mI_ne', mI_lt, mI_le, mI_nle, mI_nlt, pk_sub, mI_sub, tkc h.1 43, tkc h.1 45, tkc h.1 42, tkc h.1 47, tkc h.1 41]
  refine ⟨fun q => ⟨_, rfl, h1 (Or.inl q)⟩, fun q1 => ⟨fun q => ⟨_, rfl, h1 (Or.inr (Or.inl q))⟩, fun q2 => ⟨fun q => ⟨_, rfl, h1 (Or.inr (Or.inr (Or.inl q)))⟩, fun q3 => ⟨fun q => ⟨_, rfl, h1 (Or.inr (Or.inr (Or.inr (Or.inl q))))⟩, fun q4 => ⟨fun q => ?_, fun q5 => ⟨_, rfl, h0 (fun z => ?_)⟩⟩⟩⟩⟩⟩
  · refine vi_b (fun Ψ => s_hasP h) (fun g => ⟨_, rfl, h1 (Or.inr (Or.inr (Or.inr (Or.inr ⟨q, g⟩))))⟩) (fun g => ⟨_, rfl, h0 (fun z => ?_)⟩)
    rcases z with z | z | z | z | z
    · exact q1 z
    · exact q2 z
    · exact q3 z
    · exact q4 z
    · exact g z.2
  · rcases z with z | z | z | z | z
    · exact q1 z
    · exact q2 z
    · exact q3 z
    · exact q4 z
    · exact q5 z.1
theorem b_numb (h : SS bt tn m t0 k L op p w μ) (hk : kT bt tn k = 20) (hv : 9999 < kV bt tn k) (K : Ψ 2 μ) : VI N 4 mX12_beginOne [.ref 130] μ Ψ := by
  have ⟨t1, t2⟩ := rk_tok h.1
  obtain ⟨n, n1, n2, n3⟩ := rk_num h.1 hk
  have e1 : rTok bt tn (tS bt tn k) = 1 := (tok_1 h.1.1.2.2.2).mpr hk
  refine tX12_beginOne_0 ?_
  rw [t1, n1, e1]
  simp (disch := omega) only [lit, Nat.add_sub_cancel, Nat.not_lt_zero, ↓m1_mI, nI_add, pk_mul, nx_and, nx_or, and31, sh_r, sh_1, nx_nand, Nat.and_one_is_mod, nI_clamp, nI_leI, nI_ltI, nI_eq, tb_1, vp_t, up2_a, up2_b, up2_c, br_1, br_0, true_and, and_true, mI_ne, mI_ne', mI_lt, mI_le, mI_nle, mI_nlt, pk_sub, mI_sub, eq_true (show (1 : Nat) = 1 from rfl), eq_false (show ¬ n ≤ 9999 by omega)]
  exact ⟨_, rfl, K⟩
/-- behind an operand's token -/
theorem b_op {o v : Nat} (h : SS bt tn m t0 k L op p w μ) (hk : kT bt tn k ≠ 21) (ho : o < 65536) (hv : v < 65536) (hm : mn p ≤ op) (hop : op < 100) (hl : L.length + mn p ≤ k) (K : ∀ μ', RFr t0 μ.1 μ'.1 → SS bt tn m t0 (k + 1) (L ++ [(o, v)] ++ mns (mn p)) (op - mn p) (st p) 1 μ' → Ψ 0 μ') : VU N 1 mX12_emit [.ref 130, .int (nI o), .int (nI v)] μ (fun μ3 => VU N 3 mX12_nextToken [.ref 130] μ3 (fun μ4 => VU N 2 mX12_whole [.ref 130] μ4 (fun μ5 => ∃ v, (some (Value.int 0)) = some (Value.int v) ∧ Ψ v μ5))) := by
  have hkm := (rk_lt h.1 hk).2
  have hm3 := h.1.2.2.1.1
  refine s_emit h (by omega) ho hv (fun μ1 q1 q2 => s_nxt q2 hk (fun μ2 q3 q4 => s_whole q4 hm hop (by rw [List.length_append]; show L.length + 1 + _ ≤ _; omega) (fun μ3 q5 q6 => ⟨_, rfl, K μ3 ((q1.tr q3).tr q5) q6⟩)))
theorem b_num (h : SS bt tn m t0 k L op p w μ) (hk : kT bt tn k = 20) (hv : kV bt tn k ≤ 9999) (hm : mn p ≤ op) (hop : op < 100) (hl : L.length + mn p ≤ k) (K : ∀ μ', RFr t0 μ.1 μ'.1 → SS bt tn m t0 (k + 1) (L ++ [(0, kV bt tn k)] ++ mns (mn p)) (op - mn p) (st p) 1 μ' → Ψ 0 μ') : VI N 4 mX12_beginOne [.ref 130] μ Ψ := by
  have ⟨t1, t2⟩ := rk_tok h.1
  obtain ⟨n, n1, n2, n3⟩ := rk_num h.1 hk
  have e1 : rTok bt tn (tS bt tn k) = 1 := (tok_1 h.1.1.2.2.2).mpr hk
  have e2 : n = kV bt tn k := by omega
  refine tX12_beginOne_0 ?_
  rw [t1, n1, e1, e2]
  simp (disch := omega) only [lit, Nat.add_sub_cancel, Nat.not_lt_zero, ↓m1_mI, nI_add, pk_mul, nx_and, nx_or, and31, sh_r, sh_1, nx_nand, Nat.and_one_is_mod, nI_clamp, nI_leI, nI_ltI, nI_eq, tb_1, vp_t, up2_a, up2_b, up2_c, br_1, br_0, true_and, and_true, mI_ne, mI_ne', mI_lt, mI_le, mI_nle, mI_nlt, pk_sub, mI_sub, eq_true (show (1 : Nat) = 1 from rfl), eq_true hv]
  exact b_op h (by omega) (by decide) (by omega) hm hop hl K
theorem b_namb (h : SS bt tn m t0 k L op p w μ) (hk : 12 ≤ kT bt tn k) (hk2 : kT bt tn k ≤ 18) (hso : SO fee μ.1) (hb : fgn fee (kT bt tn k)) (K : Ψ 5 μ) : VI N 4 mX12_beginOne [.ref 130] μ Ψ := by
  have ⟨t1, t2⟩ := rk_tok h.1
  have e1 : ¬ rTok bt tn (tS bt tn k) = 1 := fun e => by
    have : kT bt tn k = 20 := (tok_1 h.1.1.2.2.2).mp e
    omega
  refine tX12_beginOne_0 ?_
  rw [t1]
  simp (disch := omega) only [lit, Nat.add_sub_cancel, Nat.not_lt_zero, ↓m1_mI, nI_add, pk_mul, nx_and, nx_or, and31, sh_r, sh_1, nx_nand, Nat.and_one_is_mod, nI_clamp, nI_leI, nI_ltI, nI_eq, tb_1, vp_t, up2_a, up2_b, up2_c, br_1, br_0, true_and, and_true, mI_ne, mI_ne', mI_lt, mI_le, mI_nle, mI_nlt, pk_sub, mI_sub, eq_false e1]
  refine r_nameOf h.1.1 h.1.2.1 (fun _ _ => ?_) (fun g => absurd (show 12 ≤ kT bt tn k ∧ kT bt tn k ≤ 18 from ⟨hk, hk2⟩) g)
  have e0 : ¬ nI (kT bt tn k - 12) < nI 0 := by rw [nI_ltI (by omega) (by omega)]; omega
  refine ⟨fun g => absurd g e0, fun _ => r_nameOf h.1.1 h.1.2.1 (fun _ _ => ?_) (fun g => absurd (show 12 ≤ kT bt tn k ∧ kT bt tn k ≤ 18 from ⟨hk, hk2⟩) g)⟩
  exact vi_b (fun Ψ => r_barred (x := kT bt tn k) hk hk2 hso) (fun _ => ⟨_, rfl, K⟩) (fun g => absurd hb g)
theorem b_nam (h : SS bt tn m t0 k L op p w μ) (hk : 12 ≤ kT bt tn k) (hk2 : kT bt tn k ≤ 18) (hso : SO fee μ.1) (hb : ¬ fgn fee (kT bt tn k)) (hm : mn p ≤ op) (hop : op < 100) (hl : L.length + mn p ≤ k) (K : ∀ μ', RFr t0 μ.1 μ'.1 → SS bt tn m t0 (k + 1) (L ++ [(1, kT bt tn k - 12)] ++ mns (mn p)) (op - mn p) (st p) 1 μ' → Ψ 0 μ') : VI N 4 mX12_beginOne [.ref 130] μ Ψ := by
  have ⟨t1, t2⟩ := rk_tok h.1
  have e1 : ¬ rTok bt tn (tS bt tn k) = 1 := fun e => by
    have : kT bt tn k = 20 := (tok_1 h.1.1.2.2.2).mp e
    omega
  refine tX12_beginOne_0 ?_
  rw [t1]
  simp (disch := omega) only [lit, Nat.add_sub_cancel, Nat.not_lt_zero, ↓m1_mI, nI_add, pk_mul, nx_and, nx_or, and31, sh_r, sh_1, nx_nand, Nat.and_one_is_mod, nI_clamp, nI_leI, nI_ltI, nI_eq, tb_1, vp_t, up2_a, up2_b, up2_c, br_1, br_0, true_and, and_true, mI_ne, mI_ne', mI_lt, mI_le, mI_nle, mI_nlt, pk_sub, mI_sub, eq_false e1]
  refine r_nameOf h.1.1 h.1.2.1 (fun _ _ => ?_) (fun g => absurd (show 12 ≤ kT bt tn k ∧ kT bt tn k ≤ 18 from ⟨hk, hk2⟩) g)
  have e0 : ¬ nI (kT bt tn k - 12) < nI 0 := by rw [nI_ltI (by omega) (by omega)]; omega
  refine ⟨fun g => absurd g e0, fun _ => r_nameOf h.1.1 h.1.2.1 (fun _ _ => ?_) (fun g => absurd (show 12 ≤ kT bt tn k ∧ kT bt tn k ≤ 18 from ⟨hk, hk2⟩) g)⟩
  refine vi_b (fun Ψ => r_barred (x := kT bt tn k) hk hk2 hso) (fun g => absurd g hb) (fun _ => ?_)
  refine r_nameOf h.1.1 h.1.2.1 (fun _ _ => ?_) (fun g => absurd (show 12 ≤ kT bt tn k ∧ kT bt tn k ≤ 18 from ⟨hk, hk2⟩) g)
  exact b_op (o := 1) h (by omega) (by decide) (show kT bt tn k - 12 < 65536 by omega) hm hop hl K
theorem b_106 (h : SS bt tn m t0 k L op p w μ) (h20 : kT bt tn k ≠ 20) (hn : ¬ (12 ≤ kT bt tn k ∧ kT bt tn k ≤ 18)) (K1 : kT bt tn k = 40 → VB N 4 mX12_beginOne 106 [.ref 130] [.int 40] μ (fun r μ' => ∃ v, r = some (.int v) ∧ Ψ v μ')) (K2 : kT bt tn k = 45 → VB N 4 mX12_beginOne 106 [.ref 130] [.int 2] μ (fun r μ' => ∃ v, r = some (.int v) ∧ Ψ v μ')) (K3 : kT bt tn k ≠ 40 → kT bt tn k ≠ 45 → Ψ 1 μ) : VI N 4 mX12_beginOne [.ref 130] μ Ψ := by
  have ⟨t1, t2⟩ := rk_tok h.1
  have e1 : ¬ rTok bt tn (tS bt tn k) = 1 := fun e => h20 ((tok_1 h.1.1.2.2.2).mp e)
  refine tX12_beginOne_0 ?_
  rw [t1]
  simp (disch := omega) only [lit, Nat.add_sub_cancel, Nat.not_lt_zero, ↓m1_mI, nI_add, pk_mul, nx_and, nx_or, and31, sh_r, sh_1, nx_nand, Nat.and_one_is_mod, nI_clamp, nI_leI, nI_ltI, nI_eq, tb_1, vp_t, up2_a, up2_b, up2_c, br_1, br_0, true_and, and_true, mI_ne, mI_ne', mI_lt, mI_le, mI_nle, mI_nlt, pk_sub, mI_sub, eq_false e1]
  refine r_nameOf h.1.1 h.1.2.1 (fun g1 g2 => absurd (show 12 ≤ kT bt tn k ∧ kT bt tn k ≤ 18 from ⟨g1, g2⟩) hn) (fun _ => ?_)
  rw [t1]
  simp (disch := omega) only [lit, Nat.add_sub_cancel, Nat.not_lt_zero, ↓m1_mI, nI_add, pk_mul, nx_and, nx_or, and31, sh_r, sh_1, nx_nand, Nat.and_one_is_mod, nI_clamp, nI_leI, nI_ltI, nI_eq, tb_1, vp_t, up2_a, up2_b, up2_c, br_1, br_0, true_and, and_true, mI_ne, mI_ne', mI_lt, mI_le, mI_nle, mI_nlt, pk_sub, mI_sub, tkc h.1 40, tkc h.1 45]
  refine ⟨fun q => K1 q, fun q1 => ⟨fun q => K2 q, fun q2 => tX12_beginOne_106 ?_⟩⟩
  exact ⟨fun _ => ⟨_, rfl, K3 q1 q2⟩, fun e => absurd rfl e⟩
theorem b_wrong (h : SS bt tn m t0 k L op p w μ) (h20 : kT bt tn k ≠ 20) (hn : ¬ (12 ≤ kT bt tn k ∧ kT bt tn k ≤ 18)) (h40 : kT bt tn k ≠ 40) (h45 : kT bt tn k ≠ 45) (K : Ψ 1 μ) : VI N 4 mX12_beginOne [.ref 130] μ Ψ :=
  b_106 h h20 hn (fun e => absurd e h40) (fun e => absurd e h45) (fun _ _ => K)
theorem b_deep (h : SS bt tn m t0 k L 8 p w μ) (hk : kT bt tn k = 40 ∨ kT bt tn k = 45) (K : Ψ 3 μ) : VI N 4 mX12_beginOne [.ref 130] μ Ψ := by
  have h18 : μ.1 130 18 = nI 8 := h.1.2.2.2.2.1
  refine b_106 h (by omega) (by omega) (fun _ => tX12_beginOne_106 ?_) (fun _ => tX12_beginOne_106 ?_) (fun q1 q2 => absurd hk (by omega))
  · rw [h18]
    simp (disch := omega) only [lit, Nat.add_sub_cancel, Nat.not_lt_zero, ↓m1_mI, nI_add, pk_mul, nx_and, nx_or, and31, sh_r, sh_1, nx_nand, Nat.and_one_is_mod, nI_clamp, nI_leI, nI_ltI, nI_eq, tb_1, vp_t, up2_a, up2_b, up2_c, br_1, br_0, true_and, and_true, mI_ne, mI_ne', mI_lt, mI_le, mI_nle, mI_nlt, pk_sub, mI_sub, eq_false (show ¬ (40 : Nat) = 0 by decide), eq_true (show (8 : Nat) = 8 from rfl)]
    exact ⟨_, rfl, K⟩
  · rw [h18]
    simp (disch := omega) only [lit, Nat.add_sub_cancel, Nat.not_lt_zero, ↓m1_mI, nI_add, pk_mul, nx_and, nx_or, and31, sh_r, sh_1, nx_nand, Nat.and_one_is_mod, nI_clamp, nI_leI, nI_ltI, nI_eq, tb_1, vp_t, up2_a, up2_b, up2_c, br_1, br_0, true_and, and_true, mI_ne, mI_ne', mI_lt, mI_le, mI_nle, mI_nlt, pk_sub, mI_sub, eq_false (show ¬ (2 : Nat) = 0 by decide), eq_true (show (8 : Nat) = 8 from rfl)]
    exact ⟨_, rfl, K⟩
theorem b_open (h : SS bt tn m t0 k L op p w μ) (hop : op < 8) (hp : p.length < 80) (hk : kT bt tn k = 40 ∨ kT bt tn k = 45) (K : ∀ μ', RFr t0 μ.1 μ'.1 → SS bt tn m t0 (k + 1) L (op + 1) ((if kT bt tn k = 40 then 40 else 2) :: p) w μ' → Ψ 0 μ') : VI N 4 mX12_beginOne [.ref 130] μ Ψ := by
  have h18 : μ.1 130 18 = nI op := h.1.2.2.2.2.1
  refine b_106 h (by omega) (by omega) (fun q => tX12_beginOne_106 ?_) (fun q => tX12_beginOne_106 ?_) (fun q1 q2 => absurd hk (by omega))
  · rw [if_pos q] at K
    rw [h18]
    simp (disch := omega) only [lit, Nat.add_sub_cancel, Nat.not_lt_zero, ↓m1_mI, nI_add, pk_mul, nx_and, nx_or, and31, sh_r, sh_1, nx_nand, Nat.and_one_is_mod, nI_clamp, nI_leI, nI_ltI, nI_eq, tb_1, vp_t, up2_a, up2_b, up2_c, br_1, br_0, true_and, and_true, mI_ne, mI_ne', mI_lt, mI_le, mI_nle, mI_nlt, pk_sub, mI_sub, eq_false (show ¬ (40 : Nat) = 0 by decide), eq_false (show ¬ op = 8 by omega)]
    exact s_push (x := 40) (h.sop (op' := op + 1)) (by decide) hp (fun μ1 q1 q2 => s_nxt q2 (by omega) (fun μ2 q3 q4 => ⟨_, rfl, K μ2 (((RFr.f (Or.inr (Or.inr (Or.inl rfl)))).tr q1).tr q3) q4⟩))
  · rw [if_neg (by omega)] at K
    rw [h18]
    simp (disch := omega) only [lit, Nat.add_sub_cancel, Nat.not_lt_zero, ↓m1_mI, nI_add, pk_mul, nx_and, nx_or, and31, sh_r, sh_1, nx_nand, Nat.and_one_is_mod, nI_clamp, nI_leI, nI_ltI, nI_eq, tb_1, vp_t, up2_a, up2_b, up2_c, br_1, br_0, true_and, and_true, mI_ne, mI_ne', mI_lt, mI_le, mI_nle, mI_nlt, pk_sub, mI_sub, eq_false (show ¬ (2 : Nat) = 0 by decide), eq_false (show ¬ op = 8 by omega)]
    exact s_push (x := 2) (h.sop (op' := op + 1)) (by decide) hp (fun μ1 q1 q2 => s_nxt q2 (by omega) (fun μ2 q3 q4 => ⟨_, rfl, K μ2 (((RFr.f (Or.inr (Or.inr (Or.inl rfl)))).tr q1).tr q3) q4⟩))
def po (a : Nat) : List Nat := if a = 0 then [] else [rop a]
theorem po_pe (a : Nat) : (po a).map (fun y => (y, 0)) = pe a := by
  unfold po pe
  split <;> rfl
def gPa (a : Nat) : Prop := a = 0 ∨ a = 43 ∨ a = 45
def gMu (s : Nat) : Prop := s = 0 ∨ s = 42 ∨ s = 47
theorem po_a {a : Nat} (h : gPa a) : ∀ y ∈ po a, 3 ≤ y ∧ y < 5 := by
  rcases h with e | e | e <;> subst e <;> decide
theorem po_s {s : Nat} (h : gMu s) : ∀ y ∈ po s, 5 ≤ y ∧ y < 40 := by
  rcases h with e | e | e <;> subst e <;> decide
theorem po_l (a : Nat) : (po a).length = ok1 a := by
  unfold po ok1
  split <;> rfl
/-- behind an operand: all pending is written -/
theorem s_set3 {a s : Nat} {q : List Nat} {Φ : Me → Prop} (ha : gPa a) (hs : gMu s) (hq : ∀ h r', q = h :: r' → h = 40) (h : SS bt tn m t0 k L op (po s ++ po a ++ q) w μ) (hl : L.length + ok1 a + ok1 s ≤ 300) (K : ∀ μ', RFr t0 μ.1 μ'.1 → SS bt tn m t0 k (L ++ pe s ++ pe a) op q w μ' → Φ μ') : VU N 2 mX12_settle [.ref 130, .int 3] μ Φ := by
  refine s_settle (x := 3) (r := q) (by decide) (fun h r' e => Or.inr (hq h r' e)) (po s ++ po a) L μ h (fun y hy => ?_) (by rw [List.length_append, po_l, po_l]; omega) (fun μ' q1 q2 => K μ' q1 ?_)
  · rcases List.mem_append.mp hy with g | g
    · have := po_s hs y g; omega
    · have := po_a ha y g; omega
  · rw [List.map_append, po_pe, po_pe, ← List.append_assoc] at q2
    exact q2
theorem s_set5 {a s : Nat} {q : List Nat} {Φ : Me → Prop} (ha : gPa a) (hs : gMu s) (hq : ∀ h r', q = h :: r' → h = 40) (h : SS bt tn m t0 k L op (po s ++ po a ++ q) w μ) (hl : L.length + ok1 a + ok1 s ≤ 300) (K : ∀ μ', RFr t0 μ.1 μ'.1 → SS bt tn m t0 k (L ++ pe s) op (po a ++ q) w μ' → Φ μ') : VU N 2 mX12_settle [.ref 130, .int 5] μ Φ := by
  rw [List.append_assoc] at h
  refine s_settle (x := 5) (r := po a ++ q) (by decide) (fun x r' e => ?_) (po s) L μ h (fun y hy => po_s hs y hy) (by rw [po_l]; omega) (fun μ' q1 q2 => K μ' q1 ?_)
  · by_cases e0 : a = 0
    · subst e0
      exact Or.inr (hq x r' e)
    · unfold po at e
      rw [if_neg e0] at e
      have e1 : rop a = x := by injection e
      have := po_a ha (rop a) (by unfold po; rw [if_neg e0]; exact List.mem_singleton.mpr rfl)
      exact Or.inl (by omega)
  · rw [po_pe] at q2
    exact q2
theorem n_mul {a s : Nat} {q : List Nat} (ha : gPa a) (hs : gMu s) (hq : ∀ h r', q = h :: r' → h = 40) (h : SS bt tn m t0 k L op (po s ++ po a ++ q) w μ) (hk : kT bt tn k = 42 ∨ kT bt tn k = 47) (hl : L.length + ok1 a + ok1 s ≤ 300) (hp : q.length + 2 ≤ 79) (K : ∀ μ', RFr t0 μ.1 μ'.1 → SS bt tn m t0 (k + 1) (L ++ pe s) op (po (kT bt tn k) ++ po a ++ q) 0 μ' → Ψ 0 μ') : VI N 4 mX12_behindOne [.ref 130] μ Ψ := by
  have ⟨t1, t2⟩ := rk_tok h.1
  have hl2 := ok1_le a
  have e75 : ∀ x : Nat, x = rop (kT bt tn k) → ∀ μ1 : Me, RFr t0 μ.1 μ1.1 → SS bt tn m t0 k (L ++ pe s) op (po a ++ q) w μ1 → VB N 4 mX12_behindOne 75 [.ref 130] [.int (nI x), .ref 130] μ1 (fun r μ' => ∃ v, r = some (.int v) ∧ Ψ v μ') := by
    intro x hx μ1 q1 q2
    refine tX12_behindOne_75 (s_push (x := x) q2 (by have := rop_b (kT bt tn k); omega) (by rw [List.length_append, po_l]; omega) (fun μ2 q3 q4 => ?_))
    refine s_nxt (q4.sw (w' := 0)) (by omega) (fun μ3 q5 q6 => ⟨_, rfl, K μ3 (((q1.tr q3).tr (RFr.f (Or.inr (Or.inr (Or.inr rfl))))).tr q5) ?_⟩)
    have e : po (kT bt tn k) = [x] := by unfold po; rw [if_neg (by omega), hx]
    rw [e]
    exact q6
  have e57 : VB N 4 mX12_behindOne 57 [.ref 130, .int (nI (rTok bt tn (tS bt tn k)))] [] μ (fun r μ' => ∃ v, r = some (.int v) ∧ Ψ v μ') := by
    refine tX12_behindOne_57 (s_set5 ha hs hq h hl (fun μ1 q1 q2 => ?_))
    simp (disch := omega) only [lit, Nat.add_sub_cancel, Nat.not_lt_zero, ↓m1_mI, nI_add, pk_mul, nx_and, nx_or, and31, sh_r, sh_1, nx_nand, Nat.and_one_is_mod, nI_clamp, nI_leI, nI_ltI, nI_eq, tb_1, vp_t, up2_a, up2_b, up2_c, br_1, br_0, true_and, and_true, mI_ne, mI_ne', mI_lt, mI_le, mI_nle, mI_nlt, pk_sub, mI_sub, tkc h.1 42]
    refine ⟨fun g => e75 5 (by rw [g]; rfl) μ1 q1 q2, fun g => e75 6 (by rw [show kT bt tn k = 47 by omega]; rfl) μ1 q1 q2⟩
  refine tX12_behindOne_0 ?_
  rw [t1]
  simp (disch := omega) only [lit, Nat.add_sub_cancel, Nat.not_lt_zero, ↓m1_mI, nI_add, pk_mul, nx_and, nx_or, and31, sh_r, sh_1, nx_nand, Nat.and_one_is_mod, nI_clamp, nI_leI, nI_ltI, nI_eq, tb_1, vp_t, up2_a, up2_b, up2_c, br_1, br_0, true_and, and_true, mI_ne, mI_ne', mI_lt, mI_le, mI_nle, mI_nlt, pk_sub, mI_sub, tkc h.1 43, tkc h.1 45, tkc h.1 42, tkc h.1 47, eq_false (show ¬ kT bt tn k = 43 by omega), eq_false (show ¬ kT bt tn k = 45 by omega)]
  exact ⟨fun _ => e57, fun g => ⟨fun _ => e57, fun g2 => absurd hk (by omega)⟩⟩
theorem n_add {a s : Nat} {q : List Nat} (ha : gPa a) (hs : gMu s) (hq : ∀ h r', q = h :: r' → h = 40) (h : SS bt tn m t0 k L op (po s ++ po a ++ q) w μ) (hk : kT bt tn k = 43 ∨ kT bt tn k = 45) (hl : L.length + ok1 a + ok1 s ≤ 300) (hp : q.length + 2 ≤ 79) (K : ∀ μ', RFr t0 μ.1 μ'.1 → SS bt tn m t0 (k + 1) (L ++ pe s ++ pe a) op (po 0 ++ po (kT bt tn k) ++ q) 0 μ' → Ψ 0 μ') : VI N 4 mX12_behindOne [.ref 130] μ Ψ := by
  have ⟨t1, t2⟩ := rk_tok h.1
  have e34 : ∀ x : Nat, x = rop (kT bt tn k) → ∀ μ1 : Me, RFr t0 μ.1 μ1.1 → SS bt tn m t0 k (L ++ pe s ++ pe a) op q w μ1 → VB N 4 mX12_behindOne 34 [.ref 130] [.int (nI x), .ref 130] μ1 (fun r μ' => ∃ v, r = some (.int v) ∧ Ψ v μ') := by
    intro x hx μ1 q1 q2
    refine tX12_behindOne_34 (s_push (x := x) q2 (by have := rop_b (kT bt tn k); omega) (by omega) (fun μ2 q3 q4 => ?_))
    refine s_nxt (q4.sw (w' := 0)) (by omega) (fun μ3 q5 q6 => ⟨_, rfl, K μ3 (((q1.tr q3).tr (RFr.f (Or.inr (Or.inr (Or.inr rfl))))).tr q5) ?_⟩)
    have e : po (kT bt tn k) = [x] := by unfold po; rw [if_neg (by omega), hx]
    rw [e]
    exact q6
  have e17 : VB N 4 mX12_behindOne 17 [.ref 130, .int (nI (rTok bt tn (tS bt tn k)))] [] μ (fun r μ' => ∃ v, r = some (.int v) ∧ Ψ v μ') := by
    refine tX12_behindOne_17 (s_set3 ha hs hq h hl (fun μ1 q1 q2 => ?_))
    simp (disch := omega) only [lit, Nat.add_sub_cancel, Nat.not_lt_zero, ↓m1_mI, nI_add, pk_mul, nx_and, nx_or, and31, sh_r, sh_1, nx_nand, Nat.and_one_is_mod, nI_clamp, nI_leI, nI_ltI, nI_eq, tb_1, vp_t, up2_a, up2_b, up2_c, br_1, br_0, true_and, and_true, mI_ne, mI_ne', mI_lt, mI_le, mI_nle, mI_nlt, pk_sub, mI_sub, tkc h.1 43]
    refine ⟨fun g => e34 3 (by rw [g]; rfl) μ1 q1 q2, fun g => e34 4 (by rw [show kT bt tn k = 45 by omega]; rfl) μ1 q1 q2⟩
  refine tX12_behindOne_0 ?_
  rw [t1]
  simp (disch := omega) only [lit, Nat.add_sub_cancel, Nat.not_lt_zero, ↓m1_mI, nI_add, pk_mul, nx_and, nx_or, and31, sh_r, sh_1, nx_nand, Nat.and_one_is_mod, nI_clamp, nI_leI, nI_ltI, nI_eq, tb_1, vp_t, up2_a, up2_b, up2_c, br_1, br_0, true_and, and_true, mI_ne, mI_ne', mI_lt, mI_le, mI_nle, mI_nlt, pk_sub, mI_sub, tkc h.1 43, tkc h.1 45]
  exact ⟨fun _ => e17, fun g => ⟨fun _ => e17, fun g2 => absurd hk (by omega)⟩⟩
/-- the parenthesis is closed -/
theorem n_par {a s : Nat} (ha : gPa a) (hs : gMu s) (h : SS bt tn m t0 k L op (po s ++ po a ++ 40 :: p) w μ) (hk : kT bt tn k = 41) (hop : mn p + 1 ≤ op) (hop2 : op < 100) (hl : L.length + ok1 a + ok1 s + mn p ≤ 300) (K : ∀ μ', RFr t0 μ.1 μ'.1 → SS bt tn m t0 (k + 1) (L ++ pe s ++ pe a ++ mns (mn p)) (op - 1 - mn p) (st p) 1 μ' → Ψ 0 μ') : VI N 4 mX12_behindOne [.ref 130] μ Ψ := by
  have ⟨t1, t2⟩ := rk_tok h.1
  refine tX12_behindOne_0 ?_
  rw [t1]
  simp (disch := omega) only [lit, Nat.add_sub_cancel, Nat.not_lt_zero, ↓m1_mI, nI_add, pk_mul, nx_and, nx_or, and31, sh_r, sh_1, nx_nand, Nat.and_one_is_mod, nI_clamp, nI_leI, nI_ltI, nI_eq, tb_1, vp_t, up2_a, up2_b, up2_c, br_1, br_0, true_and, and_true, mI_ne, mI_ne', mI_lt, mI_le, mI_nle, mI_nlt, pk_sub, mI_sub, tkc h.1 43, tkc h.1 45, tkc h.1 42, tkc h.1 47, eq_false (show ¬ kT bt tn k = 43 by omega), eq_false (show ¬ kT bt tn k = 45 by omega), eq_false (show ¬ kT bt tn k = 42 by omega), eq_false (show ¬ kT bt tn k = 47 by omega)]
  refine s_set3 ha hs (fun x r' e => by injection e with e1; exact e1.symm) h (by omega) (fun μ1 q1 q2 => ?_)
  have h17 : μ1.1 130 17 = nI (p.length + 1) := q2.2.1.1
  have h18 : μ1.1 130 18 = nI op := q2.1.2.2.2.2.1
  rw [h17, h18]
  simp (disch := omega) only [lit, Nat.add_sub_cancel, Nat.not_lt_zero, ↓m1_mI, nI_add, pk_mul, nx_and, nx_or, and31, sh_r, sh_1, nx_nand, Nat.and_one_is_mod, nI_clamp, nI_leI, nI_ltI, nI_eq, tb_1, vp_t, up2_a, up2_b, up2_c, br_1, br_0, true_and, and_true, mI_ne, mI_ne', mI_lt, mI_le, mI_nle, mI_nlt, pk_sub, mI_sub]
  refine s_whole ((q2.pop).sop (op' := op - 1)) (by omega) (by omega) (by rw [List.length_append, List.length_append, pe_l, pe_l]; omega) (fun μ2 q3 q4 => ?_)
  exact s_nxt q4 (by omega) (fun μ3 q5 q6 => ⟨_, rfl, K μ3 (((q1.tr ((RFr.f (Or.inr (Or.inl rfl))).tr (RFr.f (Or.inr (Or.inr (Or.inl rfl)))))).tr q3).tr q5) q6⟩)
end RV
