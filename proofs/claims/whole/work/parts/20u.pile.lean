/-! the reference's pile -/
section RU
variable {N : Nat} {bt : Nat → Nat} {tn m t0 : Nat}
/-- the pile's rows, its top first -/
def prow : List Nat → (Nat → Nat → Int32) → Prop
  | [], _ => True
  | x :: r, I => I 135 r.length = nI x ∧ prow r I
theorem prow_fr : ∀ {p : List Nat} {I I' : Nat → Nat → Int32}, prow p I → I' 135 = I 135 → prow p I'
  | [], _, _, _, _ => trivial
  | x :: r, I, I', h, e => ⟨by rw [e]; exact h.1, prow_fr h.2 e⟩
theorem prow_up : ∀ {p : List Nat} {I : Nat → Nat → Int32} {j : Nat} {v : Int32}, prow p I → p.length ≤ j → prow p (up2 I 135 j v)
  | [], _, _, _, _, _ => trivial
  | x :: r, I, j, v, h, e => by
    have e : r.length + 1 ≤ j := e
    exact ⟨by rw [up2_b (by omega)]; exact h.1, prow_up h.2 (by omega)⟩
theorem prow_ix : ∀ {p : List Nat} {I : Nat → Nat → Int32}, prow p I → ∀ i, i < p.length → ∃ x, x ∈ p ∧ I 135 i = nI x
  | [], _, _, i, hi => absurd hi (Nat.not_lt_zero _)
  | x :: r, I, h, i, hi => by
    have hi : i < r.length + 1 := hi
    by_cases e : i = r.length
    · exact ⟨x, List.mem_cons_self, by rw [e]; exact h.1⟩
    · obtain ⟨y, h1, h2⟩ := prow_ix h.2 i (by omega)
      exact ⟨y, List.mem_cons_of_mem _ h1, h2⟩
theorem prow_mem : ∀ {p : List Nat} {I : Nat → Nat → Int32}, prow p I → ∀ x, x ∈ p → ∃ i, i < p.length ∧ I 135 i = nI x
  | [], _, _, x, hx => by cases hx
  | y :: r, I, h, x, hx => by
    rcases List.mem_cons.mp hx with e | e
    · exact ⟨r.length, Nat.lt_succ_self _, by rw [e]; exact h.1⟩
    · obtain ⟨i, h1, h2⟩ := prow_mem h.2 x e
      exact ⟨i, Nat.lt_succ_of_lt h1, h2⟩
/-- within a sum: at token k, the code L, op levels open, the pile p, w: an operand is whole -/
def SS (bt : Nat → Nat) (tn m t0 k : Nat) (L : Cd) (op : Nat) (p : List Nat) (w : Nat) (μ : Me) : Prop := RK bt tn m t0 k L op μ ∧ (μ.1 130 17 = nI p.length ∧ p.length ≤ 80 ∧ (∀ x ∈ p, x ≤ 40) ∧ prow p μ.1) ∧ μ.1 130 19 = nI w
theorem SS.of {k op w : Nat} {L : Cd} {p : List Nat} {I : Nat → Nat → Int32} {lg : Nat → Nat → Int64} (h1 : RK bt tn m t0 k L op (I, lg)) (h2 : I 130 17 = nI p.length) (h3 : p.length ≤ 80) (h4 : ∀ x ∈ p, x ≤ 40) (h5 : prow p I) (h6 : I 130 19 = nI w) : SS bt tn m t0 k L op p w (I, lg) := ⟨h1, ⟨h2, h3, h4, h5⟩, h6⟩
section
variable {k op w : Nat} {L : Cd} {p : List Nat} {μ : Me} {Φ : Me → Prop}
theorem SS.nx {μ' : Me} {k' : Nat} (h : SS bt tn m t0 k L op p w μ) (hn : Nx μ μ') (hk : RK bt tn m t0 k' L op μ') : SS bt tn m t0 k' L op p w μ' := ⟨hk, ⟨(hn.2 17 (by omega)).trans h.2.1.1, h.2.1.2.1, h.2.1.2.2.1, prow_fr h.2.1.2.2.2 (hn.1 135 (by decide))⟩, (hn.2 19 (by omega)).trans h.2.2⟩
theorem s_nxt (h : SS bt tn m t0 k L op p w μ) (hk : kT bt tn k ≠ 21) (K : ∀ μ', RFr t0 μ.1 μ'.1 → SS bt tn m t0 (k + 1) L op p w μ' → Φ μ') : VU N 3 mX12_nextToken [.ref 130] μ Φ :=
  r_nxt h.1 hk (fun μ' q1 q2 => K μ' (RFr.nx q1) (h.nx q1 q2))
theorem s_emit {o v : Nat} (h : SS bt tn m t0 k L op p w μ) (hl : L.length < 300) (ho : o < 65536) (hv : v < 65536) (K : ∀ μ', RFr t0 μ.1 μ'.1 → SS bt tn m t0 k (L ++ [(o, v)]) op p w μ' → Φ μ') : VU N 1 mX12_emit [.ref 130, .int (nI o), .int (nI v)] μ Φ :=
  r_emit h.1 hl ho hv (fun I' q1 q2 q3 q4 => K (I', μ.2) q1 ⟨q2, ⟨(q3 17 (by decide)).trans h.2.1.1, h.2.1.2.1, h.2.1.2.2.1, prow_fr h.2.1.2.2.2 q4⟩, (q3 19 (by decide)).trans h.2.2⟩)
theorem s_push {x : Nat} (h : SS bt tn m t0 k L op p w μ) (hx : x ≤ 40) (hp : p.length < 80) (K : ∀ μ', RFr t0 μ.1 μ'.1 → SS bt tn m t0 k L op (x :: p) w μ' → Φ μ') : VU N 1 mX12_push [.ref 130, .int (nI x)] μ Φ := by
  obtain ⟨h1, ⟨h2, h3, h4, h5⟩, h6⟩ := h
  refine tX12_push_0 ?_
  rw [h2]
  simp (disch := omega) only [lit, Nat.add_sub_cancel, Nat.not_lt_zero, ↓m1_mI, nI_add, pk_mul, nx_and, nx_or, and31, sh_r, sh_1, nx_nand, Nat.and_one_is_mod, nI_clamp, nI_leI, nI_ltI, nI_eq, tb_1, vp_t, up2_a, up2_b, up2_c, br_1, br_0, true_and, and_true, mI_ne, mI_ne', mI_lt, mI_le, mI_nle, mI_nlt, pk_sub, mI_sub]
  refine K _ (RFr.p.tr (RFr.f (by omega))) (SS.of (h1.p.f (μ := (up2 μ.1 135 p.length (nI x), μ.2)) (Or.inl rfl)) up2_c hp ?_ ⟨?_, ?_⟩ ?_)
  · intro y hy
    rcases List.mem_cons.mp hy with e | e
    · omega
    · exact h4 y e
  · rw [up2_a (by decide), up2_c]
  · exact prow_fr (prow_up h5 (Nat.le_refl _)) (up2_ne (by decide))
  · rw [up2_b (by decide), up2_a (by decide)]
    exact h6
/-- the top is taken off -/
theorem SS.pop {x : Nat} (h : SS bt tn m t0 k L op (x :: p) w μ) : SS bt tn m t0 k L op p w (up2 μ.1 130 17 (nI p.length), μ.2) := by
  obtain ⟨h1, ⟨h2, h3, h4, h5⟩, h6⟩ := h
  have h3 : p.length + 1 ≤ 80 := h3
  exact SS.of (h1.f (Or.inl rfl)) up2_c (by omega) (fun y hy => h4 y (List.mem_cons_of_mem _ hy)) (prow_fr h5.2 (up2_ne (by decide))) (by rw [up2_b (by decide)]; exact h6)
theorem SS.sop {op' : Nat} (h : SS bt tn m t0 k L op p w μ) : SS bt tn m t0 k L op' p w (up2 μ.1 130 18 (nI op'), μ.2) :=
  SS.of h.1.op (by rw [up2_b (by decide)]; exact h.2.1.1) h.2.1.2.1 h.2.1.2.2.1 (prow_fr h.2.1.2.2.2 (up2_ne (by decide))) (by rw [up2_b (by decide)]; exact h.2.2)
theorem SS.sw {w' : Nat} (h : SS bt tn m t0 k L op p w μ) : SS bt tn m t0 k L op p w' (up2 μ.1 130 19 (nI w'), μ.2) :=
  SS.of (h.1.f (Or.inr rfl)) (by rw [up2_b (by decide)]; exact h.2.1.1) h.2.1.2.1 h.2.1.2.2.1 (prow_fr h.2.1.2.2.2 (up2_ne (by decide))) up2_c
end
def mn : List Nat → Nat
  | [] => 0
  | x :: r => if x = 2 then mn r + 1 else 0
def st : List Nat → List Nat
  | [] => []
  | x :: r => if x = 2 then st r else x :: r
def mns (n : Nat) : Cd := List.replicate n (2, 0)
theorem s_whole5 {k w : Nat} {Φ : Me → Prop} : ∀ (p : List Nat) (L : Cd) (op : Nat) (μ : Me), SS bt tn m t0 k L op p w μ → mn p ≤ op → op < 100 → L.length + mn p ≤ 300 → (∀ μ', RFr t0 μ.1 μ'.1 → SS bt tn m t0 k (L ++ mns (mn p)) (op - mn p) (st p) w μ' → Φ μ') → VB N 2 mX12_whole 5 [.ref 130] [] μ (fun r μ' => r = none ∧ Φ μ')
  | [], L, op, μ, h, h1, h1b, h2, K => by
    refine tX12_whole_5 ?_
    rw [h.2.1.1]
    simp (disch := omega) only [lit, Nat.add_sub_cancel, Nat.not_lt_zero, ↓m1_mI, nI_add, pk_mul, nx_and, nx_or, and31, sh_r, sh_1, nx_nand, Nat.and_one_is_mod, nI_clamp, nI_leI, nI_ltI, nI_eq, tb_1, vp_t, up2_a, up2_b, up2_c, br_1, br_0, true_and, and_true, mI_ne, mI_ne', mI_lt, mI_le, mI_nle, mI_nlt, pk_sub, mI_sub, List.length_nil, eq_true (Nat.le_refl 0)]
    exact K μ RFr.rf (by rw [show L ++ mns (mn []) = L from List.append_nil L]; exact h)
  | x :: r, L, op, μ, h, h1, h1b, h2, K => by
    have hx := h.2.1.2.2.1 x List.mem_cons_self
    have h80 : r.length + 1 ≤ 80 := h.2.1.2.1
    have hr : μ.1 135 r.length = nI x := h.2.1.2.2.2.1
    have h17 : μ.1 130 17 = nI (r.length + 1) := h.2.1.1
    have h18 := h.1.2.2.2.2.1
    refine tX12_whole_5 ?_
    rw [h17, h18]
    by_cases e : x = 2
    · have e1 : mn (x :: r) = mn r + 1 := if_pos e
      have e2 : st (x :: r) = st r := if_pos e
      rw [e1] at h1 h2 K
      rw [e2] at K
      simp (disch := omega) only [lit, Nat.add_sub_cancel, Nat.not_lt_zero, ↓m1_mI, nI_add, pk_mul, nx_and, nx_or, and31, sh_r, sh_1, nx_nand, Nat.and_one_is_mod, nI_clamp, nI_leI, nI_ltI, nI_eq, tb_1, vp_t, up2_a, up2_b, up2_c, br_1, br_0, true_and, and_true, mI_ne, mI_ne', mI_lt, mI_le, mI_nle, mI_nlt, pk_sub, mI_sub, eq_false (show ¬ r.length + 1 ≤ 0 by omega), hr, eq_true e]
      refine s_emit (o := 2) (v := 0) ((h.pop).sop (op' := op - 1)) (by omega) (by decide) (by decide) (fun μ' q1 q2 => ?_)
      refine s_whole5 r _ _ μ' q2 (by omega) (by omega) (by rw [List.length_append]; show L.length + 1 + _ ≤ _; omega) (fun μ2 q3 q4 => K μ2 ?_ ?_)
      · exact (((RFr.f (Or.inr (Or.inl rfl))).tr (RFr.f (Or.inr (Or.inr (Or.inl rfl))))).tr q1).tr q3
      · have e3 : L ++ [(2, 0)] ++ mns (mn r) = L ++ mns (mn r + 1) := by rw [List.append_assoc]; rfl
        rw [e3] at q4
        rw [show op - (mn r + 1) = op - 1 - mn r by omega]
        exact q4
    · have e1 : mn (x :: r) = 0 := if_neg e
      have e2 : st (x :: r) = x :: r := if_neg e
      rw [e1, e2] at K
      simp (disch := omega) only [lit, Nat.add_sub_cancel, Nat.not_lt_zero, ↓m1_mI, nI_add, pk_mul, nx_and, nx_or, and31, sh_r, sh_1, nx_nand, Nat.and_one_is_mod, nI_clamp, nI_leI, nI_ltI, nI_eq, tb_1, vp_t, up2_a, up2_b, up2_c, br_1, br_0, true_and, and_true, mI_ne, mI_ne', mI_lt, mI_le, mI_nle, mI_nlt, pk_sub, mI_sub, eq_false (show ¬ r.length + 1 ≤ 0 by omega), hr, eq_false e]
      exact K μ RFr.rf (by rw [show L ++ mns 0 = L from List.append_nil L]; exact h)
theorem s_whole {k w op : Nat} {Φ : Me → Prop} {p : List Nat} {L : Cd} {μ : Me} (h : SS bt tn m t0 k L op p w μ) (h1 : mn p ≤ op) (h1b : op < 100) (h2 : L.length + mn p ≤ 300) (K : ∀ μ', RFr t0 μ.1 μ'.1 → SS bt tn m t0 k (L ++ mns (mn p)) (op - mn p) (st p) 1 μ' → Φ μ') : VU N 2 mX12_whole [.ref 130] μ Φ :=
  tX12_whole_0 (s_whole5 p L op _ (h.sw (w' := 1)) h1 h1b h2 (fun μ' q1 q2 => K μ' ((RFr.f (Or.inr (Or.inr (Or.inr rfl)))).tr q1) q2))
theorem s_settle {k w op x : Nat} {Φ : Me → Prop} {r : List Nat} (hx : x ≤ 40) (hr : ∀ h r', r = h :: r' → h < x ∨ h = 40) : ∀ (e : List Nat) (L : Cd) (μ : Me), SS bt tn m t0 k L op (e ++ r) w μ → (∀ y ∈ e, x ≤ y ∧ y < 40) → L.length + e.length ≤ 300 → (∀ μ', RFr t0 μ.1 μ'.1 → SS bt tn m t0 k (L ++ e.map (fun y => (y, 0))) op r w μ' → Φ μ') → VB N 2 mX12_settle 0 [.ref 130, .int (nI x)] [] μ (fun r μ' => r = none ∧ Φ μ')
  | [], L, μ, h, he, hl, K => by
    have K0 : Φ μ := K μ RFr.rf (by rw [show L ++ List.map (fun y => (y, 0)) ([] : List Nat) = L from List.append_nil L]; exact h)
    refine tX12_settle_0 ?_
    match r, h, hr with
    | [], h, hr =>
      have h17 : μ.1 130 17 = nI 0 := h.2.1.1
      rw [h17]
      simp (disch := omega) only [lit, Nat.add_sub_cancel, Nat.not_lt_zero, ↓m1_mI, nI_add, pk_mul, nx_and, nx_or, and31, sh_r, sh_1, nx_nand, Nat.and_one_is_mod, nI_clamp, nI_leI, nI_ltI, nI_eq, tb_1, vp_t, up2_a, up2_b, up2_c, br_1, br_0, true_and, and_true, mI_ne, mI_ne', mI_lt, mI_le, mI_nle, mI_nlt, pk_sub, mI_sub, eq_true (Nat.le_refl 0)]
      exact K0
    | y :: r', h, hr =>
      have h80 : r'.length + 1 ≤ 80 := h.2.1.2.1
      have hrow : μ.1 135 r'.length = nI y := h.2.1.2.2.2.1
      have h17 : μ.1 130 17 = nI (r'.length + 1) := h.2.1.1
      have hy := h.2.1.2.2.1 y List.mem_cons_self
      rw [h17]
      rcases hr y r' rfl with g | g
      · simp (disch := omega) only [lit, Nat.add_sub_cancel, Nat.not_lt_zero, ↓m1_mI, nI_add, pk_mul, nx_and, nx_or, and31, sh_r, sh_1, nx_nand, Nat.and_one_is_mod, nI_clamp, nI_leI, nI_ltI, nI_eq, tb_1, vp_t, up2_a, up2_b, up2_c, br_1, br_0, true_and, and_true, mI_ne, mI_ne', mI_lt, mI_le, mI_nle, mI_nlt, pk_sub, mI_sub, eq_false (show ¬ r'.length + 1 ≤ 0 by omega), hrow, eq_false (show ¬ 40 ≤ y by omega), eq_true g]
        exact K0
      · simp (disch := omega) only [lit, Nat.add_sub_cancel, Nat.not_lt_zero, ↓m1_mI, nI_add, pk_mul, nx_and, nx_or, and31, sh_r, sh_1, nx_nand, Nat.and_one_is_mod, nI_clamp, nI_leI, nI_ltI, nI_eq, tb_1, vp_t, up2_a, up2_b, up2_c, br_1, br_0, true_and, and_true, mI_ne, mI_ne', mI_lt, mI_le, mI_nle, mI_nlt, pk_sub, mI_sub, eq_false (show ¬ r'.length + 1 ≤ 0 by omega), hrow, eq_true (show 40 ≤ y by omega)]
        exact K0
  | y :: e, L, μ, h, he, hl, K => by
    have hy := he y List.mem_cons_self
    have hl : L.length + (e.length + 1) ≤ 300 := hl
    have h80 : (e ++ r).length + 1 ≤ 80 := h.2.1.2.1
    have hrow : μ.1 135 (e ++ r).length = nI y := h.2.1.2.2.2.1
    have h17 : μ.1 130 17 = nI ((e ++ r).length + 1) := h.2.1.1
    refine tX12_settle_0 ?_
    rw [h17]
    simp (disch := omega) only [lit, Nat.add_sub_cancel, Nat.not_lt_zero, ↓m1_mI, nI_add, pk_mul, nx_and, nx_or, and31, sh_r, sh_1, nx_nand, Nat.and_one_is_mod, nI_clamp, nI_leI, nI_ltI, nI_eq, tb_1, vp_t, up2_a, up2_b, up2_c, br_1, br_0, true_and, and_true, mI_ne, mI_ne', mI_lt, mI_le, mI_nle, mI_nlt, pk_sub, mI_sub, eq_false (show ¬ (e ++ r).length + 1 ≤ 0 by omega), hrow, eq_false (show ¬ 40 ≤ y by omega), eq_false (show ¬ y < x by omega)]
    have hp : SS bt tn m t0 k L op (e ++ r) w (up2 μ.1 130 17 (nI (e ++ r).length), μ.2) := SS.pop h
    refine s_emit (o := y) (v := 0) hp (by omega) (by omega) (by decide) (fun μ' q1 q2 => ?_)
    refine s_settle hx hr e _ μ' q2 (fun z hz => he z (List.mem_cons_of_mem _ hz)) (by rw [List.length_append]; show L.length + 1 + _ ≤ _; omega) (fun μ2 q3 q4 => K μ2 (((RFr.f (Or.inr (Or.inl rfl))).tr q1).tr q3) ?_)
    rw [List.append_assoc] at q4
    exact q4
theorem s_hasP {k w op : Nat} {Ψ : Int32 → Me → Prop} {p : List Nat} {L : Cd} {μ : Me} (h : SS bt tn m t0 k L op p w μ) (h1 : 40 ∈ p → Ψ 1 μ) (h0 : ¬ 40 ∈ p → Ψ 0 μ) : VI N 1 mX12_hasParen [.ref 130] μ Ψ := by
  obtain ⟨_, ⟨h2, h3, h4, h5⟩, _⟩ := h
  have loop : ∀ n i, p.length - i = n → i ≤ p.length → (∀ j, j < i → μ.1 135 j ≠ nI 40) → VB N 1 mX12_hasParen 2 [.ref 130, .int (nI i)] [] μ (fun r μ' => ∃ v, r = some (.int v) ∧ Ψ v μ') := by
    intro n
    induction n with
    | zero =>
      intro i hn hi hj
      refine tX12_hasParen_2 ?_
      rw [h2]
      simp (disch := omega) only [lit, Nat.add_sub_cancel, Nat.not_lt_zero, ↓m1_mI, nI_add, pk_mul, nx_and, nx_or, and31, sh_r, sh_1, nx_nand, Nat.and_one_is_mod, nI_clamp, nI_leI, nI_ltI, nI_eq, tb_1, vp_t, up2_a, up2_b, up2_c, br_1, br_0, true_and, and_true, mI_ne, mI_ne', mI_lt, mI_le, mI_nle, mI_nlt, pk_sub, mI_sub, eq_true (show p.length ≤ i by omega)]
      refine ⟨_, rfl, h0 (fun q => ?_)⟩
      obtain ⟨j, j1, j2⟩ := prow_mem h5 40 q
      exact hj j (by omega) j2
    | succ n ih =>
      intro i hn hi hj
      obtain ⟨x, x1, x2⟩ := prow_ix h5 i (by omega)
      have hx := h4 x x1
      refine tX12_hasParen_2 ?_
      rw [h2]
      simp (disch := omega) only [lit, Nat.add_sub_cancel, Nat.not_lt_zero, ↓m1_mI, nI_add, pk_mul, nx_and, nx_or, and31, sh_r, sh_1, nx_nand, Nat.and_one_is_mod, nI_clamp, nI_leI, nI_ltI, nI_eq, tb_1, vp_t, up2_a, up2_b, up2_c, br_1, br_0, true_and, and_true, mI_ne, mI_ne', mI_lt, mI_le, mI_nle, mI_nlt, pk_sub, mI_sub, eq_false (show ¬ p.length ≤ i by omega), x2]
      refine ⟨fun q => ⟨_, rfl, h1 (q ▸ x1)⟩, fun q => ih (i + 1) (by omega) (by omega) (fun j hj1 e => ?_)⟩
      by_cases ej : j = i
      · subst ej
        rw [x2] at e
        exact q (nI_inj e (by omega) (by decide))
      · exact hj j (by omega) e
  exact tX12_hasParen_0 (loop _ 0 rfl (by omega) (fun j hj => absurd hj (by omega)))
end RU
