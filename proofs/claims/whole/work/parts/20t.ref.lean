/-! the reference's reader: where it stands -/
section RTT
variable {N : Nat} {bt : Nat → Nat} {tn m t0 : Nat}
/-- the code that it has written -/
def RLt (t0 : Nat) (L : Cd) (I : Nat → Nat → Int32) : Prop := L.length ≤ 300 ∧ I 130 14 = nI L.length ∧ (∀ i, i < L.length → I 133 (t0 + 150 + 2 * i) = nI (itm L i).1 ∧ I 133 (t0 + 150 + 2 * i + 1) = nI (itm L i).2) ∧ ∀ j, ∃ n, n < 65536 ∧ I 133 j = nI n
def RK (bt : Nat → Nat) (tn m t0 k : Nat) (L : Cd) (op : Nat) (μ : Me) : Prop := rTp bt tn μ.1 ∧ RT bt tn (tS bt tn k) μ ∧ (m ≤ 300 ∧ tS bt tn m = tn ∧ k ≤ m ∧ tS bt tn k ≤ tn) ∧ (t0 ≤ 2250 ∧ μ.1 130 12 = nI t0) ∧ μ.1 130 18 = nI op ∧ RLt t0 L μ.1
/-- a fault at token k -/
def RB (bt : Nat → Nat) (tn k : Nat) (μ : Me) : Prop := rTp bt tn μ.1 ∧ μ.1 130 8 = nI (tS bt tn k) ∧ ∀ j, ∃ n, n < 65536 ∧ μ.1 133 j = nI n
def RFr (t0 : Nat) (I I' : Nat → Nat → Int32) : Prop := (∀ c, c ≠ 130 → c ≠ 133 → c ≠ 135 → I' c = I c) ∧ (∀ b, (b < 7 ∨ b = 11 ∨ b = 12 ∨ b = 13 ∨ b = 15 ∨ b = 16 ∨ 20 ≤ b) → I' 130 b = I 130 b) ∧ ∀ j, (j < t0 + 150 ∨ t0 + 750 ≤ j) → I' 133 j = I 133 j
theorem RFr.rf {I : Nat → Nat → Int32} : RFr t0 I I := ⟨fun _ _ _ _ => rfl, fun _ _ => rfl, fun _ _ => rfl⟩
theorem RFr.tr {I I1 I2 : Nat → Nat → Int32} (h : RFr t0 I I1) (h2 : RFr t0 I1 I2) : RFr t0 I I2 := ⟨fun c a1 a2 a3 => (h2.1 c a1 a2 a3).trans (h.1 c a1 a2 a3), fun b a1 => (h2.2.1 b a1).trans (h.2.1 b a1), fun j a1 => (h2.2.2 j a1).trans (h.2.2 j a1)⟩
theorem RFr.nx {μ μ' : Me} (h : Nx μ μ') : RFr t0 μ.1 μ'.1 := ⟨fun c a1 _ _ => h.1 c a1, fun b a1 => h.2 b (by omega), fun j _ => by rw [h.1 133 (by decide)]⟩
theorem RFr.f {I : Nat → Nat → Int32} {p : Nat} {v : Int32} (h : p = 14 ∨ p = 17 ∨ p = 18 ∨ p = 19) : RFr t0 I (up2 I 130 p v) := ⟨fun c a1 _ _ => up2_ne a1, fun b a1 => up2_b (by omega), fun j _ => up2_a (by decide)⟩
theorem RFr.p {I : Nat → Nat → Int32} {p : Nat} {v : Int32} : RFr t0 I (up2 I 135 p v) := ⟨fun c _ _ a3 => up2_ne a3, fun b _ => up2_a (by decide), fun j _ => up2_a (by decide)⟩
theorem RK.rb {k op : Nat} {L : Cd} {μ : Me} (h : RK bt tn m t0 k L op μ) : RB bt tn k μ := ⟨h.1, h.2.1.1, h.2.2.2.2.2.2.2.2⟩
/-- fields that don't matter to it -/
theorem RK.f {k op : Nat} {L : Cd} {μ : Me} {p : Nat} {v : Int32} (h : RK bt tn m t0 k L op μ) (hp : p = 17 ∨ p = 19) : RK bt tn m t0 k L op (up2 μ.1 130 p v, μ.2) := by
  obtain ⟨h1, h2, h3, h4, h5, h6⟩ := h
  refine ⟨?_, ?_, h3, ⟨h4.1, ?_⟩, ?_, ?_⟩
  · show rTp bt tn (up2 μ.1 130 p v)
    exact h1.fr (up2_b (show (4 : Nat) ≠ p by omega)) (up2_ne (show (134 : Nat) ≠ 130 by decide))
  · unfold RT at *
    simp (disch := omega) only [up2_b]
    exact h2
  · show up2 μ.1 130 p v 130 12 = _
    rw [up2_b (by omega)]; exact h4.2
  · show up2 μ.1 130 p v 130 18 = _
    rw [up2_b (by omega)]; exact h5
  · unfold RLt at *
    simp (disch := omega) only [up2_b, up2_a]
    exact h6
theorem RK.op {k op : Nat} {L : Cd} {μ : Me} {op' : Nat} (h : RK bt tn m t0 k L op μ) : RK bt tn m t0 k L op' (up2 μ.1 130 18 (nI op'), μ.2) := by
  obtain ⟨h1, h2, h3, h4, h5, h6⟩ := h
  refine ⟨?_, ?_, h3, ⟨h4.1, ?_⟩, ?_, ?_⟩
  · show rTp bt tn (up2 μ.1 130 18 (nI op'))
    exact h1.fr (up2_b (show (4 : Nat) ≠ 18 by decide)) (up2_ne (show (134 : Nat) ≠ 130 by decide))
  · unfold RT at *
    simp (disch := omega) only [up2_b]
    exact h2
  · show up2 μ.1 130 18 (nI op') 130 12 = _
    rw [up2_b (by decide)]; exact h4.2
  · show up2 μ.1 130 18 (nI op') 130 18 = _
    exact up2_c
  · unfold RLt at *
    simp (disch := omega) only [up2_b, up2_a]
    exact h6
theorem RK.p {k op : Nat} {L : Cd} {μ : Me} {p : Nat} {v : Int32} (h : RK bt tn m t0 k L op μ) : RK bt tn m t0 k L op (up2 μ.1 135 p v, μ.2) := by
  obtain ⟨h1, h2, h3, h4, h5, h6⟩ := h
  refine ⟨?_, ?_, h3, ⟨h4.1, ?_⟩, ?_, ?_⟩
  · show rTp bt tn (up2 μ.1 135 p v)
    exact h1.fr (up2_a (show (130 : Nat) ≠ 135 by decide)) (up2_ne (show (134 : Nat) ≠ 135 by decide))
  · unfold RT at *
    simp (disch := omega) only [up2_a]
    exact h2
  · show up2 μ.1 135 p v 130 12 = _
    rw [up2_a (by decide)]; exact h4.2
  · show up2 μ.1 135 p v 130 18 = _
    rw [up2_a (by decide)]; exact h5
  · unfold RLt at *
    simp (disch := omega) only [up2_a]
    exact h6
theorem rk_lt {k op : Nat} {L : Cd} {μ : Me} (h : RK bt tn m t0 k L op μ) (hk : kT bt tn k ≠ 21) : tS bt tn k < tn ∧ k < m := by
  have hs : tS bt tn k < tn := by
    apply Classical.byContradiction
    intro g
    apply hk
    unfold kT tT
    rw [if_neg g]
  refine ⟨hs, ?_⟩
  have h3 := h.2.2.1
  apply Classical.byContradiction
  intro g
  have : k = m := by omega
  rw [this, h3.2.1] at hs
  omega
theorem r_nxt {k op : Nat} {L : Cd} {μ : Me} {Φ : Me → Prop} (h : RK bt tn m t0 k L op μ) (hk : kT bt tn k ≠ 21) (K : ∀ μ', Nx μ μ' → RK bt tn m t0 (k + 1) L op μ' → Φ μ') : VU N 3 mX12_nextToken [.ref 130] μ Φ := by
  have ⟨hs, hkm⟩ := rk_lt h hk
  obtain ⟨h1, h2, h3, h4, h5, h6⟩ := h
  have ⟨t1, t2⟩ := tE_le (bt := bt) hs
  have h7 := h2.2.1
  rw [if_pos hs] at h7
  refine r_next _ (tE bt tn (tS bt tn k)) μ rfl t2 h1 h7 (fun μ' q1 q2 => K μ' q1 ⟨h1.nx q1, q2, ⟨h3.1, h3.2.1, hkm, (rn_le _ _ rfl t2).2⟩, ⟨h4.1, (q1.2 12 (by omega)).trans h4.2⟩, (q1.2 18 (by omega)).trans h5, ?_⟩)
  unfold RLt at *
  rw [q1.1 133 (by decide), q1.2 14 (by omega)]
  exact h6
theorem RK.em {k op o v : Nat} {L : Cd} {μ : Me} {J : Nat → Nat → Int32} (h : RK bt tn m t0 k L op μ) (hl : L.length < 300) (ho : o < 65536) (hv : v < 65536) (e : ∀ b, b ≠ 14 → J 130 b = μ.1 130 b) (e14 : J 130 14 = nI (L.length + 1)) (e4 : J 134 = μ.1 134) (e3 : ∀ j, J 133 j = (if j = t0 + 150 + 2 * L.length + 1 then nI v else if j = t0 + 150 + 2 * L.length then nI o else μ.1 133 j)) : RK bt tn m t0 k (L ++ [(o, v)]) op (J, μ.2) := by
  obtain ⟨h1, h2, h3, h4, h5, h6, h7, h8, h9⟩ := h
  refine ⟨?_, ?_, h3, ⟨h4.1, ?_⟩, ?_, ?_, ?_, ?_, ?_⟩
  · show rTp bt tn J
    exact h1.fr (e 4 (by decide)) e4
  · unfold RT at *
    dsimp only
    rw [e 8 (by decide), e 7 (by decide), e 9 (by decide), e 10 (by decide)]
    exact h2
  · show J 130 12 = _
    rw [e 12 (by decide)]; exact h4.2
  · show J 130 18 = _
    rw [e 18 (by decide)]; exact h5
  · rw [List.length_append]; exact hl
  · rw [List.length_append]; exact e14
  · intro i hi
    rw [List.length_append] at hi
    have hi : i < L.length + 1 := hi
    show J 133 _ = _ ∧ J 133 _ = _
    rw [e3, e3]
    by_cases g : i = L.length
    · subst g
      rw [if_neg (by omega), if_pos rfl, if_pos rfl, itm_eq]
      exact ⟨rfl, rfl⟩
    · rw [if_neg (by omega), if_neg (by omega), if_neg (by omega), if_neg (by omega), itm_lt (by omega)]
      exact h8 i (by omega)
  · intro j
    show ∃ n, n < 65536 ∧ J 133 j = nI n
    rw [e3]
    split
    · exact ⟨v, hv, rfl⟩
    · split
      · exact ⟨o, ho, rfl⟩
      · exact h9 j
theorem r_emit {k op o v : Nat} {L : Cd} {μ : Me} {Φ : Me → Prop} (h : RK bt tn m t0 k L op μ) (hl : L.length < 300) (ho : o < 65536) (hv : v < 65536) (K : ∀ I', RFr t0 μ.1 I' → RK bt tn m t0 k (L ++ [(o, v)]) op (I', μ.2) → (∀ b, b ≠ 14 → I' 130 b = μ.1 130 b) → I' 135 = μ.1 135 → Φ (I', μ.2)) : VU N 1 mX12_emit [.ref 130, .int (nI o), .int (nI v)] μ Φ := by
  have ht := h.2.2.2.1.1
  have h12 := h.2.2.2.1.2
  have h14 := h.2.2.2.2.2.2.1
  refine tX12_emit_0 ?_
  rw [h12, h14]
  simp (disch := omega) only [lit, Nat.add_sub_cancel, Nat.not_lt_zero, ↓m1_mI, nI_add, pk_mul, nx_and, nx_or, and31, sh_r, sh_1, nx_nand, Nat.and_one_is_mod, nI_clamp, nI_leI, nI_ltI, nI_eq, tb_1, vp_t, up2_a, up2_b, up2_c, br_1, br_0, true_and, and_true, mI_ne, mI_ne', mI_lt, mI_le, mI_nle, mI_nlt, pk_sub, mI_sub]
  have e : ∀ b, b ≠ 14 → (up2 (up2 (up2 μ.1 133 (t0 + 150 + 2 * L.length) (nI o)) 133 (t0 + 150 + 2 * L.length + 1) (nI v)) 130 14 (nI (L.length + 1))) 130 b = μ.1 130 b := fun b hb => by rw [up2_b hb, up2_a (by decide), up2_a (by decide)]
  have e3 : ∀ j, (up2 (up2 (up2 μ.1 133 (t0 + 150 + 2 * L.length) (nI o)) 133 (t0 + 150 + 2 * L.length + 1) (nI v)) 130 14 (nI (L.length + 1))) 133 j = (if j = t0 + 150 + 2 * L.length + 1 then nI v else if j = t0 + 150 + 2 * L.length then nI o else μ.1 133 j) := by
    intro j
    rw [up2_a (by decide)]
    by_cases e1 : j = t0 + 150 + 2 * L.length + 1
    · rw [if_pos e1, e1, up2_c]
    · rw [if_neg e1, up2_b e1]
      by_cases e2 : j = t0 + 150 + 2 * L.length
      · rw [if_pos e2, e2, up2_c]
      · rw [if_neg e2, up2_b e2]
  exact K _ ⟨fun c a1 a2 a3 => by rw [up2_ne a1, up2_ne a2, up2_ne a2], fun b a1 => e b (by omega), fun j a1 => by rw [e3, if_neg (by omega), if_neg (by omega)]⟩ (h.em hl ho hv e up2_c (by rw [up2_ne (by decide), up2_ne (by decide), up2_ne (by decide)]) e3) e (by rw [up2_ne (by decide), up2_ne (by decide), up2_ne (by decide)])
theorem rk_num {k op : Nat} {L : Cd} {μ : Me} (h : RK bt tn m t0 k L op μ) (hk : kT bt tn k = 20) : ∃ n, μ.1 130 10 = nI n ∧ n < 1100000 ∧ min n 10000 = kV bt tn k := by
  have hb := h.1.2.2.2
  have ht := h.1.2.2.1
  rcases tok_cases (s := tS bt tn k) hb with g | g | g | g | g | g | g
  · exact absurd hk (by unfold kT; omega)
  · have ⟨t1, t2⟩ := tE_le (bt := bt) g.1
    refine ⟨_, h.2.1.2.2.2.1 g.1 g.2.1, numR_lt _ _ _ (by decide) (fun j j1 j2 => hb j (by omega)), ?_⟩
    unfold kV tVa
    rw [if_pos g.2.1]
    refine numR_C _ _ _ _ rfl (fun j j1 j2 => ?_)
    have e := (tE_D (tn := tn) g.2.1).1
    have q : tkD (bt j) = true := by
      by_cases e1 : j = tS bt tn k
      · rw [e1]; exact g.2.1
      · exact rn_all (p := tkD) _ (tS bt tn k + 1) rfl j (by omega) (by rw [← e]; omega)
    unfold tkD at q
    have : 48 ≤ bt j ∧ bt j ≤ 57 := by simpa using q
    exact this.1
  all_goals exact absurd hk (by unfold kT; omega)
/-- the reference's token and the class's -/
theorem rk_tok {k op : Nat} {L : Cd} {μ : Me} (h : RK bt tn m t0 k L op μ) : μ.1 130 9 = nI (rTok bt tn (tS bt tn k)) ∧ rTok bt tn (tS bt tn k) < 132 := ⟨h.2.1.2.2.1, (tT_lt h.1.2.2.2).2⟩
end RTT
