/-! end, feed, fault, image, back -/
section SG
variable {N : Nat} {μ : Me} {B B' R T tp tp' : Nat → Nat} {tn tn' : Nat} {ft fp : Int32} {I I1 I' : Nat → Nat → Int32}
theorem IV.tape (hw : WS B B' R tp tn) (hc : CS B B' R tp tn ft fp I) (hr : RS B B' R tp tn ft fp I) (ht : tn' ≤ 300) (hp : ∀ j, j < tn' → tp' j < 256) (h1 : ∀ a, a ≠ 52 → a ≠ 53 → I1 a = I a) (k1 : I1 52 0 = nI tn') (k2 : ∀ j, j < tn' → I1 53 j = nI (tp' j)) (h2 : ∀ a, a ≠ 130 → a ≠ 134 → I' a = I1 a) (k3 : I' 130 4 = nI tn') (k4 : ∀ j, j < tn' → I' 134 j = nI (tp' j)) (k5 : I' 130 5 = I 130 5) (k6 : I' 130 6 = I 130 6) : IV I' := by
  obtain ⟨w1, w2, w3, w4, w5, w6, w7⟩ := hw
  obtain ⟨c1, c2, c3, c4⟩ := hc
  obtain ⟨r1, r2, r3, r4⟩ := hr
  have hn := w1.n
  have e : ∀ a, a ≠ 52 → a ≠ 53 → a ≠ 130 → a ≠ 134 → I' a = I a := fun a n1 n2 n3 n4 => (h2 a n3 n4).trans (h1 a n1 n2)
  refine ⟨B, B', R, tp', tn', ft, fp, ⟨w1, w2, w3, w4, w5, ht, hp⟩, ⟨c1.fr (fun a k1 k2 => e a (by omega) (by omega) (by omega) (by omega)), c2.fr (fun a k1 k2 => e a (by omega) (by omega) (by omega) (by omega)), ?_, ?_, fun j hj => ?_, ?_⟩, ?_, ?_, ?_, k3, k4, ?_, ?_⟩
  · refine ⟨fun t h => (c3.1 t h).fr (fun a k1 k2 => e a (by omega) (by omega) (by omega) (by omega)), c3.2.1.fr (fun a k1 k2 => e a (by omega) (by omega) (by omega) (by omega)), fun b hb => by rw [e 78 (by decide) (by decide) (by decide) (by decide)]; exact c3.2.2 b hb⟩
  · rw [h2 52 (by decide) (by decide)]; exact k1
  · rw [h2 53 (by decide) (by decide)]; exact k2 j hj
  · rw [e 51 (by decide) (by decide) (by decide) (by decide)]; exact c4.2.2
  · rw [e 131 (by decide) (by decide) (by decide) (by decide)]; exact r1
  · rw [e 132 (by decide) (by decide) (by decide) (by decide)]; exact r2
  · rw [e 133 (by decide) (by decide) (by decide) (by decide)]; exact r3
  · rw [k5]; exact r4.2.2.1
  · rw [k6]; exact r4.2.2.2
theorem k_end {x1 : Int32} {Φ : Int32 → Int32 → Me → Prop} (h : IV μ.1) (K : ∀ v (μ' : Me), IV μ'.1 → μ'.1 0 = μ.1 0 → Φ v v μ') : VI N 1 mX11_end [.ref 2, .int x1] μ (fun v μ1 => μ1.1 0 = μ.1 0 ∧ VI N 2 mX12_end [.ref 130, .int x1] μ1 (fun v' μ2 => Φ v v' μ2)) := by
  have h' := h
  obtain ⟨B, B', R, tp, tn, ft, fp, hw, hc, hr⟩ := h
  have c52 := hc.2.2.2.1
  have r4 := hr.2.2.2.1
  have ht : tn ≤ 300 := hw.2.2.2.2.2.1
  have K0 : ¬ rgI 0 tn x1 → μ.1 0 = μ.1 0 ∧ VI N 2 mX12_end [.ref 130, .int x1] μ (fun v' μ2 => Φ (-1) v' μ2) := by
    intro g
    try refine And.intro (by first | rfl | exact hA 0 (by decide) | exact b3 0 (by decide) | exact b2 0 (by decide) | exact a1 0 (by decide) | exact a1 0 (by omega) | exact a3 0 (by decide) (by decide) | simp (disch := omega) only [up2_ne]) ?_
    refine tX12_end_0 ?_
    rw [r4]
    exact vi_b (fun Ψ => r_in 0 tn (by decide) (by omega)) (fun g' => absurd g' g) (fun _ => ⟨_, rfl, K _ _ h' rfl⟩)
  refine tX11_end_0 ?_
  rw [c52]
  refine ⟨fun e => ⟨_, rfl, K0 (rg_lt (lo := 0) (by decide) (by omega) e)⟩, fun e1 => ⟨fun e2 => ⟨_, rfl, ?_⟩, fun e2 => ⟨_, rfl, K0 (rg_gt (lo := 0) (by decide) (by omega) (i_nle.mp e2))⟩⟩⟩
  obtain ⟨n, hn, rfl⟩ := rng (by omega) e1 e2
  try refine And.intro (by first | rfl | exact hA 0 (by decide) | exact b3 0 (by decide) | exact b2 0 (by decide) | exact a1 0 (by decide) | exact a1 0 (by omega) | exact a3 0 (by decide) (by decide) | simp (disch := omega) only [up2_ne]) ?_
  refine tX12_end_0 ?_
  have e3 : up2 μ.1 52 0 (nI n) 130 4 = nI tn := by rw [up2_a (by decide)]; exact r4
  show VI N 1 mX12_isIn [.int (nI n), .int 0, .int (up2 μ.1 52 0 (nI n) 130 4)] _ _
  rw [e3]
  refine vi_b (fun Ψ => r_in 0 tn (by decide) (by omega)) (fun _ => ⟨_, rfl, K _ _ ?_ ?_⟩) (fun g => absurd ⟨n, by omega, hn, rfl⟩ g)
  · refine IV.tape (tn' := n) (tp' := tp) (I1 := up2 μ.1 52 0 (nI n)) hw hc hr (by omega) (fun j hj => hw.2.2.2.2.2.2 j (by omega)) (fun a h1 h2 => up2_ne h1) up2_c (fun j hj => ?_) (fun a h1 h2 => up2_ne h1) (by simp only [up2_c]) (fun j hj => ?_) ?_ ?_
    · rw [up2_a (by decide)]; exact hc.2.2.2.2.1 j (by omega)
    · simp (disch := omega) only [up2_a]
      exact hr.2.2.2.2.1 j (by omega)
    · simp (disch := omega) only [up2_a, up2_b]
    · simp (disch := omega) only [up2_a, up2_b]
  · simp (disch := omega) only [up2_ne]
/-! feed -/
def bb (x y : Int32) : Nat := (x >>> (y &&& 31)).toBitVec.toNat % 256
theorem bb_eq (x y : Int32) : (x >>> (y &&& 31)) &&& 255 = nI (bb x y) := pk_and _ 8 (by decide)
theorem rowT_up {c n b : Nat} (h : ∀ j, j < n → I c j = nI (tp j)) : ∀ j, j < n + 1 → up2 I c n (nI b) c j = nI (ub tp n b j) := by
  intro j hj
  by_cases e : j = n
  · subst e; rw [up2_c, ub_e]
  · rw [up2_b e, ub_n e]; exact h j (by omega)
theorem ub_256 {n b : Nat} (h : ∀ j, j < n → tp j < 256) (hb : b < 256) : ∀ j, j < n + 1 → ub tp n b j < 256 := by
  intro j hj
  unfold ub
  split
  · exact hb
  · exact h j (by omega)
def f4 (tp : Nat → Nat) (n : Nat) (x : Int32) : Nat → Nat := ub (ub (ub (ub tp n (bb x 24)) (n + 1) (bb x (24 + -8))) (n + 2) (bb x (24 + -8 + -8))) (n + 3) (bb x (24 + -8 + -8 + -8))
theorem f4_256 {n : Nat} {x : Int32} (h : ∀ j, j < n → tp j < 256) : ∀ j, j < n + 4 → f4 tp n x j < 256 := by
  have hb : ∀ x y, bb x y < 256 := fun x y => Nat.mod_lt _ (by decide)
  exact ub_256 (ub_256 (ub_256 (ub_256 h (hb _ _)) (hb _ _)) (hb _ _)) (hb _ _)
theorem c_put1 {n : Nat} {x x2 : Int32} {Ψ : Option Value → Me → Prop} (hx : ¬ x2 < 0) (h52 : μ.1 52 0 = nI n) (hp : ∀ j, j < n → μ.1 53 j = nI (tp j)) (hn : n < 300) (K : ∀ μ' : Me, Ag [52, 53] μ.1 μ'.1 → μ'.1 52 0 = nI (n + 1) → (∀ j, j < n + 1 → μ'.1 53 j = nI (ub tp n (bb x x2) j)) → VB N 1 mX10_put 3 [.ref 52, .int x, .int (x2 + -8)] [] μ' Ψ) : VB N 1 mX10_put 3 [.ref 52, .int x, .int x2] [] μ Ψ := by
  refine tX10_put_3 ⟨fun e => absurd e hx, fun _ => ?_⟩
  rw [h52, bb_eq]
  refine ⟨fun e => absurd e (nI_pos (by omega)), fun _ => ⟨fun e => absurd e (nI_ge (b := 300) hn (by decide)), fun _ => ⟨vp_in_nI hn (by decide), ?_⟩⟩⟩
  rw [nI_clamp (by omega), nI_1]
  refine K _ ?_ (by simp only [up2_c]) (fun j hj => ?_)
  · repeat (first | refine Ag.up ?_ (by decide) | exact Ag.rf)
  · simp (disch := omega) only [up2_a]
    exact rowT_up hp j hj
theorem c_put {n : Nat} {x : Int32} {Ψ : Me → Prop} (h52 : μ.1 52 0 = nI n) (hp : ∀ j, j < n → μ.1 53 j = nI (tp j)) (hn : n + 4 ≤ 300) (K : ∀ μ' : Me, Ag [52, 53] μ.1 μ'.1 → μ'.1 52 0 = nI (n + 4) → (∀ j, j < n + 4 → μ'.1 53 j = nI (f4 tp n x j)) → Ψ μ') : VU N 1 mX10_put [.ref 52, .int x] μ Ψ := by
  refine tX10_put_0 ?_
  refine c_put1 (by decide) h52 hp (by omega) (fun μ1 a1 b1 d1 => ?_)
  refine c_put1 (by decide) b1 d1 (by omega) (fun μ2 a2 b2 d2 => ?_)
  refine c_put1 (by decide) b2 d2 (by omega) (fun μ3 a3 b3 d3 => ?_)
  refine c_put1 (by decide) b3 d3 (by omega) (fun μ4 a4 b4 d4 => ?_)
  refine tX10_put_3 ⟨fun _ => ⟨rfl, K _ (((a1.tr a2).tr a3).tr a4) b4 d4⟩, fun e => absurd (by decide) e⟩
theorem r_four1 {n : Nat} {x x2 : Int32} {Ψ : Option Value → Me → Prop} (hx : ¬ x2 < 0) (h52 : μ.1 130 4 = nI n) (hp : ∀ j, j < n → μ.1 134 j = nI (tp j)) (hn : n < 300) (K : ∀ μ' : Me, (∀ a, a ≠ 130 → a ≠ 134 → μ'.1 a = μ.1 a) → (∀ b, b ≠ 4 → μ'.1 130 b = μ.1 130 b) → μ'.1 130 4 = nI (n + 1) → (∀ j, j < n + 1 → μ'.1 134 j = nI (ub tp n (bb x x2) j)) → VB N 1 mX12_four 3 [.ref 130, .int x, .int (x2 + -8)] [] μ' Ψ) : VB N 1 mX12_four 3 [.ref 130, .int x, .int x2] [] μ Ψ := by
  refine tX12_four_3 ⟨fun e => absurd e hx, fun _ => ?_⟩
  rw [h52, bb_eq]
  refine ⟨vp_in_nI hn (by decide), ?_⟩
  rw [nI_clamp (by omega), nI_1]
  refine K _ (fun a h1 h2 => ?_) (fun b hb => ?_) (by simp only [up2_c]) (fun j hj => ?_)
  · simp only [up2_ne h1, up2_ne h2]
  · simp (disch := omega) only [up2_b hb, up2_a]
  · simp (disch := omega) only [up2_a]
    exact rowT_up hp j hj
theorem r_four {n : Nat} {x : Int32} {Ψ : Me → Prop} (h52 : μ.1 130 4 = nI n) (hp : ∀ j, j < n → μ.1 134 j = nI (tp j)) (hn : n + 4 ≤ 300) (K : ∀ μ' : Me, (∀ a, a ≠ 130 → a ≠ 134 → μ'.1 a = μ.1 a) → (∀ b, b ≠ 4 → μ'.1 130 b = μ.1 130 b) → μ'.1 130 4 = nI (n + 4) → (∀ j, j < n + 4 → μ'.1 134 j = nI (f4 tp n x j)) → Ψ μ') : VU N 1 mX12_four [.ref 130, .int x] μ Ψ := by
  refine tX12_four_0 ?_
  refine r_four1 (by decide) h52 hp (by omega) (fun μ1 a1 z1 b1 d1 => ?_)
  refine r_four1 (by decide) b1 d1 (by omega) (fun μ2 a2 z2 b2 d2 => ?_)
  refine r_four1 (by decide) b2 d2 (by omega) (fun μ3 a3 z3 b3 d3 => ?_)
  refine r_four1 (by decide) b3 d3 (by omega) (fun μ4 a4 z4 b4 d4 => ?_)
  refine tX12_four_3 ⟨fun _ => ⟨rfl, K _ (fun a h1 h2 => by rw [a4 a h1 h2, a3 a h1 h2, a2 a h1 h2, a1 a h1 h2]) (fun b hb => by rw [z4 b hb, z3 b hb, z2 b hb, z1 b hb]) b4 d4⟩, fun e => absurd (by decide) e⟩
theorem k_feed {x1 x2 x3 x4 x5 : Int32} {Φ : Int32 → Int32 → Me → Prop} (h : IV μ.1) (K : ∀ v (μ' : Me), IV μ'.1 → μ'.1 0 = μ.1 0 → Φ v v μ') : VI N 2 mX11_feed [.ref 2, .int x1, .int x2, .int x3, .int x4, .int x5] μ (fun v μ1 => μ1.1 0 = μ.1 0 ∧ VI N 2 mX12_feed [.ref 130, .int x1, .int x2, .int x3, .int x4, .int x5] μ1 (fun v' μ2 => Φ v v' μ2)) := by
  have h' := h
  obtain ⟨B, B', R, tp, tn, ft, fp, hw, hc, hr⟩ := h
  have c52 := hc.2.2.2.1
  have r4 := hr.2.2.2.1
  have ht : tn ≤ 300 := hw.2.2.2.2.2.1
  refine tX11_feed_0 ?_
  by_cases e : tn + 20 ≤ 300
  · simp (disch := omega) only [lit, Nat.add_sub_cancel, Nat.not_lt_zero, ↓m1_mI, nI_add, pk_mul, nx_and, nx_or, and31, sh_r, sh_1, nx_nand, Nat.and_one_is_mod, nI_clamp, nI_leI, nI_ltI, nI_eq, tb_1, vp_t, up2_a, up2_b, up2_c, br_1, br_0, true_and, and_true, mI_ne, mI_ne', mI_lt, mI_le, mI_nle, mI_nlt, pk_sub, mI_sub, c52, eq_true e]
    refine c_put c52 hc.2.2.2.2.1 (by omega) (fun μ1 a1 b1 d1 => ?_)
    refine c_put b1 d1 (by omega) (fun μ2 a2 b2 d2 => ?_)
    refine c_put b2 d2 (by omega) (fun μ3 a3 b3 d3 => ?_)
    refine c_put b3 d3 (by omega) (fun μ4 a4 b4 d4 => ?_)
    refine c_put b4 d4 (by omega) (fun μ5 a5 b5 d5 => ⟨_, rfl, ?_⟩)
    have hA := (((a1.tr a2).tr a3).tr a4).tr a5
    have q4 : μ5.1 130 4 = nI tn := by rw [hA 130 (by decide)]; exact r4
    have qt : ∀ j, j < tn → μ5.1 134 j = nI (tp j) := by rw [hA 134 (by decide)]; exact hr.2.2.2.2.1
    try refine And.intro (by first | rfl | exact hA 0 (by decide) | exact b3 0 (by decide) | exact b2 0 (by decide) | exact a1 0 (by decide) | exact a1 0 (by omega) | exact a3 0 (by decide) (by decide) | simp (disch := omega) only [up2_ne]) ?_
    refine tX12_feed_0 ?_
    simp (disch := omega) only [lit, Nat.add_sub_cancel, Nat.not_lt_zero, ↓m1_mI, nI_add, pk_mul, nx_and, nx_or, and31, sh_r, sh_1, nx_nand, Nat.and_one_is_mod, nI_clamp, nI_leI, nI_ltI, nI_eq, tb_1, vp_t, up2_a, up2_b, up2_c, br_1, br_0, true_and, and_true, mI_ne, mI_ne', mI_lt, mI_le, mI_nle, mI_nlt, pk_sub, mI_sub, q4, eq_true e]
    refine r_four q4 qt (by omega) (fun ν1 s1 z1 t1 u1 => ?_)
    refine r_four t1 u1 (by omega) (fun ν2 s2 z2 t2 u2 => ?_)
    refine r_four t2 u2 (by omega) (fun ν3 s3 z3 t3 u3 => ?_)
    refine r_four t3 u3 (by omega) (fun ν4 s4 z4 t4 u4 => ?_)
    refine r_four t4 u4 (by omega) (fun ν5 s5 z5 t5 u5 => ⟨_, rfl, ?_⟩)
    rw [b5, t5]
    have hz : ∀ b, b ≠ 4 → ν5.1 130 b = μ.1 130 b := fun b hb => by rw [z5 b hb, z4 b hb, z3 b hb, z2 b hb, z1 b hb, hA 130 (by decide)]
    have hs : ∀ a, a ≠ 130 → a ≠ 134 → ν5.1 a = μ5.1 a := fun a h1 h2 => by rw [s5 a h1 h2, s4 a h1 h2, s3 a h1 h2, s2 a h1 h2, s1 a h1 h2]
    refine K _ _ (IV.tape hw hc hr (by omega) (f4_256 (f4_256 (f4_256 (f4_256 (f4_256 hw.2.2.2.2.2.2))))) (fun a h1 h2 => hA a (by simp [h1, h2])) b5 d5 hs t5 u5 (hz 5 (by decide)) (hz 6 (by decide))) ?_
    rw [hs 0 (by decide) (by decide), hA 0 (by decide)]
  · simp (disch := omega) only [lit, Nat.add_sub_cancel, Nat.not_lt_zero, ↓m1_mI, nI_add, pk_mul, nx_and, nx_or, and31, sh_r, sh_1, nx_nand, Nat.and_one_is_mod, nI_clamp, nI_leI, nI_ltI, nI_eq, tb_1, vp_t, up2_a, up2_b, up2_c, br_1, br_0, true_and, and_true, mI_ne, mI_ne', mI_lt, mI_le, mI_nle, mI_nlt, pk_sub, mI_sub, c52, eq_false e]
    first | refine ⟨_, rfl, rfl, tX12_feed_0 ?_⟩ | refine ⟨_, rfl, tX12_feed_0 ?_⟩
    simp (disch := omega) only [lit, Nat.add_sub_cancel, Nat.not_lt_zero, ↓m1_mI, nI_add, pk_mul, nx_and, nx_or, and31, sh_r, sh_1, nx_nand, Nat.and_one_is_mod, nI_clamp, nI_leI, nI_ltI, nI_eq, tb_1, vp_t, up2_a, up2_b, up2_c, br_1, br_0, true_and, and_true, mI_ne, mI_ne', mI_lt, mI_le, mI_nle, mI_nlt, pk_sub, mI_sub, r4, eq_false e]
    exact ⟨_, rfl, K _ _ h' rfl⟩
theorem k_fault {x1 : Int32} {Φ : Int32 → Int32 → Me → Prop} (h : IV μ.1) (K : ∀ v (μ' : Me), IV μ'.1 → μ'.1 0 = μ.1 0 → Φ v v μ') : VI N 1 mX11_fault [.ref 2, .int x1] μ (fun v μ1 => μ1.1 0 = μ.1 0 ∧ VI N 1 mX12_fault [.ref 130, .int x1] μ1 (fun v' μ2 => Φ v v' μ2)) := by
  have h' := h
  obtain ⟨B, B', R, tp, tn, ft, fp, hw, hc, hr⟩ := h
  have c5 := hc.2.2.2.2.2
  have r5 := hr.2.2.2.2.2
  have Z : ∀ v : Int32, (x1 = 0 → v = ft) → (x1 = 1 → v = fp) → (¬ x1 = 0 → ¬ x1 = 1 → v = -1) → μ.1 0 = μ.1 0 ∧ VI N 1 mX12_fault [.ref 130, .int x1] μ (fun v' μ2 => Φ v v' μ2) := by
    intro v h0 h1 h2
    try refine And.intro (by first | rfl | exact hA 0 (by decide) | exact b3 0 (by decide) | exact b2 0 (by decide) | exact a1 0 (by decide) | exact a1 0 (by omega) | exact a3 0 (by decide) (by decide) | simp (disch := omega) only [up2_ne]) ?_
    refine c_fault (fun e => ?_) (fun e => ?_) (fun e1 e2 => ?_)
    · rw [r5.1, ← h0 e]; exact K _ _ h' rfl
    · rw [r5.2, ← h1 e]; exact K _ _ h' rfl
    · rw [← h2 e1 e2]; exact K _ _ h' rfl
  refine tX11_fault_0 ?_
  rcases c5 with ⟨e0, rfl, rfl⟩ | ⟨e0, e3, e4⟩
  · exact ⟨fun _ => ⟨_, rfl, Z _ (fun _ => rfl) (fun _ => rfl) (fun _ _ => rfl)⟩, fun e => absurd e0 e⟩
  · refine ⟨fun e => absurd e e0, fun _ => ⟨fun e => ⟨_, rfl, Z _ (fun k => ?_) (fun k => ?_) (fun _ _ => rfl)⟩, fun e1 => ⟨fun e2 => ⟨fun e => ⟨_, rfl, Z _ (fun _ => e3) (fun k => ?_) (fun k => absurd e k)⟩, fun e => ⟨_, rfl, Z _ (fun k => absurd k e) (fun _ => e4) (fun _ k => ?_)⟩⟩, fun e2 => ⟨_, rfl, Z _ (fun k => ?_) (fun k => ?_) (fun _ _ => rfl)⟩⟩⟩⟩
    · subst k; exact absurd e (by decide)
    · subst k; exact absurd e (by decide)
    · rw [e] at k; exact absurd k (by decide)
    · exfalso
      obtain ⟨n, hn, rfl⟩ := rng (b := 1) (by decide) e1 e2
      have : n = 0 ∨ n = 1 := by omega
      rcases this with rfl | rfl
      · exact e rfl
      · exact k rfl
    · subst k; exact absurd (by decide) e2
    · subst k; exact absurd (by decide) e2
end SG
