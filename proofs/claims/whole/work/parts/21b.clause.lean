/-! the class reads clauses and a text -/
section CB1
variable {N : Nat} {bt : Nat → Nat} {tn m : Nat}
theorem ni3 {c : Nat} (h1 : c ≠ 51) (h2 : c ≠ 57) (h3 : c ≠ 58) : c ∉ [51, 57, 58] := by
  intro q
  have : c = 51 ∨ c = 57 ∨ c = 58 := by simpa using q
  omega
def CX (bt : Nat → Nat) (tn m n : Nat) (F : Nat → Nat → Nat) (L : Cd) (k : Nat) (I : Nat → Nat → Int32) : Prop := CKt bt tn m k L I ∧ LHb n F I ∧ I 57 1 = nI n ∧ n ≤ 16 ∧ L.length ≤ k
def CXr (I I' : Nat → Nat → Int32) : Prop := (∀ c, c ≠ 51 → (c < 57 ∨ 66 < c) → I' c = I c) ∧ I' 51 2 = I 51 2
theorem CXr.rf {I : Nat → Nat → Int32} : CXr I I := ⟨fun _ _ _ => rfl, rfl⟩
theorem CXr.tr {I I1 I2 : Nat → Nat → Int32} (h : CXr I I1) (h2 : CXr I1 I2) : CXr I I2 := ⟨fun c a1 a2 => (h2.1 c a1 a2).trans (h.1 c a1 a2), h2.2.trans h.2⟩
theorem CFr.x {I I1 : Nat → Nat → Int32} (h : CFr I I1) : CXr I I1 := ⟨fun c a1 a2 => h.1 c (ni3 a1 (by omega) (by omega)), h.2.1 2 (by decide) (by decide) (by decide)⟩
theorem CXr.up {I : Nat → Nat → Int32} {c p : Nat} {v : Int32} (h : (57 ≤ c ∧ c ≤ 66) ∨ (c = 51 ∧ p ≠ 2)) : CXr I (up2 I c p v) := by
  refine ⟨fun d a1 a2 => up2_ne (by omega), ?_⟩
  rcases h with g | g
  · exact up2_a (by omega)
  · rw [g.1]; exact up2_b (fun e => g.2 e.symm)
theorem LHb.fr {n : Nat} {F : Nat → Nat → Nat} {I I' : Nat → Nat → Int32} (h : LHb n F I) (e7 : I' 57 2 = I 57 2) (he : ∀ c, 59 ≤ c → c ≤ 66 → I' c = I c) : LHb n F I' := by
  unfold LHb at *
  rw [e7, he 59 (by decide) (by decide), he 60 (by decide) (by decide), he 61 (by decide) (by decide), he 62 (by decide) (by decide), he 63 (by decide) (by decide), he 64 (by decide) (by decide), he 65 (by decide) (by decide), he 66 (by decide) (by decide)]
  exact h
theorem LHb.cf {n : Nat} {F : Nat → Nat → Nat} {I I' : Nat → Nat → Int32} (h : LHb n F I) (fr : CFr I I') : LHb n F I' := h.fr (fr.2.2 2 (by decide)) (fun c c1 c2 => fr.1 c (ni3 (by omega) (by omega) (by omega)))
/-- a clause that isn't a rule is added -/
theorem LHb.add {n s : Nat} {F : Nat → Nat → Nat} {v : Nat → Nat} {I I' : Nat → Nat → Int32} (h : LHb n F I) (hs : s < 3) (hd : ∀ i, i < n → F i 0 ≠ s) (h0 : v 0 = s) (h1 : v 1 ≤ 300) (e7 : I' 57 2 = I 57 2) (he : ∀ c, 61 ≤ c → c ≤ 66 → I' c = I c) (e9 : I' 59 s = nI (v 1)) (e0 : I' 60 s = nI (v 2)) (e9' : ∀ b, b ≠ s → I' 59 b = I 59 b) (e0' : ∀ b, b ≠ s → I' 60 b = I 60 b) : LHb (n + 1) (upFn F n v) I' := by
  obtain ⟨l1, l2, l3, l4, l5, od, l6, l7⟩ := h
  have hR : ¬ isRF (upFn F n v) n = true := by unfold isRF; rw [upFn_e, h0]; simp; omega
  have ecn : cnt (n + 1) (isRF (upFn F n v)) = cnt n (isRF F) := by
    show cnt n _ + (if isRF (upFn F n v) n = true then 1 else 0) = _
    rw [if_neg hR, cnt_up]; rfl
  have ne3 : ∀ k, upFn F n v k 0 = 3 → k ≠ n := fun k q e => by rw [e, upFn_e] at q; omega
  refine ⟨by rw [ecn, e7]; exact l1, fun k hk hs2 => ?_, fun t ht hk => ?_, fun k hk h3 => ?_, fun k hk h3 => ?_, od, fun i hi => ?_, ?_⟩
  · by_cases e : k = n
    · rw [e, upFn_e, upFn_e, upFn_e, h0]
      exact ⟨h1, e9, e0⟩
    · rw [upFn_n e] at hs2 ⊢
      rw [upFn_n e, upFn_n e]
      have q := hd k (by omega)
      rw [e9' _ q, e0' _ q]
      exact l2 k (by omega) hs2
  · have q := hk n (by omega)
    rw [upFn_e, h0] at q
    rw [e9' t (by omega)]
    refine l3 t ht (fun k hk2 => ?_)
    have := hk k (by omega)
    rw [upFn_n (by omega)] at this
    exact this
  · have e := ne3 k h3
    rw [upFn_n e] at h3
    rw [upFn_n e, upFn_n e, upFn_n e, upFn_n e, upFn_n e, he 62 (by decide) (by decide), he 63 (by decide) (by decide), he 64 (by decide) (by decide), he 65 (by decide) (by decide), he 66 (by decide) (by decide)]
    exact l4 k (by omega) h3
  · rw [he 65 (by decide) (by decide), he 66 (by decide) (by decide)]
    refine l5 k hk (fun z => h3 ⟨by omega, ?_⟩)
    rw [upFn_n (by omega)]
    exact z.2
  · rw [ecn] at hi
    rw [he 61 (by decide) (by decide)]
    exact l6 i hi
  · rw [ecn]
    obtain ⟨o1, o2, o3⟩ := l7
    have ne : ∀ i, i < cnt n (isRF F) → od i ≠ n := fun i hi => by have := (o1 i hi).1; omega
    refine ⟨fun i hi => ?_, fun i j hij hj => ?_, fun k hk h3 => ?_⟩
    · rw [upFn_n (ne i hi)]
      have := o1 i hi
      exact ⟨by omega, this.2⟩
    · rw [upFn_n (ne i (by omega)), upFn_n (ne j hj)]
      exact o2 i j hij hj
    · have e := ne3 k h3
      rw [upFn_n e] at h3
      exact o3 k (by omega) h3
section
variable {k n : Nat} {F : Nat → Nat → Nat} {L : Cd} {μ : Me} {Φ : Me → Prop}
theorem c_has57 {s : Nat} {Ψ : Int32 → Me → Prop} (hs : s ≤ 3) (h : LHb n F μ.1) (h1 : s < 3 → (∃ i, i < n ∧ F i 0 = s) → Ψ 1 μ) (h0 : (s < 3 → ∀ i, i < n → F i 0 ≠ s) → Ψ 0 μ) : VI N 1 mX5_has [.ref 57, .int (nI s)] μ Ψ := by
  refine tX5_has_0 (Or.inr (Or.inl rfl)) ?_
  by_cases g : s < 3
  · have eI : (μ.1 (57 + 2) (Int32.toNatClampNeg (nI s)) : Int32) = μ.1 59 s := by rw [nI_clamp (by omega)]
    rw [eI]
    by_cases e : ∃ i, i < n ∧ F i 0 = s
    · obtain ⟨i, i1, i2⟩ := e
      have q := h.2.1 i i1 (by omega)
      rw [i2] at q
      rw [q.2.1]
      simp (disch := omega) only [lit, Nat.add_sub_cancel, Nat.not_lt_zero, ↓m1_mI, nI_add, pk_mul, nx_and, nx_or, and31, sh_r, sh_1, nx_nand, Nat.and_one_is_mod, nI_clamp, nI_leI, nI_ltI, nI_eq, tb_1, vp_t, up2_a, up2_b, up2_c, br_1, br_0, true_and, and_true, mI_ne, mI_ne', mI_lt, mI_le, mI_nle, mI_nlt, pk_sub, mI_sub, eq_false (show ¬ 3 ≤ s by omega)]
      exact ⟨_, rfl, h1 g ⟨i, i1, i2⟩⟩
    · have e2 : ∀ i, i < n → F i 0 ≠ s := fun i i1 i2 => e ⟨i, i1, i2⟩
      rw [h.2.2.1 s g e2]
      simp (disch := omega) only [lit, Nat.add_sub_cancel, Nat.not_lt_zero, ↓m1_mI, nI_add, pk_mul, nx_and, nx_or, and31, sh_r, sh_1, nx_nand, Nat.and_one_is_mod, nI_clamp, nI_leI, nI_ltI, nI_eq, tb_1, vp_t, up2_a, up2_b, up2_c, br_1, br_0, true_and, and_true, mI_ne, mI_ne', mI_lt, mI_le, mI_nle, mI_nlt, pk_sub, mI_sub, eq_false (show ¬ 3 ≤ s by omega), eq_true (show mI = mI from rfl)]
      exact ⟨_, rfl, h0 (fun _ => e2)⟩
  · simp (disch := omega) only [lit, Nat.add_sub_cancel, Nat.not_lt_zero, ↓m1_mI, nI_add, pk_mul, nx_and, nx_or, and31, sh_r, sh_1, nx_nand, Nat.and_one_is_mod, nI_clamp, nI_leI, nI_ltI, nI_eq, tb_1, vp_t, up2_a, up2_b, up2_c, br_1, br_0, true_and, and_true, mI_ne, mI_ne', mI_lt, mI_le, mI_nle, mI_nlt, pk_sub, mI_sub, eq_true (show 3 ≤ s by omega)]
    exact ⟨_, rfl, h0 (fun q => absurd q g)⟩
/-- behind a clause's body -/
theorem c_130F {f kf x : Nat} (hx : 1 ≤ x) (hx4 : x ≤ 4) (h : CF bt tn m f kf μ.1) (K : ∀ I, CXr μ.1 I → CF bt tn m f kf I → Φ (I, μ.2)) : VB N 42 mX6_clause 130 [.ref 51, .int (nI x)] [] μ (fun r μ' => r = none ∧ Φ μ') := by
  have key : ∀ I, CXr μ.1 I → CF bt tn m f kf I → VU N 2 mX6_pass [.ref 51, .int 59] (I, μ.2) (fun μ2 => (none : Option Value) = none ∧ Φ μ2) := fun I q1 q2 => c_passF (x := 59) (μ := (I, μ.2)) (by decide) (by decide) q2 ⟨rfl, K I q1 q2⟩
  refine tX6_clause_130 (tX5_shut_0 ?_)
  have ex : (nI x - 1 : Int32) = nI (x - 1) := n1_eq hx
  rw [ex]
  refine ⟨fun _ => ⟨rfl, key _ (CXr.up (by omega)) (h.fr (up2_ne (by decide)) (up2_ne (by decide)) (up2_ne (by decide)) (up2_ne (by decide)) (up2_ne (by decide)) (up2_b (by decide)))⟩, fun _ => ⟨fun _ => ⟨rfl, key _ (CXr.up (by omega)) (h.fr (up2_ne (by decide)) (up2_ne (by decide)) (up2_ne (by decide)) (up2_ne (by decide)) (up2_ne (by decide)) (up2_b (by decide)))⟩, fun g => ?_⟩⟩
  have g3 : x - 1 < 3 := by
    apply Classical.byContradiction
    intro q
    apply g
    rw [show (3 : Int32) = nI 3 from rfl, nI_leI (by omega) (by omega)]
    omega
  refine ⟨vp_in_nI g3 (by decide), rfl, key _ ((CXr.up (by omega)).tr (CXr.up (by omega))) (h.fr ?_ ?_ ?_ ?_ ?_ ?_)⟩
  · rw [up2_ne (by decide), up2_ne (by decide)]
  · rw [up2_ne (by decide), up2_ne (by decide)]
  · rw [up2_ne (by decide), up2_ne (by decide)]
  · rw [up2_ne (by decide), up2_ne (by decide)]
  · rw [up2_ne (by decide), up2_ne (by decide)]
  · rw [up2_b (by decide), up2_a (by decide)]
/-- behind a clause's body without a fault -/
theorem c_130 {k2 x n2 : Nat} {L2 : Cd} (hx : 1 ≤ x) (hx4 : x ≤ 4) (hn2 : n2 ≤ 16) (h : CKt bt tn m k2 L2 μ.1) (h1 : μ.1 57 1 = nI n2) (K : ∀ I, (∀ c, c ≠ 51 → c ≠ 57 → c ≠ 60 → I c = μ.1 c) → (∀ b, b ≠ 0 → b ≠ 1 → I 57 b = μ.1 57 b) → (∀ b, (x ≤ 3 → b + 1 ≠ x) → I 60 b = μ.1 60 b) → (x ≤ 3 → I 60 (x - 1) = nI L2.length) → I 57 1 = nI (n2 + 1) → I 51 2 = μ.1 51 2 → (kT bt tn k2 = 59 → CKt bt tn m (k2 + 1) L2 I) → (kT bt tn k2 ≠ 59 → CF bt tn m 1 k2 I) → Φ (I, μ.2)) : VB N 42 mX6_clause 130 [.ref 51, .int (nI x)] [] μ (fun r μ' => r = none ∧ Φ μ') := by
  have hlen := h.2.2.2.2.1
  have key : ∀ J, (∀ c, c ≠ 57 → c ≠ 60 → J c = μ.1 c) → (∀ b, b ≠ 1 → J 57 b = μ.1 57 b) → (∀ b, (x ≤ 3 → b + 1 ≠ x) → J 60 b = μ.1 60 b) → (x ≤ 3 → J 60 (x - 1) = nI L2.length) → J 57 1 = nI (n2 + 1) → VU N 2 mX6_pass [.ref 51, .int 59] (J, μ.2) (fun μ2 => (none : Option Value) = none ∧ Φ μ2) := by
    intro J q1 q2 q3 q4 q5
    have hJ : CKt bt tn m k2 L2 J := h.fr (by rw [q1 51 (by decide) (by decide)]) (by rw [q1 51 (by decide) (by decide)]) (by rw [q1 51 (by decide) (by decide)]) (q1 52 (by decide) (by decide)) (q1 54 (by decide) (by decide)) (q1 55 (by decide) (by decide)) (q1 56 (by decide) (by decide)) (q2 0 (by decide)) (q1 58 (by decide) (by decide))
    have fin : ∀ I, CFr J I → (kT bt tn k2 = 59 → CKt bt tn m (k2 + 1) L2 I) → (kT bt tn k2 ≠ 59 → CF bt tn m 1 k2 I) → I 58 = J 58 → Φ (I, μ.2) := by
      intro I fr a1 a2 a3
      have e60 : I 60 = J 60 := fr.1 60 (by decide)
      refine K I (fun c c1 c2 c3 => ?_) (fun b b0 b1 => (fr.2.2 b b0).trans (q2 b b1)) (fun b hb => by rw [e60]; exact q3 b hb) (fun e => by rw [e60]; exact q4 e) ((fr.2.2 1 (by decide)).trans q5) ((fr.2.1 2 (by decide) (by decide) (by decide)).trans (by rw [q1 51 (by decide) (by decide)])) a1 a2
      by_cases e8 : c = 58
      · rw [e8, a3]; exact q1 58 (by decide) (by decide)
      · rw [fr.1 c (ni3 c1 c2 e8)]
        exact q1 c c2 c3
    have hb := kT_lt hJ.1.2.2.1 k2
    refine tX6_pass_0 (c_sort (μ := (J, μ.2)) hJ ?_)
    have h5 : J 51 5 = nI k2 := hJ.2.2.1
    simp (disch := omega) only [lit, Nat.add_sub_cancel, Nat.not_lt_zero, ↓m1_mI, nI_add, pk_mul, nx_and, nx_or, and31, sh_r, sh_1, nx_nand, Nat.and_one_is_mod, nI_clamp, nI_leI, nI_ltI, nI_eq, tb_1, vp_t, up2_a, up2_b, up2_c, br_1, br_0, true_and, and_true, mI_ne, mI_ne', mI_lt, mI_le, mI_nle, mI_nlt, pk_sub, mI_sub, h5]
    refine ⟨fun g => fin _ (CFr.at (by omega)) (fun _ => hJ.nx (by omega)) (fun q => absurd g q) (up2_ne (by decide)), fun g => ?_⟩
    refine tX6_fail_0 ?_
    have h3 : J 51 3 = nI 0 := hJ.2.2.2.1
    have hm := hJ.1.1
    have hk2 := hJ.2.1
    have h52 := hJ.1.2.2.2.2.1
    have c1 := c_fail (N := N) (μ := (J, μ.2)) (f := 1) (Φ := fun μ' => μ'.1 58 = J 58 → CFr J μ'.1 → CF bt tn m 1 k2 μ'.1 → Φ μ') hJ (by decide) (by decide) (fun I fr hF e8 _ _ => fin I fr (fun q => absurd q g) (fun _ => hF) e8)
    have g56 := (hJ.1.get hk2).2.1
    simp (disch := omega) only [lit, Nat.add_sub_cancel, Nat.not_lt_zero, ↓m1_mI, nI_add, pk_mul, nx_and, nx_or, and31, sh_r, sh_1, nx_nand, Nat.and_one_is_mod, nI_clamp, nI_leI, nI_ltI, nI_eq, tb_1, vp_t, up2_a, up2_b, up2_c, br_1, br_0, true_and, and_true, mI_ne, mI_ne', mI_lt, mI_le, mI_nle, mI_nlt, pk_sub, mI_sub, h5, h3, h52, g56, eq_true (show (0 : Nat) = 0 from rfl), eq_false (show ¬ 300 < k2 by omega)]
    have fr : CFr J (up2 (up2 (up2 J 51 3 (nI 1)) 51 4 (nI (tS bt tn k2))) 51 5 (nI m)) := ((CFr.at (Or.inl rfl)).tr (CFr.at (Or.inr (Or.inl rfl)))).tr (CFr.at (Or.inr (Or.inr rfl)))
    refine fin _ fr (fun q => absurd q g) (fun _ => ⟨hJ.1.cf fr, hk2, by decide, by decide, up2_c, ?_, ?_, L2.length, hJ.2.2.2.2.1, ?_⟩) ?_
    · rw [up2_b (by decide), up2_b (by decide), up2_c]
    · rw [up2_b (by decide), up2_c]
    · rw [up2_a (by decide), up2_a (by decide), up2_a (by decide)]; exact hJ.2.2.2.2.2.1
    · rw [up2_ne (by decide), up2_ne (by decide), up2_ne (by decide)]
  refine tX6_clause_130 (tX5_shut_0 ?_)
  have ex : (nI x - 1 : Int32) = nI (x - 1) := n1_eq hx
  have e0 : μ.1 57 0 = nI L2.length := h.2.2.2.2.2.1
  rw [ex, h1, e0, show (nI n2 + 1 : Int32) = nI (n2 + 1) from nI_add n2 1]
  have neg : ¬ nI (x - 1) < 0 := by rw [show (0 : Int32) = nI 0 from rfl, nI_ltI (by omega) (by omega)]; omega
  have ge3 : (3 ≤ nI (x - 1)) ↔ 3 ≤ x - 1 := by rw [show (3 : Int32) = nI 3 from rfl, nI_leI (by omega) (by omega)]
  refine ⟨fun g => absurd g neg, fun _ => ⟨fun g => ⟨rfl, key (up2 μ.1 57 1 (nI (n2 + 1))) (fun c c1 c2 => up2_ne c1) (fun b hb => up2_b hb) (fun b _ => up2_a (by decide)) (fun q => absurd (ge3.mp g) (by omega)) up2_c⟩, fun g => ?_⟩⟩
  have g3 : x - 1 < 3 := by
    have : ¬ 3 ≤ x - 1 := fun q => g (ge3.mpr q)
    omega
  rw [nI_clamp (by omega)]
  exact ⟨vp_in_nI g3 (by decide), rfl, key (up2 (up2 μ.1 60 (x - 1) (nI L2.length)) 57 1 (nI (n2 + 1))) (fun c c1 c2 => by rw [up2_ne c1, up2_ne c2]) (fun b hb => by rw [up2_b hb, up2_a (by decide)]) (fun b hb => by have := hb (by omega); rw [up2_a (by decide), up2_b (by omega)]) (fun _ => by rw [up2_a (by decide), up2_c]) up2_c⟩
end
end CB1
