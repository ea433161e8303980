/-! never, together -/
section NV
variable {N : Nat} {μ : Me} {B B' R T tp : Nat → Nat} {tn : Nat} {ft fp : Int32} {e : Nat → Nat}
theorem allB_iff {n : Nat} {p : Nat → Bool} : allB n p = true ↔ ∀ i, i < n → p i = true := by
  induction n with
  | zero => exact ⟨fun _ i hi => by omega, fun _ => rfl⟩
  | succ n ih =>
    show (allB n p && p n) = true ↔ _
    rw [Bool.and_eq_true, ih]
    constructor
    · rintro ⟨h1, h2⟩ i hi
      by_cases ei : i = n
      · subst ei; exact h2
      · exact h1 i (by omega)
    · intro h
      exact ⟨fun i hi => h i (by omega), h n (by omega)⟩
theorem bool_ext {x y : Bool} (h : x = true ↔ y = true) : x = y := by
  cases x <;> cases y <;> simp at h ⊢
def us (B : Nat → Nat) (st : Nat) : Bool := decide (st &&& sb B = 0)
theorem us_iff {st : Nat} : us B st = true ↔ st &&& sb B = 0 := by unfold us; exact decide_eq_true_iff
theorem eS_nd (B T : Nat → Nat) (st : Nat) : eS B T (ndN st (sb B)) (B 0) = eS B T st (B 0) := by
  unfold eS
  apply evN_ext
  intro i hi
  refine ⟨?_, fun _ => ⟨rfl, rfl⟩⟩
  show ((ndN st (sb B)).testBit i && !stk B i) = (st.testBit i && !stk B i)
  rw [ndN_tb, sb_tb B hi]
  show (st.testBit i && !stk B i && !stk B i) = _
  cases st.testBit i <;> cases stk B i <;> rfl
theorem nd_us (st : Nat) : us B (ndN st (sb B)) = true := by
  rw [us_iff, and_0]
  intro i h
  rw [ndN_tb, Bool.and_eq_true] at h
  simpa using h.2
theorem bits_all (n : Nat) : bits n (fun _ => true) = 2 ^ n - 1 := by
  apply Nat.eq_of_testBit_eq
  intro i
  rw [bits_tb, Nat.testBit_two_pow_sub_one, Bool.and_true]
theorem c_among {vs : Nat} {Ψ : Int32 → Me → Prop} (hC : CB B 3 μ.1) (hW : WB B) (hL : LW T (lwB B) μ.1) (wT : WT T) (he : cEv e (μ.1 69)) (hvs : vs < 64) (h : Ψ (nI (bits (B 1) (fun i => vs.testBit i && fB B T e 99 i))) μ) : VI N 4 mX11_carriedAmong [.ref 2, .int (nI vs)] μ Ψ := by
  have hn := hW.n
  refine tX11_carriedAmong_0 ?_
  refine vb_up (fun i => [.ref 2, .int (nI vs), .int (nI (bits i (fun i => vs.testBit i && fB B T e 99 i))), .int (nI i)]) (fun _ => μ) (B 1) (fun i hi K => ?_) ?_
  · have g1 : ¬ B 1 ≤ i := by omega
    have hl := lt31 (bits_lt i (fun i => vs.testBit i && fB B T e 99 i)) (by omega)
    refine tX11_carriedAmong_4 ?_
    simp (disch := omega) only [lit, Nat.add_sub_cancel, Nat.not_lt_zero, ↓m1_mI, nI_add, pk_mul, nx_and, nx_or, and31, sh_r, sh_1, nx_nand, Nat.and_one_is_mod, nI_clamp, nI_leI, nI_ltI, nI_eq, tb_1, vp_t, up2_a, up2_b, up2_c, br_1, br_0, true_and, and_true, mI_ne, mI_ne', mI_lt, mI_le, mI_nle, mI_nlt, pk_sub, mI_sub, hC.k6, eq_false g1]
    refine ⟨fun z => vi_b (fun Ψ => c_carried (b := 99) hC hW hL wT (Or.inr rfl) he hi) (fun q => ?_) (fun q => ?_), fun z => ?_⟩
    · rw [← bits_t (by rw [z, fB_iff.mpr q]; rfl)] at K
      exact K
    · rw [← bits_f (by rw [eq_false_of_ne_true (fun y => q (fB_iff.mp y)), Bool.and_false]; decide)] at K
      exact K
    · rw [← bits_f (by rw [eq_false_of_ne_true z, Bool.false_and]; decide)] at K
      exact K
  · refine tX11_carriedAmong_4 ?_
    simp (disch := omega) only [lit, Nat.add_sub_cancel, Nat.not_lt_zero, ↓m1_mI, nI_add, pk_mul, nx_and, nx_or, and31, sh_r, sh_1, nx_nand, Nat.and_one_is_mod, nI_clamp, nI_leI, nI_ltI, nI_eq, tb_1, vp_t, up2_a, up2_b, up2_c, br_1, br_0, true_and, and_true, mI_ne, mI_ne', mI_lt, mI_le, mI_nle, mI_nlt, pk_sub, mI_sub, hC.k6, Nat.le_refl]
    exact ⟨_, rfl, h⟩
def nevB (B T : Nat → Nat) (n v : Nat) : Bool := allB n (fun st => !fB B T (eS B T st (B 0)) 99 v)
def nevU (B T : Nat → Nat) (n v : Nat) : Bool := allB n (fun st => !(us B st && fB B T (eS B T st (B 0)) 99 v))
theorem nv_eq (hW : WB B) (v : Nat) : nevU B T (2 ^ B 0) v = nevB B T (2 ^ B 0) v := by
  apply bool_ext
  unfold nevU nevB
  rw [allB_iff, allB_iff]
  constructor
  · intro h i hi
    have := h (ndN i (sb B)) (ndN_le _ _ hi)
    rw [nd_us, eS_nd, Bool.true_and] at this
    exact this
  · intro h i hi
    have := h i hi
    rw [Bool.not_eq_true'] at this
    rw [this, Bool.and_false]
    rfl
theorem c_never {Ψ : Int32 → Me → Prop} (hC : CB B 3 μ.1) (hW : WB B) (hL : LW T (lwB B) μ.1) (wT : WT T) (K : ∀ μ' : Me, Ag scW μ.1 μ'.1 → Ψ (nI (bits (B 1) (nevB B T (2 ^ B 0)))) μ') : VI N 6 mX11_never [.ref 2] μ Ψ := by
  have hn := hW.n
  have h5 := lwB_5 hW
  have hp : 2 ^ B 0 ≤ 2 ^ 10 := Nat.pow_le_pow_right (by decide) (by omega)
  have hp1 : 2 ^ B 1 ≤ 2 ^ 6 := Nat.pow_le_pow_right (by decide) (by omega)
  have hp0 : 0 < 2 ^ B 1 := Nat.two_pow_pos _
  have hsb := sb_lt hW
  refine tX11_never_0 (c_findSayings hC hW hL wT (fun μ1 a1 d1 => ?_))
  have b1 : Ag scW μ.1 μ1.1 := a1.mono (by decide)
  have hC1 := hC.sW b1
  simp (disch := omega) only [lit, Nat.add_sub_cancel, Nat.not_lt_zero, ↓m1_mI, nI_add, pk_mul, nx_and, nx_or, and31, sh_r, sh_1, nx_nand, Nat.and_one_is_mod, nI_clamp, nI_leI, nI_ltI, nI_eq, tb_1, vp_t, up2_a, up2_b, up2_c, br_1, br_0, true_and, and_true, mI_ne, mI_ne', mI_lt, mI_le, mI_nle, mI_nlt, pk_sub, mI_sub, hC1.k0, hC1.k6]
  rw [← bits_all]
  refine vb_wf (N := N) (d := 6) (M := mX11_never) (hd := 34) (τ := Nat × Me) (fun x => [.ref 2, .int (nI (bits (B 1) (nevU B T x.1))), .int (nI (2 ^ B 0)), .int (nI x.1)]) (fun x => x.2) (fun x => 2 ^ B 0 - x.1) (fun x => x.1 ≤ 2 ^ B 0 ∧ Ag scW μ.1 x.2.1 ∧ cSay B T x.2.1) ?_ (0, μ1) ⟨Nat.zero_le _, b1, d1⟩
  rintro ⟨i, ν⟩ ⟨hi, hA, hS⟩ K'
  dsimp only at hi hA hS K' ⊢
  have hC2 := hC.sW hA
  have hl : bits (B 1) (nevU B T i) < 64 := Nat.lt_of_lt_of_le (bits_lt _ _) hp1
  refine tX11_never_34 ?_
  by_cases ei : i = 2 ^ B 0
  · subst ei
    simp (disch := omega) only [lit, Nat.add_sub_cancel, Nat.not_lt_zero, ↓m1_mI, nI_add, pk_mul, nx_and, nx_or, and31, sh_r, sh_1, nx_nand, Nat.and_one_is_mod, nI_clamp, nI_leI, nI_ltI, nI_eq, tb_1, vp_t, up2_a, up2_b, up2_c, br_1, br_0, true_and, and_true, mI_ne, mI_ne', mI_lt, mI_le, mI_nle, mI_nlt, pk_sub, mI_sub, Nat.le_refl]
    have := K ν hA
    rw [← bits_ext (fun v _ => nv_eq hW v)] at this
    exact ⟨_, rfl, this⟩
  · have g1 : ¬ 2 ^ B 0 ≤ i := by omega
    have han : i &&& sb B < 2 ^ 31 := Nat.lt_of_le_of_lt Nat.and_le_left (by omega)
    simp (disch := omega) only [lit, Nat.add_sub_cancel, Nat.not_lt_zero, ↓m1_mI, nI_add, pk_mul, nx_and, nx_or, and31, sh_r, sh_1, nx_nand, Nat.and_one_is_mod, nI_clamp, nI_leI, nI_ltI, nI_eq, tb_1, vp_t, up2_a, up2_b, up2_c, br_1, br_0, true_and, and_true, mI_ne, mI_ne', mI_lt, mI_le, mI_nle, mI_nlt, pk_sub, mI_sub, eq_false g1, hC2.k1]
    refine ⟨fun z => ⟨_, rfl, ?_⟩, fun z => ⟨fun z2 => ?_, fun z2 => ?_⟩⟩
    · have := K ν hA
      rw [← bits_ext (fun v _ => nv_eq hW v)] at this
      have e2 : bits (B 1) (nevU B T (2 ^ B 0)) = bits (B 1) (nevU B T i) := by
        rw [z]
        apply Nat.eq_of_testBit_eq
        intro v
        rw [bits_tb, Nat.zero_testBit]
        apply eq_false_of_ne_true
        intro q
        rw [Bool.and_eq_true, decide_eq_true_iff] at q
        have q2 : nevU B T i v = true := by
          have := q.2
          unfold nevU at *
          rw [allB_iff] at *
          exact fun j hj => this j (by omega)
        have q3 : (bits (B 1) (nevU B T i)).testBit v = true := by rw [bits_tb, q2, decide_eq_true q.1]; rfl
        rw [z, Nat.zero_testBit] at q3
        cases q3
      rw [e2] at this
      exact this
    · refine c_weigh hC2 hW (by omega) hS (fun μ4 a4 d4 => ?_)
      have b4 : Ag scW μ.1 μ4.1 := hA.tr (a4.mono (by decide))
      have s4 : cSay B T μ4.1 := fun w hw => by rw [a4 83 (by decide)]; exact hS w hw
      refine c_among (hC.sW b4) hW (hL.sW h5 b4) wT d4 hl ?_
      simp (disch := omega) only [lit, Nat.add_sub_cancel, Nat.not_lt_zero, ↓m1_mI, nI_add, pk_mul, nx_and, nx_or, and31, sh_r, sh_1, nx_nand, Nat.and_one_is_mod, nI_clamp, nI_leI, nI_ltI, nI_eq, tb_1, vp_t, up2_a, up2_b, up2_c, br_1, br_0, true_and, and_true, mI_ne, mI_ne', mI_lt, mI_le, mI_nle, mI_nlt, pk_sub, mI_sub]
      have e2 : ndN (bits (B 1) (nevU B T i)) (bits (B 1) (fun v => (bits (B 1) (nevU B T i)).testBit v && fB B T (eS B T i (B 0)) 99 v)) = bits (B 1) (nevU B T (i + 1)) := by
        apply Nat.eq_of_testBit_eq
        intro v
        rw [ndN_tb, bits_tb, bits_tb, bits_tb, bits_tb]
        have e3 : nevU B T (i + 1) v = (nevU B T i v && !(us B i && fB B T (eS B T i (B 0)) 99 v)) := rfl
        rw [e3, us_iff.mpr z2, Bool.true_and]
        cases decide (v < B 1) <;> cases nevU B T i v <;> cases fB B T (eS B T i (B 0)) 99 v <;> rfl
      rw [e2]
      exact K' (i + 1, μ4) ⟨by omega, b4, s4⟩ (by omega)
    · have e2 : bits (B 1) (nevU B T i) = bits (B 1) (nevU B T (i + 1)) := by
        apply bits_ext
        intro v _
        show _ = (nevU B T i v && !(us B i && fB B T (eS B T i (B 0)) 99 v))
        rw [eq_false_of_ne_true (fun q => z2 (us_iff.mp q)), Bool.false_and]
        cases nevU B T i v <;> rfl
      rw [e2]
      exact K' (i + 1, ν) ⟨by omega, hA, hS⟩ (by omega)
theorem r_never {Ψ : Int32 → Me → Prop} (hB : rowB B (μ.1 131)) (hW : WB B) (hT : RuL B T μ.1) (wT : WT T) (K : ∀ μ' : Me, Ag scR μ.1 μ'.1 → Ψ (nI (bits (B 1) (nevB B T (2 ^ B 0)))) μ') : VI N 7 mX12_never [.ref 130] μ Ψ := by
  have hn := hW.n
  have hp : 2 ^ B 0 ≤ 2 ^ 10 := Nat.pow_le_pow_right (by decide) (by omega)
  have hp1 : 2 ^ B 1 ≤ 2 ^ 6 := Nat.pow_le_pow_right (by decide) (by omega)
  have hp0 : 0 < 2 ^ B 1 := Nat.two_pow_pos _
  refine tX12_never_0 (r_ask hB hW hT wT (fun μ1 a1 s1 => ?_))
  have c1 : Ag scR μ.1 μ1.1 := a1.mono (by decide)
  have rB1 : ∀ k, k ≠ 4 → μ1.1 131 k = nI (B k) := by rw [c1 131 (by decide)]; exact hB.1
  simp (disch := omega) only [lit, Nat.add_sub_cancel, Nat.not_lt_zero, ↓m1_mI, nI_add, pk_mul, nx_and, nx_or, and31, sh_r, sh_1, nx_nand, Nat.and_one_is_mod, nI_clamp, nI_leI, nI_ltI, nI_eq, tb_1, vp_t, up2_a, up2_b, up2_c, br_1, br_0, true_and, and_true, mI_ne, mI_ne', mI_lt, mI_le, mI_nle, mI_nlt, pk_sub, mI_sub, rB1]
  rw [← bits_all]
  refine vb_for (N := N) (d := 7) (M := mX12_never) (hd := 17) (τ := Me) (fun i _ => [.ref 130, .int (nI (bits (B 1) (nevB B T i))), .int (nI i)]) (fun _ ν => ν) (2 ^ B 0) (fun i ν => Ag scR μ.1 ν.1 ∧ rSay B T ν.1) ?_ ?_ 0 μ1 (Nat.zero_le _) ⟨c1, s1⟩
  · intro i ν hi ⟨hA, hS⟩ K'
    have hB3 : rowB B (ν.1 131) := by rw [hA 131 (by decide)]; exact hB
    have rB := hB3.1
    have g1 : ¬ 2 ^ B 0 ≤ i := by omega
    have he9 : ∀ f, eS B T i (B 0) f ≤ 9 := eS_9 hW (Nat.le_refl _)
    refine tX12_never_17 ?_
    simp (disch := omega) only [lit, Nat.add_sub_cancel, Nat.not_lt_zero, ↓m1_mI, nI_add, pk_mul, nx_and, nx_or, and31, sh_r, sh_1, nx_nand, Nat.and_one_is_mod, nI_clamp, nI_leI, nI_ltI, nI_eq, tb_1, vp_t, up2_a, up2_b, up2_c, br_1, br_0, true_and, and_true, mI_ne, mI_ne', mI_lt, mI_le, mI_nle, mI_nlt, pk_sub, mI_sub, rB, eq_false g1]
    refine r_bySet hB3 hW (by omega) hS (fun μ2 a2 d2 => ?_)
    have hB4 : rowB B (μ2.1 131) := by rw [a2 131 (by decide)]; exact hB3
    refine r_show (b := 99) hB4 hW ((hT.fr (hA 133 (by decide))).fr (a2 133 (by decide))) wT (Or.inr rfl) he9 d2 (fun μ3 a3 d3 => ?_)
    have hB5 : rowB B (μ3.1 131) := by rw [a3 131 (by decide)]; exact hB4
    have rB5 := hB5.1
    have Kn := K' μ3 ⟨hA.tr ((a2.mono (by decide)).tr (a3.mono (by decide))), rSay_fr hS (by rw [a3 141 (by decide), a2 141 (by decide)])⟩
    have stp : ∀ v, nevB B T (i + 1) v = (nevB B T i v && !fB B T (eS B T i (B 0)) 99 v) := fun v => rfl
    have e0 : bits (B 1) (nevB B T i) = bits (B 1) (fun v => nevB B T i v && !(decide (v < 0) && fB B T (eS B T i (B 0)) 99 v)) := by
      apply bits_ext; intro v _; simp
    rw [e0]
    refine vb_up (fun j => [.ref 130, .int (nI (bits (B 1) (fun v => nevB B T i v && !(decide (v < j) && fB B T (eS B T i (B 0)) 99 v)))), .int (nI i), .int (nI j)]) (fun _ => μ3) (B 1) (fun j hj Kj => ?_) ?_
    · have g2 : ¬ B 1 ≤ j := by omega
      have hpj : 2 ^ j < 2 ^ 31 := p2_31 (by omega)
      refine tX12_never_41 ?_
      simp (disch := omega) only [lit, Nat.add_sub_cancel, Nat.not_lt_zero, ↓m1_mI, nI_add, pk_mul, nx_and, nx_or, and31, sh_r, sh_1, nx_nand, Nat.and_one_is_mod, nI_clamp, nI_leI, nI_ltI, nI_eq, tb_1, vp_t, up2_a, up2_b, up2_c, br_1, br_0, true_and, and_true, mI_ne, mI_ne', mI_lt, mI_le, mI_nle, mI_nlt, pk_sub, mI_sub, rB5, eq_false g2]
      refine vi_b (fun Ψ => r_isShown hB5 hW hj (fun j _ => shN_9 wT he9 16 j) d3) (fun q => ?_) (fun q => ?_)
      · have e2 : ndN (bits (B 1) (fun v => nevB B T i v && !(decide (v < j) && fB B T (eS B T i (B 0)) 99 v))) (2 ^ j) = bits (B 1) (fun v => nevB B T i v && !(decide (v < j + 1) && fB B T (eS B T i (B 0)) 99 v)) := by
          apply Nat.eq_of_testBit_eq
          intro v
          rw [ndN_tb, bits_tb, bits_tb, Nat.testBit_two_pow]
          by_cases ev : j = v
          · subst ev
            rw [show fB B T (eS B T i (B 0)) 99 j = true from fB_iff.mpr q]
            simp
          · have : (v < j + 1) = (v < j) := by apply propext; omega
            simp [ev, this]
        rw [e2]
        exact Kj
      · have e2 : bits (B 1) (fun v => nevB B T i v && !(decide (v < j) && fB B T (eS B T i (B 0)) 99 v)) = bits (B 1) (fun v => nevB B T i v && !(decide (v < j + 1) && fB B T (eS B T i (B 0)) 99 v)) := by
          apply bits_ext
          intro v _
          by_cases ev : v = j
          · subst ev
            rw [eq_false_of_ne_true (fun z => q (fB_iff.mp z))]
            simp
          · have : (v < j + 1) = (v < j) := by apply propext; omega
            simp [this]
        rw [e2]
        exact Kj
    · refine tX12_never_41 ?_
      simp (disch := omega) only [lit, Nat.add_sub_cancel, Nat.not_lt_zero, ↓m1_mI, nI_add, pk_mul, nx_and, nx_or, and31, sh_r, sh_1, nx_nand, Nat.and_one_is_mod, nI_clamp, nI_leI, nI_ltI, nI_eq, tb_1, vp_t, up2_a, up2_b, up2_c, br_1, br_0, true_and, and_true, mI_ne, mI_ne', mI_lt, mI_le, mI_nle, mI_nlt, pk_sub, mI_sub, rB5, Nat.le_refl]
      have e2 : bits (B 1) (fun v => nevB B T i v && !(decide (v < B 1) && fB B T (eS B T i (B 0)) 99 v)) = bits (B 1) (nevB B T (i + 1)) := by
        apply bits_ext
        intro v hv
        rw [stp, decide_eq_true hv, Bool.true_and]
      rw [e2]
      exact Kn
  · intro ν ⟨hA, _⟩
    have rB : ∀ k, k ≠ 4 → ν.1 131 k = nI (B k) := by rw [hA 131 (by decide)]; exact hB.1
    refine tX12_never_17 ?_
    simp (disch := omega) only [lit, Nat.add_sub_cancel, Nat.not_lt_zero, ↓m1_mI, nI_add, pk_mul, nx_and, nx_or, and31, sh_r, sh_1, nx_nand, Nat.and_one_is_mod, nI_clamp, nI_leI, nI_ltI, nI_eq, tb_1, vp_t, up2_a, up2_b, up2_c, br_1, br_0, true_and, and_true, mI_ne, mI_ne', mI_lt, mI_le, mI_nle, mI_nlt, pk_sub, mI_sub, rB, Nat.le_refl]
    exact ⟨_, rfl, K ν hA⟩
theorem k_never {Φ : Int32 → Int32 → Me → Prop} (h : IV μ.1) (K : ∀ v (μ' : Me), IV μ'.1 → μ'.1 0 = μ.1 0 → Φ v v μ') : VI N 6 mX11_never [.ref 2] μ (fun v μ1 => μ1.1 0 = μ.1 0 ∧ VI N 7 mX12_never [.ref 130] μ1 (fun v' μ2 => Φ v v' μ2)) := by
  obtain ⟨B, B', R, tp, tn, ft, fp, hw, hc, hr⟩ := h
  refine c_never hc.1 hw.1 (hc.ruL hw) hw.ruT (fun μ2 b2 => ?_)
  have hB2 : rowB B (μ2.1 131) := by rw [b2 131 (by decide)]; exact hr.1
  try refine And.intro (by first | rfl | exact hA 0 (by decide) | exact b3 0 (by decide) | exact b2 0 (by decide) | exact a1 0 (by decide) | exact a1 0 (by omega) | exact a3 0 (by decide) (by decide) | simp (disch := omega) only [up2_ne]) ?_
  exact r_never hB2 hw.1 (hr.ruT.fr (b2 133 (by decide))) hw.ruT (fun ν2 c2 => K _ _ (IV.same hw hc hr (scW_C b2) c2) (by rw [c2 0 (by decide), b2 0 (by decide)]))
end NV
