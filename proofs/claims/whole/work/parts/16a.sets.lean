/-! defeats, amend -/
section DA
variable {N : Nat} {μ : Me} {B B' R T tp : Nat → Nat} {tn : Nat} {ft fp : Int32} {b : Nat} {e : Nat → Nat}
def fB (B T e : Nat → Nat) (b v : Nat) : Bool := decide (B (60 + 3 * v + 1) ≤ shP T e b (B (60 + 3 * v)))
theorem fB_iff {v : Nat} : fB B T e b v = true ↔ fP B T e b v := by unfold fB fP; exact decide_eq_true_iff
theorem ad_ub {f : Nat} (h : ∀ f, e f ≤ 9) : ad e (2 ^ f) 9 = ub e f 9 := by
  funext j
  have := h j
  unfold ad ub
  rw [Nat.testBit_two_pow]
  by_cases ej : j = f
  · subst ej
    rw [if_pos rfl]
    split
    · rfl
    · rename_i q
      have : ¬ e j < 9 := fun z => q ⟨by simp, z⟩
      omega
  · rw [if_neg ej, if_neg]
    rintro ⟨q, _⟩
    exact ej (of_decide_eq_true q).symm
theorem ub_9 {f : Nat} (h : ∀ f, e f ≤ 9) : ∀ j, ub e f 9 j ≤ 9 := by
  intro j
  unfold ub
  split
  · omega
  · exact h j
def defP (B T : Nat → Nat) (set v : Nat) : Nat := bits 16 (fun f => !fB B T (ub (eS B T set (B 0)) f 9) 99 v)
def scX : List Nat := [82, 50, 96, 107, 118, 129, 83, 69, 71]
theorem CB.sX {I I' : Nat → Nat → Int32} (hC : CB B 3 I) (h : Ag scX I I') : CB B 3 I' := hC.fr (fun a k1 k2 => h a (by simp [scX]; omega))
theorem LW.sX {I I' : Nat → Nat → Int32} {r : Nat} (h5 : isL5 r) (hL : LW T r I) (h : Ag scX I I') : LW T r I' := hL.fr (fun a k1 k2 => h a (by unfold isL5 at h5; simp [scX]; omega))
theorem c_defeats {set v : Nat} {Ψ : Int32 → Me → Prop} (hC : CB B 3 μ.1) (hW : WB B) (hL : LW T (lwB B) μ.1) (wT : WT T) (hs : set < 2 ^ B 0) (hv : v < B 1) (k1 : fP B T (eS B T set (B 0)) 99 v → ∀ μ' : Me, Ag scX μ.1 μ'.1 → Ψ (nI (defP B T set v)) μ') (k0 : ¬ fP B T (eS B T set (B 0)) 99 v → ∀ μ' : Me, Ag scX μ.1 μ'.1 → Ψ (-1) μ') : VI N 7 mX11_defeats [.ref 2, .int (nI set), .int (nI v)] μ Ψ := by
  have hn := hW.n
  have h5 := lwB_5 hW
  have hvv := hW.v hv
  have he9 : ∀ f, eS B T set (B 0) f ≤ 9 := eS_9 hW (Nat.le_refl _)
  refine tX11_defeats_0 (vi_b (fun Ψ => c_isS hC hW) (fun _ => vi_b (fun Ψ => c_isV hC hW) (fun _ => ?_) (fun g => absurd ⟨v, hv, rfl⟩ g)) (fun g => absurd ⟨set, hs, rfl⟩ g))
  refine c_fbs hC hW hL wT hs hv (fun μ1 b1 d1 _ g => ⟨fun e => absurd e (by decide), fun _ => ?_⟩) (fun μ1 b1 _ _ g => ⟨fun _ => ⟨_, rfl, k0 g μ1 (b1.mono (by decide))⟩, fun e => absurd rfl e⟩)
  refine vb_for (N := N) (d := 7) (M := mX11_defeats) (hd := 32) (τ := Me) (fun i _ => [.ref 2, .null, .int (nI v), .int (nI (bits i (fun f => !fB B T (ub (eS B T set (B 0)) f 9) 99 v))), .int (nI i)]) (fun _ ν => ν) 16 (fun i ν => Ag scX μ.1 ν.1 ∧ cEv (eS B T set (B 0)) (ν.1 69)) ?_ ?_ 0 μ1 (by omega) ⟨b1.mono (by decide), d1⟩
  · intro i ν hi ⟨hA, hE⟩ K'
    have g1 : ¬ 16 ≤ i := by omega
    have hp : 2 ^ i < 65536 := p2_lt (m := 16) hi
    have hl := lt31 (bits_lt i (fun f => !fB B T (ub (eS B T set (B 0)) f 9) 99 v)) (by omega)
    refine tX11_defeats_32 ?_
    simp (disch := omega) only [lit, Nat.add_sub_cancel, Nat.not_lt_zero, ↓m1_mI, nI_add, pk_mul, nx_and, nx_or, and31, sh_r, sh_1, nx_nand, Nat.and_one_is_mod, nI_clamp, nI_leI, nI_ltI, nI_eq, tb_1, vp_t, up2_a, up2_b, up2_c, br_1, br_0, true_and, and_true, mI_ne, mI_ne', mI_lt, mI_le, mI_nle, mI_nlt, pk_sub, mI_sub, eq_false g1]
    refine tX4_copy_0 (fun μ2 e2 => ⟨rfl, ?_⟩)
    have hE2 : cEv (eS B T set (B 0)) (μ2.1 (70 + 1)) := by
      intro s h1 h2
      subst e2
      show (upR ν.1 71 (fun j => if j < 10 then ν.1 69 j else ν.1 71 j) 71) s = _
      rw [upR_e]
      show (if s < 10 then ν.1 69 s else ν.1 71 s) = _
      rw [if_pos (by omega)]
      exact hE s h1 h2
    have hA2 : Ag scX μ.1 μ2.1 := by subst e2; exact hA.ro (by decide)
    have h69 : μ2.1 69 = ν.1 69 := by subst e2; exact (show upR ν.1 71 (fun j => if j < 10 then ν.1 69 j else ν.1 71 j) 69 = ν.1 69 from if_neg (by decide))
    refine c_addE (r0 := 70) (Or.inr rfl) hp (by decide) hE2 (fun μ3 a3 d3 => ?_)
    rw [ad_ub he9] at d3
    have hA3 : Ag scX μ.1 μ3.1 := hA2.tr (a3.mono (by decide))
    have h69' : cEv (eS B T set (B 0)) (μ3.1 69) := by rw [a3 69 (by decide), h69]; exact hE
    have hC3 := hC.sX hA3
    have Kn := K' μ3 ⟨hA3, h69'⟩
    refine c_ruling hC3 hW (fun h5 => ⟨h5, ?_⟩)
    simp (disch := omega) only [lit, Nat.add_sub_cancel, Nat.not_lt_zero, ↓m1_mI, nI_add, pk_mul, nx_and, nx_or, and31, sh_r, sh_1, nx_nand, Nat.and_one_is_mod, nI_clamp, nI_leI, nI_ltI, nI_eq, tb_1, vp_t, up2_a, up2_b, up2_c, br_1, br_0, true_and, and_true, mI_ne, mI_ne', mI_lt, mI_le, mI_nle, mI_nlt, pk_sub, mI_sub, hC3.k7, hC3.k8]
    refine vi_b (fun Ψ => c_carries (b := 99) (r1 := 70) h5 (Or.inr rfl) (hL.sX h5 hA3) wT (Or.inr rfl) d3 hvv.1 hvv.2.1 hvv.2.2.1) (fun q => ?_) (fun q => ?_)
    · rw [← bits_f (by rw [fB_iff.mpr q]; decide)] at Kn
      exact Kn
    · rw [← bits_t (by rw [eq_false_of_ne_true (fun z => q (fB_iff.mp z))]; rfl)] at Kn
      exact Kn
  · intro ν ⟨hA, _⟩
    refine tX11_defeats_32 ?_
    simp (disch := omega) only [lit, Nat.add_sub_cancel, Nat.not_lt_zero, ↓m1_mI, nI_add, pk_mul, nx_and, nx_or, and31, sh_r, sh_1, nx_nand, Nat.and_one_is_mod, nI_clamp, nI_leI, nI_ltI, nI_eq, tb_1, vp_t, up2_a, up2_b, up2_c, br_1, br_0, true_and, and_true, mI_ne, mI_ne', mI_lt, mI_le, mI_nle, mI_nlt, pk_sub, mI_sub, Nat.le_refl]
    exact ⟨_, rfl, k1 g ν hA⟩
theorem r_defeats {set v : Nat} {Ψ : Int32 → Me → Prop} (hB : rowB B (μ.1 131)) (hW : WB B) (hT : RuL B T μ.1) (wT : WT T) (hs : set < 2 ^ B 0) (hv : v < B 1) (k1 : fP B T (eS B T set (B 0)) 99 v → ∀ μ' : Me, Ag scR μ.1 μ'.1 → Ψ (nI (defP B T set v)) μ') (k0 : ¬ fP B T (eS B T set (B 0)) 99 v → ∀ μ' : Me, Ag scR μ.1 μ'.1 → Ψ (-1) μ') : VI N 7 mX12_defeats [.ref 130, .int (nI set), .int (nI v)] μ Ψ := by
  have hn := hW.n
  have hs31 : set < 2 ^ 31 := lt31 hs (by omega)
  have he9 : ∀ f, eS B T set (B 0) f ≤ 9 := eS_9 hW (Nat.le_refl _)
  refine tX12_defeats_0 (vi_b (fun Ψ => r_isS hB hW) (fun _ => vi_b (fun Ψ => r_isV hB hW) (fun _ => ?_) (fun g => absurd ⟨v, hv, rfl⟩ g)) (fun g => absurd ⟨set, hs, rfl⟩ g))
  refine r_ask hB hW hT wT (fun μ1 a1 s1 => ?_)
  have hB1 : rowB B (μ1.1 131) := by rw [a1 131 (by decide)]; exact hB
  have c1 : Ag scR μ.1 μ1.1 := a1.mono (by decide)
  refine r_fby (b := 99) hB1 hW (hT.fr (a1 133 (by decide))) wT (Or.inr rfl) hs hv s1 (fun μ2 a2 _ _ g => ⟨fun e => absurd e (by decide), fun _ => ?_⟩) (fun μ2 a2 _ _ g => ⟨fun _ => ⟨_, rfl, k0 g μ2 (c1.tr (a2.mono (by decide)))⟩, fun e => absurd rfl e⟩)
  have s2 := rSay_fr s1 (a2 141 (by decide))
  refine vb_for (N := N) (d := 7) (M := mX12_defeats) (hd := 39) (τ := Me) (fun i _ => [.ref 130, .int (nI set), .int (nI v), .int (nI (bits i (fun f => !fB B T (ub (eS B T set (B 0)) f 9) 99 v))), .int (nI i)]) (fun _ ν => ν) 16 (fun i ν => Ag scR μ.1 ν.1 ∧ rSay B T ν.1) ?_ ?_ 0 μ2 (by omega) ⟨c1.tr (a2.mono (by decide)), s2⟩
  · intro i ν hi ⟨hA, hS⟩ K'
    have g1 : ¬ 16 ≤ i := by omega
    have hB3 : rowB B (ν.1 131) := by rw [hA 131 (by decide)]; exact hB
    have hl := lt31 (bits_lt i (fun f => !fB B T (ub (eS B T set (B 0)) f 9) 99 v)) (by omega)
    refine tX12_defeats_39 ?_
    simp (disch := omega) only [lit, Nat.add_sub_cancel, Nat.not_lt_zero, ↓m1_mI, nI_add, pk_mul, nx_and, nx_or, and31, sh_r, sh_1, nx_nand, Nat.and_one_is_mod, nI_clamp, nI_leI, nI_ltI, nI_eq, tb_1, vp_t, up2_a, up2_b, up2_c, br_1, br_0, true_and, and_true, mI_ne, mI_ne', mI_lt, mI_le, mI_nle, mI_nlt, pk_sub, mI_sub, eq_false g1]
    refine r_bySet hB3 hW hs31 hS (fun μ4 a4 d4 => ?_)
    have hB4 : rowB B ((((up2 μ4.1 139 i (nI 9), μ4.2) : Me).1) 131) := by
      show rowB B (up2 μ4.1 139 i (nI 9) 131)
      rw [up2_ne (by decide), a4 131 (by decide)]; exact hB3
    have hT4 : RuL B T (((up2 μ4.1 139 i (nI 9), μ4.2) : Me).1) := hT.fr (by show up2 μ4.1 139 i (nI 9) 133 = _; rw [up2_ne (by decide), a4 133 (by decide), hA 133 (by decide)])
    refine r_show (b := 99) (e := ub (eS B T set (B 0)) i 9) hB4 hW hT4 wT (Or.inr rfl) (ub_9 he9) (fun f hf => ?_) (fun μ5 a5 d5 => ?_)
    · show up2 μ4.1 139 i (nI 9) 139 f = _
      by_cases ef : f = i
      · subst ef; rw [up2_c, ub_e]
      · rw [up2_b ef, ub_n ef]; exact d4 f hf
    have hB5 : rowB B (μ5.1 131) := by rw [a5 131 (by decide)]; exact hB4
    have hA5 : Ag scR μ.1 μ5.1 := by
      refine (hA.tr (a4.mono (by decide))).tr (Ag.tr ?_ (a5.mono (by decide)))
      exact Ag.up Ag.rf (by decide)
    have hS5 : rSay B T μ5.1 := rSay_fr hS (by rw [a5 141 (by decide)]; show up2 μ4.1 139 i (nI 9) 141 = _; rw [up2_ne (by decide), a4 141 (by decide)])
    have Kn := K' μ5 ⟨hA5, hS5⟩
    refine vi_b (fun Ψ => r_isShown hB5 hW hv (fun j _ => shN_9 wT (ub_9 he9) 16 j) d5) (fun q => ?_) (fun q => ?_)
    · rw [← bits_f (by rw [fB_iff.mpr q]; decide)] at Kn
      rw [Nat.or_zero]
      exact Kn
    · rw [← bits_t (by rw [eq_false_of_ne_true (fun z => q (fB_iff.mp z))]; rfl)] at Kn
      exact Kn
  · intro ν ⟨hA, _⟩
    refine tX12_defeats_39 ?_
    simp (disch := omega) only [lit, Nat.add_sub_cancel, Nat.not_lt_zero, ↓m1_mI, nI_add, pk_mul, nx_and, nx_or, and31, sh_r, sh_1, nx_nand, Nat.and_one_is_mod, nI_clamp, nI_leI, nI_ltI, nI_eq, tb_1, vp_t, up2_a, up2_b, up2_c, br_1, br_0, true_and, and_true, mI_ne, mI_ne', mI_lt, mI_le, mI_nle, mI_nlt, pk_sub, mI_sub, Nat.le_refl]
    exact ⟨_, rfl, k1 g ν hA⟩
theorem k_defeats {x1 x2 : Int32} {Φ : Int32 → Int32 → Me → Prop} (h : IV μ.1) (K : ∀ v (μ' : Me), IV μ'.1 → μ'.1 0 = μ.1 0 → Φ v v μ') : VI N 7 mX11_defeats [.ref 2, .int x1, .int x2] μ (fun v μ1 => μ1.1 0 = μ.1 0 ∧ VI N 7 mX12_defeats [.ref 130, .int x1, .int x2] μ1 (fun v' μ2 => Φ v v' μ2)) := by
  have h' := h
  obtain ⟨B, B', R, tp, tn, ft, fp, hw, hc, hr⟩ := h
  by_cases g1 : ∃ set, set < 2 ^ B 0 ∧ x1 = nI set
  · by_cases g2 : ∃ v, v < B 1 ∧ x2 = nI v
    · obtain ⟨set, hs, rfl⟩ := g1
      obtain ⟨v, hv, rfl⟩ := g2
      have fin : ∀ (x : Int32) (μ2 : Me), Ag scX μ.1 μ2.1 → (fP B (txB B R) (eS B (txB B R) set (B 0)) 99 v → x = nI (defP B (txB B R) set v)) → (¬ fP B (txB B R) (eS B (txB B R) set (B 0)) 99 v → x = -1) → μ2.1 0 = μ.1 0 ∧ VI N 7 mX12_defeats [.ref 130, .int (nI set), .int (nI v)] μ2 (fun v' μ2 => Φ x v' μ2) := by
        intro x μ2 b2 hx1 hx0
        have hB2 : rowB B (μ2.1 131) := by rw [b2 131 (by decide)]; exact hr.1
        have iv : ∀ ν2 : Me, Ag scR μ2.1 ν2.1 → IV ν2.1 ∧ ν2.1 0 = μ.1 0 := fun ν2 c2 => ⟨IV.same hw hc hr (b2.mono (by decide)) c2, by rw [c2 0 (by decide), b2 0 (by decide)]⟩
        try refine And.intro (by first | rfl | exact hA 0 (by decide) | exact b3 0 (by decide) | exact b2 0 (by decide) | exact a1 0 (by decide) | exact a1 0 (by omega) | exact a3 0 (by decide) (by decide) | simp (disch := omega) only [up2_ne]) ?_
        refine r_defeats hB2 hw.1 (hr.ruT.fr (b2 133 (by decide))) hw.ruT hs hv (fun g ν2 c2 => ?_) (fun g ν2 c2 => ?_)
        · rw [hx1 g]; exact K _ _ (iv ν2 c2).1 (iv ν2 c2).2
        · rw [hx0 g]; exact K _ _ (iv ν2 c2).1 (iv ν2 c2).2
      exact c_defeats hc.1 hw.1 (hc.ruL hw) hw.ruT hs hv (fun g μ2 b2 => fin _ μ2 b2 (fun _ => rfl) (fun q => absurd g q)) (fun g μ2 b2 => fin _ μ2 b2 (fun q => absurd q g) (fun _ => rfl))
    · exact tX11_defeats_0 (vi_b (fun Ψ => c_isS hc.1 hw.1) (fun _ => vi_b (fun Ψ => c_isV hc.1 hw.1) (fun q => absurd q g2) (fun _ => ⟨_, rfl, rfl, tX12_defeats_0 (vi_b (fun Ψ => r_isS hr.1 hw.1) (fun _ => vi_b (fun Ψ => r_isV hr.1 hw.1) (fun q => absurd q g2) (fun _ => ⟨_, rfl, K _ _ h' rfl⟩)) (fun q => absurd g1 q))⟩)) (fun q => absurd g1 q))
  · exact tX11_defeats_0 (vi_b (fun Ψ => c_isS hc.1 hw.1) (fun q => absurd q g1) (fun _ => ⟨_, rfl, rfl, tX12_defeats_0 (vi_b (fun Ψ => r_isS hr.1 hw.1) (fun q => absurd q g1) (fun _ => ⟨_, rfl, K _ _ h' rfl⟩))⟩))
/-! amend -/
def brd (T e : Nat → Nat) (k : Nat) : Prop := fl T k 5 &&& eb (shP T e 99) 1 ≠ 0 ∧ ndN (fl T k 4) (eb (shP T e 99) 1) = 0
theorem bent_same {k : Nat} (wT : WT T) (hk : k < T 0) (hr : fl T k 0 = 3) (hn : ¬ brd T e k) : ∀ f, f < 16 → shP T e k f = shP T e 99 f := by
  have h16 := wT.1.2
  intro f
  induction f using Nat.strongRecOn with
  | _ f ih =>
    intro hf
    apply nat_le_ext
    intro s hs
    rw [shP_le wT hf hs, shP_le wT hf hs]
    have key : ∀ j, j < T 0 → fl T j 0 = 3 → fl T j 1 = f → (s ≤ stg T (shP T e k) k j ↔ s ≤ stg T (shP T e 99) 99 j) := by
      intro j hj hjr hjf
      have hw := wT.2.1 j hj hjr
      have e1 : stg T (shP T e k) k j = stg T (shP T e 99) k j := stg_ext wT hj hjr (fun i hi => ih i (by omega) (by omega))
      rw [e1, stg_le hs, stg_le hs]
      by_cases ej : j = k
      · subst ej
        constructor
        · rintro ⟨z1, z2, _⟩
          refine ⟨z1, z2, Or.inr (fun i hi hb => ?_)⟩
          rcases Nat.eq_zero_or_pos (shP T e 99 i) with y | y
          · exact y
          · exfalso
            apply hn
            refine ⟨fun q => ?_, ?_⟩
            · have := (and_0 _ _).mp q i hb
              rw [eb_tb.mpr ⟨hi, y⟩] at this
              cases this
            · rw [ndN_0]
              intro i' hb'
              have hi' := tb_lt hw.2.2.2.2.1 hb'
              have := z2 i' (by omega) hb'
              exact eb_tb.mpr ⟨by omega, by omega⟩
        · rintro ⟨z1, z2, _⟩
          exact ⟨z1, z2, Or.inl rfl⟩
      · constructor
        · rintro ⟨z1, z2, z3⟩
          exact ⟨z1, z2, z3.elim (fun y => absurd y ej) Or.inr⟩
        · rintro ⟨z1, z2, z3⟩
          exact ⟨z1, z2, z3.elim (fun y => by omega) Or.inr⟩
    constructor
    · rintro (q | ⟨j, q1, q2, q3, q4⟩)
      · exact Or.inl q
      · exact Or.inr ⟨j, q1, q2, q3, (key j q1 q2 q3).mp q4⟩
    · rintro (q | ⟨j, q1, q2, q3, q4⟩)
      · exact Or.inl q
      · exact Or.inr ⟨j, q1, q2, q3, (key j q1 q2 q3).mpr q4⟩
theorem c_isBarred {r k : Nat} {Ψ : Int32 → Me → Prop} (h5 : isL5 r) (hL : LW T r μ.1) (wT : WT T) (hk : k < 16) (k1 : k < T 0 → fl T k 0 = 3 → brd T e k → Ψ 1 μ) (k0 : ¬ (k < T 0 ∧ fl T k 0 = 3 ∧ brd T e k) → Ψ 0 μ) : VI N 2 mX5_isBarred [.ref r, .int (nI k), .int (nI (eb (shP T e 99) 1))] μ Ψ := by
  have ha := eb_lt (shP T e 99) 1
  have g1 : ¬ 16 ≤ k := by omega
  have isr : ∀ Ψ' : Int32 → Me → Prop, Ψ' 1 μ → VI N 1 mX5_isRule [.ref r, .int (nI k)] μ Ψ' := by
    intro Ψ' h
    refine vb_wk (ls' := [.null, .int (nI k)]) ⟨rfl, trivial⟩ (tX5_isRule_0 ?_)
    simp (disch := omega) only [lit, Nat.add_sub_cancel, Nat.not_lt_zero, ↓m1_mI, nI_add, pk_mul, nx_and, nx_or, and31, sh_r, sh_1, nx_nand, Nat.and_one_is_mod, nI_clamp, nI_leI, nI_ltI, nI_eq, tb_1, vp_t, up2_a, up2_b, up2_c, br_1, br_0, true_and, and_true, mI_ne, mI_ne', mI_lt, mI_le, mI_nle, mI_nlt, pk_sub, mI_sub, eq_false g1]
    exact ⟨_, rfl, h⟩
  refine tX5_isBarred_0 h5 (isr _ ⟨fun q => absurd q (by decide), fun _ => ?_⟩)
  by_cases h : k < T 0 ∧ fl T k 0 = 3
  · obtain ⟨hk0, hr⟩ := h
    obtain ⟨q5, q6, q7, q8, q9⟩ := hL.2.2.2.1 k hk0 hr
    have hlt : fl T k 4 < 65536 ∧ fl T k 5 < 65536 := ⟨wT.1.1 _, wT.1.1 _⟩
    have hnd : ndN (fl T k 4) (eb (shP T e 99) 1) < 2 ^ 31 := lt31 (ndN_le _ _ (n := 16) hlt.1) (by decide)
    have han : fl T k 5 &&& eb (shP T e 99) 1 < 2 ^ 31 := Nat.lt_of_le_of_lt Nat.and_le_left (by omega)
    simp (disch := omega) only [lit, Nat.add_sub_cancel, Nat.not_lt_zero, ↓m1_mI, nI_add, pk_mul, nx_and, nx_or, and31, sh_r, sh_1, nx_nand, Nat.and_one_is_mod, nI_clamp, nI_leI, nI_ltI, nI_eq, tb_1, vp_t, up2_a, up2_b, up2_c, br_1, br_0, true_and, and_true, mI_ne, mI_ne', mI_lt, mI_le, mI_nle, mI_nlt, pk_sub, mI_sub, q8, q9]
    exact ⟨fun z => ⟨_, rfl, k0 (fun y => y.2.2.1 z)⟩, fun z => ⟨fun z2 => ⟨_, rfl, k1 hk0 hr ⟨z, z2⟩⟩, fun z2 => ⟨_, rfl, k0 (fun y => z2 y.2.2.2)⟩⟩⟩
  · obtain ⟨q8, q9⟩ := hL.2.2.2.2.1 k hk h
    simp (disch := omega) only [lit, Nat.add_sub_cancel, Nat.not_lt_zero, ↓m1_mI, nI_add, pk_mul, nx_and, nx_or, and31, sh_r, sh_1, nx_nand, Nat.and_one_is_mod, nI_clamp, nI_leI, nI_ltI, nI_eq, tb_1, vp_t, up2_a, up2_b, up2_c, br_1, br_0, true_and, and_true, mI_ne, mI_ne', mI_lt, mI_le, mI_nle, mI_nlt, pk_sub, mI_sub, q8, q9, Nat.zero_and]
    exact ⟨_, rfl, k0 (fun y => h ⟨y.1, y.2.1⟩)⟩
def amP (B T e : Nat → Nat) (v k : Nat) : Prop := k < T 0 ∧ fl T k 0 = 3 ∧ fP B T e k v
theorem amP_b {v k : Nat} (hW : WB B) (wT : WT T) (hv : v < B 1) (hn : ¬ fP B T e 99 v) (h : amP B T e v k) : brd T e k := by
  have hvv := hW.v hv
  apply Classical.byContradiction
  intro q
  have := bent_same wT h.1 h.2.1 q _ hvv.1
  have h3 := h.2.2
  unfold fP at h3 hn
  rw [this] at h3
  exact hn h3
theorem c_amend {set v : Nat} {Ψ : Int32 → Me → Prop} (hC : CB B 3 μ.1) (hW : WB B) (hL : LW T (lwB B) μ.1) (wT : WT T) (hs : set < 2 ^ B 0) (hv : v < B 1) (k1 : ∀ k, ¬ fP B T (eS B T set (B 0)) 99 v → amP B T (eS B T set (B 0)) v k → (∀ j, j < k → ¬ amP B T (eS B T set (B 0)) v j) → ∀ μ' : Me, Ag scW μ.1 μ'.1 → Ψ (nI k) μ') (k0 : (fP B T (eS B T set (B 0)) 99 v ∨ ∀ j, ¬ amP B T (eS B T set (B 0)) v j) → ∀ μ' : Me, Ag scW μ.1 μ'.1 → Ψ (-1) μ') : VI N 7 mX11_amend [.ref 2, .int (nI set), .int (nI v)] μ Ψ := by
  have hn := hW.n
  have h16 := wT.1.2
  refine tX11_amend_0 (vi_b (fun Ψ => c_isS hC hW) (fun _ => vi_b (fun Ψ => c_isV hC hW) (fun _ => ?_) (fun g => absurd ⟨v, hv, rfl⟩ g)) (fun g => absurd ⟨set, hs, rfl⟩ g))
  refine c_fbs hC hW hL wT hs hv (fun μ1 b1 d1 _ g => ⟨fun e => absurd e (by decide), fun _ => ⟨_, rfl, k0 (Or.inl g) μ1 b1⟩⟩) (fun μ1 b1 d1 _ g => ⟨fun _ => ?_, fun e => absurd rfl e⟩)
  have hC1 := hC.sW b1
  refine c_ruling hC1 hW (fun h5 => ⟨h5, ?_⟩)
  have hL1 := hL.sW h5 b1
  rw [d1 1 (by decide) (by decide)]
  refine c_atAll (b := 99) h5 hL1 wT (Or.inr rfl) ?_
  refine vb_wf (N := N) (d := 7) (M := mX11_amend) (hd := 48) (τ := Nat) (fun i => [.ref 2, .null, .int (nI v), .int (nI (eb (shP T (eS B T set (B 0)) 99) 1)), .int (nI i)]) (fun _ => μ1) (fun i => 16 - i) (fun i => i ≤ 16 ∧ ∀ j, j < i → ¬ amP B T (eS B T set (B 0)) v j) ?_ 0 ⟨by omega, fun j hj => absurd hj (Nat.not_lt_zero _)⟩
  rintro i ⟨hi, hno⟩ K'
  refine tX11_amend_48 ?_
  by_cases ei : i = 16
  · subst ei
    simp (disch := omega) only [lit, Nat.add_sub_cancel, Nat.not_lt_zero, ↓m1_mI, nI_add, pk_mul, nx_and, nx_or, and31, sh_r, sh_1, nx_nand, Nat.and_one_is_mod, nI_clamp, nI_leI, nI_ltI, nI_eq, tb_1, vp_t, up2_a, up2_b, up2_c, br_1, br_0, true_and, and_true, mI_ne, mI_ne', mI_lt, mI_le, mI_nle, mI_nlt, pk_sub, mI_sub, Nat.le_refl]
    refine ⟨_, rfl, k0 (Or.inr (fun j q => ?_)) μ1 b1⟩
    have := q.1
    exact hno j (by omega) q
  · have g1 : ¬ 16 ≤ i := by omega
    simp (disch := omega) only [lit, Nat.add_sub_cancel, Nat.not_lt_zero, ↓m1_mI, nI_add, pk_mul, nx_and, nx_or, and31, sh_r, sh_1, nx_nand, Nat.and_one_is_mod, nI_clamp, nI_leI, nI_ltI, nI_eq, tb_1, vp_t, up2_a, up2_b, up2_c, br_1, br_0, true_and, and_true, mI_ne, mI_ne', mI_lt, mI_le, mI_nle, mI_nlt, pk_sub, mI_sub, eq_false g1]
    have nx : ¬ amP B T (eS B T set (B 0)) v i → VB N 7 mX11_amend 48 [.ref 2, .null, .int (nI v), .int (nI (eb (shP T (eS B T set (B 0)) 99) 1)), .int (nI (i + 1))] [] μ1 (fun r μ' => ∃ v, r = some (.int v) ∧ Ψ v μ') := by
      intro q
      refine K' (i + 1) ⟨by omega, fun j hj => ?_⟩ (by omega)
      by_cases ej : j = i
      · subst ej; exact q
      · exact hno j (by omega)
    refine c_ruling hC1 hW (fun h5 => ⟨h5, ?_⟩)
    refine c_isBarred (e := eS B T set (B 0)) h5 hL1 wT (by omega) (fun q1 q2 q3 => ⟨fun e => absurd e (by decide), fun _ => ?_⟩) (fun q => ⟨fun _ => nx (fun z => q ⟨z.1, z.2.1, amP_b hW wT hv g z⟩), fun e => absurd rfl e⟩)
    have hbI : nI i = bI i := by unfold bI; rw [if_neg (by omega)]
    rw [hbI]
    refine vi_b (fun Ψ => c_carried (b := i) hC1 hW hL1 wT (Or.inl (by omega)) d1 hv) (fun z => ⟨_, rfl, ?_⟩) (fun z => ?_)
    · rw [← hbI]
      exact k1 i g ⟨q1, q2, z⟩ hno μ1 b1
    · exact nx (fun y => z y.2.2)
theorem r_amend {set v : Nat} {Ψ : Int32 → Me → Prop} (hB : rowB B (μ.1 131)) (hW : WB B) (hT : RuL B T μ.1) (wT : WT T) (hs : set < 2 ^ B 0) (hv : v < B 1) (k1 : ∀ k, ¬ fP B T (eS B T set (B 0)) 99 v → amP B T (eS B T set (B 0)) v k → (∀ j, j < k → ¬ amP B T (eS B T set (B 0)) v j) → ∀ μ' : Me, Ag scR μ.1 μ'.1 → Ψ (nI k) μ') (k0 : (fP B T (eS B T set (B 0)) 99 v ∨ ∀ j, ¬ amP B T (eS B T set (B 0)) v j) → ∀ μ' : Me, Ag scR μ.1 μ'.1 → Ψ (-1) μ') : VI N 7 mX12_amend [.ref 130, .int (nI set), .int (nI v)] μ Ψ := by
  have hn := hW.n
  have h16 := wT.1.2
  refine tX12_amend_0 (vi_b (fun Ψ => r_isS hB hW) (fun _ => vi_b (fun Ψ => r_isV hB hW) (fun _ => ?_) (fun g => absurd ⟨v, hv, rfl⟩ g)) (fun g => absurd ⟨set, hs, rfl⟩ g))
  refine r_ask hB hW hT wT (fun μ1 a1 s1 => ?_)
  have hB1 : rowB B (μ1.1 131) := by rw [a1 131 (by decide)]; exact hB
  have c1 : Ag scR μ.1 μ1.1 := a1.mono (by decide)
  refine r_fby (b := 99) hB1 hW (hT.fr (a1 133 (by decide))) wT (Or.inr rfl) hs hv s1 (fun μ2 a2 _ _ g => ⟨fun e => absurd e (by decide), fun _ => ⟨_, rfl, k0 (Or.inl g) μ2 (c1.tr (a2.mono (by decide)))⟩⟩) (fun μ2 a2 _ _ g => ⟨fun _ => ?_, fun e => absurd rfl e⟩)
  refine vb_wf (N := N) (d := 7) (M := mX12_amend) (hd := 36) (τ := Nat × Me) (fun x => [.ref 130, .int (nI set), .int (nI v), .int (nI x.1)]) (fun x => x.2) (fun x => 16 - x.1) (fun x => x.1 ≤ T 0 ∧ (∀ j, j < x.1 → ¬ amP B T (eS B T set (B 0)) v j) ∧ Ag scR μ.1 x.2.1 ∧ rSay B T x.2.1) ?_ (0, μ2) ⟨by omega, fun j hj => absurd hj (Nat.not_lt_zero _), c1.tr (a2.mono (by decide)), rSay_fr s1 (a2 141 (by decide))⟩
  rintro ⟨i, ν⟩ ⟨hi, hno, hA, hS⟩ K'
  dsimp only at hi hno hA hS K' ⊢
  have hB3 : rowB B (ν.1 131) := by rw [hA 131 (by decide)]; exact hB
  have hT3 := hT.fr (hA 133 (by decide))
  refine tX12_amend_36 (r_clauses hB3 hW hT3 ?_)
  by_cases ei : i = T 0
  · subst ei
    simp (disch := omega) only [lit, Nat.add_sub_cancel, Nat.not_lt_zero, ↓m1_mI, nI_add, pk_mul, nx_and, nx_or, and31, sh_r, sh_1, nx_nand, Nat.and_one_is_mod, nI_clamp, nI_leI, nI_ltI, nI_eq, tb_1, vp_t, up2_a, up2_b, up2_c, br_1, br_0, true_and, and_true, mI_ne, mI_ne', mI_lt, mI_le, mI_nle, mI_nlt, pk_sub, mI_sub, Nat.le_refl]
    refine ⟨_, rfl, k0 (Or.inr (fun j q => hno j q.1 q)) ν hA⟩
  · have g1 : ¬ T 0 ≤ i := by omega
    simp (disch := omega) only [lit, Nat.add_sub_cancel, Nat.not_lt_zero, ↓m1_mI, nI_add, pk_mul, nx_and, nx_or, and31, sh_r, sh_1, nx_nand, Nat.and_one_is_mod, nI_clamp, nI_leI, nI_ltI, nI_eq, tb_1, vp_t, up2_a, up2_b, up2_c, br_1, br_0, true_and, and_true, mI_ne, mI_ne', mI_lt, mI_le, mI_nle, mI_nlt, pk_sub, mI_sub, eq_false g1]
    have nx : ∀ ν' : Me, Ag scR μ.1 ν'.1 → rSay B T ν'.1 → ¬ amP B T (eS B T set (B 0)) v i → VB N 7 mX12_amend 36 [.ref 130, .int (nI set), .int (nI v), .int (nI (i + 1))] [] ν' (fun r μ' => ∃ v, r = some (.int v) ∧ Ψ v μ') := by
      intro ν' q1 q2 q
      refine K' (i + 1, ν') ⟨by omega, fun j hj => ?_, q1, q2⟩ (by omega)
      by_cases ej : j = i
      · subst ej; exact q
      · exact hno j (by omega)
    refine vi_b (fun Ψ => r_isRule hB3 hW hT3 wT (by omega)) (fun q2 => ?_) (fun q2 => nx ν hA hS (fun z => q2 z.2.1))
    have hbI : nI i = bI i := by unfold bI; rw [if_neg (by omega)]
    rw [hbI]
    refine r_fby (b := i) hB3 hW hT3 wT (Or.inl (by omega)) hs hv hS (fun μ5 a5 _ _ z => ⟨fun e => absurd e (by decide), fun _ => ⟨_, rfl, ?_⟩⟩) (fun μ5 a5 _ _ z => ⟨fun _ => ?_, fun e => absurd rfl e⟩)
    · rw [← hbI]
      exact k1 i g ⟨by omega, q2, z⟩ hno μ5 (hA.tr (a5.mono (by decide)))
    · exact nx μ5 (hA.tr (a5.mono (by decide))) (rSay_fr hS (a5 141 (by decide))) (fun y => z y.2.2)
theorem k_amend {x1 x2 : Int32} {Φ : Int32 → Int32 → Me → Prop} (h : IV μ.1) (K : ∀ v (μ' : Me), IV μ'.1 → μ'.1 0 = μ.1 0 → Φ v v μ') : VI N 7 mX11_amend [.ref 2, .int x1, .int x2] μ (fun v μ1 => μ1.1 0 = μ.1 0 ∧ VI N 7 mX12_amend [.ref 130, .int x1, .int x2] μ1 (fun v' μ2 => Φ v v' μ2)) := by
  have h' := h
  obtain ⟨B, B', R, tp, tn, ft, fp, hw, hc, hr⟩ := h
  by_cases g1 : ∃ set, set < 2 ^ B 0 ∧ x1 = nI set
  · by_cases g2 : ∃ v, v < B 1 ∧ x2 = nI v
    · obtain ⟨set, hs, rfl⟩ := g1
      obtain ⟨v, hv, rfl⟩ := g2
      refine c_amend hc.1 hw.1 (hc.ruL hw) hw.ruT hs hv (fun k z0 z1 z2 μ2 b2 => ?_) (fun z μ2 b2 => ?_)
      · have hB2 : rowB B (μ2.1 131) := by rw [b2 131 (by decide)]; exact hr.1
        try refine And.intro (by first | rfl | exact hA 0 (by decide) | exact b3 0 (by decide) | exact b2 0 (by decide) | exact a1 0 (by decide) | exact a1 0 (by omega) | exact a3 0 (by decide) (by decide) | simp (disch := omega) only [up2_ne]) ?_
        refine r_amend hB2 hw.1 (hr.ruT.fr (b2 133 (by decide))) hw.ruT hs hv (fun k' _ y1 y2 ν2 c2 => ?_) (fun y ν2 c2 => absurd z1 (y.resolve_left z0 k))
        have ek : k' = k := by
          rcases Nat.lt_trichotomy k' k with q | q | q
          · exact absurd y1 (z2 k' q)
          · exact q
          · exact absurd z1 (y2 k q)
        subst ek
        exact K _ _ (IV.same hw hc hr (scW_C b2) c2) (by rw [c2 0 (by decide), b2 0 (by decide)])
      · have hB2 : rowB B (μ2.1 131) := by rw [b2 131 (by decide)]; exact hr.1
        try refine And.intro (by first | rfl | exact hA 0 (by decide) | exact b3 0 (by decide) | exact b2 0 (by decide) | exact a1 0 (by decide) | exact a1 0 (by omega) | exact a3 0 (by decide) (by decide) | simp (disch := omega) only [up2_ne]) ?_
        refine r_amend hB2 hw.1 (hr.ruT.fr (b2 133 (by decide))) hw.ruT hs hv (fun k' y0 y1 y2 ν2 c2 => absurd y1 (z.resolve_left y0 k')) (fun y ν2 c2 => K _ _ (IV.same hw hc hr (scW_C b2) c2) (by rw [c2 0 (by decide), b2 0 (by decide)]))
    · exact tX11_amend_0 (vi_b (fun Ψ => c_isS hc.1 hw.1) (fun _ => vi_b (fun Ψ => c_isV hc.1 hw.1) (fun q => absurd q g2) (fun _ => ⟨_, rfl, rfl, tX12_amend_0 (vi_b (fun Ψ => r_isS hr.1 hw.1) (fun _ => vi_b (fun Ψ => r_isV hr.1 hw.1) (fun q => absurd q g2) (fun _ => ⟨_, rfl, K _ _ h' rfl⟩)) (fun q => absurd g1 q))⟩)) (fun q => absurd g1 q))
  · exact tX11_amend_0 (vi_b (fun Ψ => c_isS hc.1 hw.1) (fun q => absurd q g1) (fun _ => ⟨_, rfl, rfl, tX12_amend_0 (vi_b (fun Ψ => r_isS hr.1 hw.1) (fun q => absurd q g1) (fun _ => ⟨_, rfl, K _ _ h' rfl⟩))⟩))
end DA
