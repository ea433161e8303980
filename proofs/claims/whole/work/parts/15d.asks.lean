/-! shown, known, follows, appeal -/
section KS
variable {N : Nat} {μ : Me} {B B' R T tp : Nat → Nat} {tn : Nat} {ft fp : Int32} {b : Nat} {e : Nat → Nat}
def fP (B T e : Nat → Nat) (b v : Nat) : Prop := B (60 + 3 * v + 1) ≤ shP T e b (B (60 + 3 * v))
theorem c_carried {v : Nat} {Ψ : Int32 → Me → Prop} (hC : CB B 3 μ.1) (hW : WB B) (hL : LW T (lwB B) μ.1) (wT : WT T) (hb : b < 16 ∨ b = 99) (he : cEv e (μ.1 69)) (hv : v < B 1) (k1 : fP B T e b v → Ψ 1 μ) (k0 : ¬ fP B T e b v → Ψ 0 μ) : VI N 3 mX11_carried [.ref 2, .int (nI v), .int (bI b)] μ Ψ := by
  have hn := hW.n
  have hvv := hW.v hv
  refine tX11_carried_0 (c_ruling hC hW (fun h5 => ⟨h5, ?_⟩))
  simp (disch := omega) only [lit, Nat.add_sub_cancel, Nat.not_lt_zero, ↓m1_mI, nI_add, pk_mul, nx_and, nx_or, and31, sh_r, sh_1, nx_nand, Nat.and_one_is_mod, nI_clamp, nI_leI, nI_ltI, nI_eq, tb_1, vp_t, up2_a, up2_b, up2_c, br_1, br_0, true_and, and_true, mI_ne, mI_ne', mI_lt, mI_le, mI_nle, mI_nlt, pk_sub, mI_sub, hC.k7, hC.k8]
  exact c_carries (r1 := 68) h5 (Or.inl rfl) hL wT hb he hvv.1 hvv.2.1 hvv.2.2.1 (fun q => ⟨Or.inr rfl, _, rfl, k1 q⟩) (fun q => ⟨Or.inl rfl, _, rfl, k0 q⟩)
def scW : List Nat := [82, 50, 96, 107, 118, 129, 83, 69]
theorem CB.sW {I I' : Nat → Nat → Int32} (hC : CB B 3 I) (h : Ag scW I I') : CB B 3 I' := hC.fr (fun a k1 k2 => h a (by simp [scW]; omega))
theorem LW.sW {I I' : Nat → Nat → Int32} {r : Nat} (h5 : isL5 r) (hL : LW T r I) (h : Ag scW I I') : LW T r I' := hL.fr (fun a k1 k2 => h a (by unfold isL5 at h5; simp [scW]; omega))
theorem scW_C {I I' : Nat → Nat → Int32} (h : Ag scW I I') : Ag scC I I' := h.mono (by decide)
theorem c_fbs {set v : Nat} {Ψ : Int32 → Me → Prop} (hC : CB B 3 μ.1) (hW : WB B) (hL : LW T (lwB B) μ.1) (wT : WT T) (hs : set < 2 ^ B 0) (hv : v < B 1) (k1 : ∀ μ' : Me, Ag scW μ.1 μ'.1 → cEv (eS B T set (B 0)) (μ'.1 69) → cSay B T μ'.1 → fP B T (eS B T set (B 0)) 99 v → Ψ 1 μ') (k0 : ∀ μ' : Me, Ag scW μ.1 μ'.1 → cEv (eS B T set (B 0)) (μ'.1 69) → cSay B T μ'.1 → ¬ fP B T (eS B T set (B 0)) 99 v → Ψ 0 μ') : VI N 6 mX11_followsBySet [.ref 2, .int (nI set), .int (nI v)] μ Ψ := by
  have hn := hW.n
  have h5 := lwB_5 hW
  have hs30 : set < 2 ^ 30 := Nat.lt_of_lt_of_le hs (Nat.pow_le_pow_right (by decide) (by omega))
  refine tX11_followsBySet_0 (c_findSayings hC hW hL wT (fun μ1 a1 d1 => ?_))
  have b1 : Ag scW μ.1 μ1.1 := a1.mono (by decide)
  refine c_weigh (hC.sW b1) hW hs30 d1 (fun μ2 a2 d2 => ?_)
  have b2 : Ag scW μ.1 μ2.1 := b1.tr (a2.mono (by decide))
  have d3 : cSay B T μ2.1 := fun w hw => by rw [a2 83 (by decide)]; exact d1 w hw
  exact c_carried (b := 99) (hC.sW b2) hW (hL.sW h5 b2) wT (Or.inr rfl) d2 hv (fun q => ⟨Or.inr rfl, _, rfl, k1 μ2 b2 d2 d3 q⟩) (fun q => ⟨Or.inl rfl, _, rfl, k0 μ2 b2 d2 d3 q⟩)
theorem r_fby {set v : Nat} {Ψ : Int32 → Me → Prop} (hB : rowB B (μ.1 131)) (hW : WB B) (hT : RuL B T μ.1) (wT : WT T) (hb : b < 16 ∨ b = 99) (hs : set < 2 ^ B 0) (hv : v < B 1) (hS : rSay B T μ.1) (k1 : ∀ μ' : Me, Ag [139, 140] μ.1 μ'.1 → (∀ f, f < 16 → μ'.1 139 f = nI (eS B T set (B 0) f)) → (∀ f, f < 16 → μ'.1 140 f = nI (shP T (eS B T set (B 0)) b f)) → fP B T (eS B T set (B 0)) b v → Ψ 1 μ') (k0 : ∀ μ' : Me, Ag [139, 140] μ.1 μ'.1 → (∀ f, f < 16 → μ'.1 139 f = nI (eS B T set (B 0) f)) → (∀ f, f < 16 → μ'.1 140 f = nI (shP T (eS B T set (B 0)) b f)) → ¬ fP B T (eS B T set (B 0)) b v → Ψ 0 μ') : VI N 4 mX12_followsBy [.ref 130, .int (nI set), .int (nI v), .int (bI b)] μ Ψ := by
  have hn := hW.n
  have hs31 : set < 2 ^ 31 := lt31 hs (by omega)
  have he9 : ∀ f, eS B T set (B 0) f ≤ 9 := eS_9 hW (Nat.le_refl _)
  refine tX12_followsBy_0 (r_bySet hB hW hs31 hS (fun μ1 a1 d1 => ?_))
  have hB1 : rowB B (μ1.1 131) := by rw [a1 131 (by decide)]; exact hB
  refine r_show hB1 hW (hT.fr (a1 133 (by decide))) wT hb he9 d1 (fun μ2 a2 d2 => ?_)
  have hB2 : rowB B (μ2.1 131) := by rw [a2 131 (by decide)]; exact hB1
  have b2 : Ag [139, 140] μ.1 μ2.1 := (a1.mono (by decide)).tr (a2.mono (by decide))
  have d3 : ∀ f, f < 16 → μ2.1 139 f = nI (eS B T set (B 0) f) := fun f hf => by rw [a2 139 (by decide)]; exact d1 f hf
  exact r_isShown hB2 hW hv (fun j _ => shN_9 wT he9 16 j) d2 (fun q => ⟨Or.inr rfl, _, rfl, k1 μ2 b2 d3 d2 q⟩) (fun q => ⟨Or.inl rfl, _, rfl, k0 μ2 b2 d3 d2 q⟩)
theorem rSay_fr {I I' : Nat → Nat → Int32} (h : rSay B T I) (he : I' 141 = I 141) : rSay B T I' := fun w hw => by rw [he]; exact h w hw
theorem k_shown {x1 x2 : Int32} {Φ : Int32 → Int32 → Me → Prop} (h : IV μ.1) (K : ∀ v (μ' : Me), IV μ'.1 → μ'.1 0 = μ.1 0 → Φ v v μ') : VI N 6 mX11_shown [.ref 2, .int x1, .int x2] μ (fun v μ1 => μ1.1 0 = μ.1 0 ∧ VI N 7 mX12_shown [.ref 130, .int x1, .int x2] μ1 (fun v' μ2 => Φ v v' μ2)) := by
  have h' := h
  obtain ⟨B, B', R, tp, tn, ft, fp, hw, hc, hr⟩ := h
  have hn := hw.1.n
  have h5 := lwB_5 hw.1
  have hL := hc.ruL hw
  have hT := hr.ruT
  have wT := hw.ruT
  refine tX11_shown_0 (vi_b (fun Ψ => c_isS hc.1 hw.1) (fun g1 => ?_) (fun g => ⟨_, rfl, rfl, tX12_shown_0 (vi_b (fun Ψ => r_isS hr.1 hw.1) (fun g' => absurd g' g) (fun _ => ⟨_, rfl, K _ _ h' rfl⟩))⟩))
  refine vi_b (fun Ψ => c_isF) (fun g2 => ?_) (fun g => ⟨_, rfl, rfl, tX12_shown_0 (vi_b (fun Ψ => r_isS hr.1 hw.1) (fun _ => vi_b (fun Ψ => r_isF) (fun g' => absurd g' g) (fun _ => ⟨_, rfl, K _ _ h' rfl⟩)) (fun g' => absurd g1 g'))⟩)
  obtain ⟨set, hs, rfl⟩ := g1
  obtain ⟨f, hf, rfl⟩ := g2
  have hs30 : set < 2 ^ 30 := Nat.lt_of_lt_of_le hs (Nat.pow_le_pow_right (by decide) (by omega))
  have he9 : ∀ f, eS B (txB B R) set (B 0) f ≤ 9 := eS_9 hw.1 (Nat.le_refl _)
  refine c_findSayings hc.1 hw.1 hL wT (fun μ1 a1 d1 => ?_)
  have b1 : Ag scW μ.1 μ1.1 := a1.mono (by decide)
  refine c_weigh (hc.1.sW b1) hw.1 hs30 d1 (fun μ2 a2 d2 => ?_)
  have b2 : Ag scW μ.1 μ2.1 := b1.tr (a2.mono (by decide))
  refine c_ruling (hc.1.sW b2) hw.1 (fun h5 => ⟨h5, ?_⟩)
  refine c_strength h5 (hL.sW h5 b2) wT d2 he9 hf ⟨_, rfl, ?_⟩
  have hB2 : rowB B (μ2.1 131) := by rw [b2 131 (by decide)]; exact hr.1
  try refine And.intro (by first | rfl | exact hA 0 (by decide) | exact b3 0 (by decide) | exact b2 0 (by decide) | exact a1 0 (by decide) | exact a1 0 (by omega) | exact a3 0 (by decide) (by decide) | simp (disch := omega) only [up2_ne]) ?_
  refine tX12_shown_0 (vi_b (fun Ψ => r_isS hB2 hw.1) (fun _ => vi_b (fun Ψ => r_isF) (fun _ => ?_) (fun g => absurd ⟨f, hf, rfl⟩ g)) (fun g => absurd ⟨set, hs, rfl⟩ g))
  refine r_ask hB2 hw.1 (hT.fr (b2 133 (by decide))) wT (fun ν1 c1 s1 => ?_)
  have hB3 : rowB B (ν1.1 131) := by rw [c1 131 (by decide)]; exact hB2
  refine r_bySet hB3 hw.1 (by omega) s1 (fun ν2 c2 s2 => ?_)
  have hB4 : rowB B (ν2.1 131) := by rw [c2 131 (by decide)]; exact hB3
  refine r_show (b := 99) hB4 hw.1 (((hT.fr (b2 133 (by decide))).fr (c1 133 (by decide))).fr (c2 133 (by decide))) wT (Or.inr rfl) he9 s2 (fun ν3 c3 s3 => ?_)
  simp (disch := omega) only [lit, Nat.add_sub_cancel, Nat.not_lt_zero, ↓m1_mI, nI_add, pk_mul, nx_and, nx_or, and31, sh_r, sh_1, nx_nand, Nat.and_one_is_mod, nI_clamp, nI_leI, nI_ltI, nI_eq, tb_1, vp_t, up2_a, up2_b, up2_c, br_1, br_0, true_and, and_true, mI_ne, mI_ne', mI_lt, mI_le, mI_nle, mI_nlt, pk_sub, mI_sub, s3]
  refine ⟨_, rfl, K _ _ (IV.same hw hc hr (scW_C b2) (I' := ν3.1) ?_) ?_⟩
  · exact (c1.mono (by decide)).tr ((c2.mono (by decide)).tr (c3.mono (by decide)))
  · rw [c3 0 (by decide), c2 0 (by decide), c1 0 (by decide), b2 0 (by decide)]
theorem k_known {x1 x2 : Int32} {Φ : Int32 → Int32 → Me → Prop} (h : IV μ.1) (K : ∀ v (μ' : Me), IV μ'.1 → μ'.1 0 = μ.1 0 → Φ v v μ') : VI N 3 mX11_known [.ref 2, .int x1, .int x2] μ (fun v μ1 => μ1.1 0 = μ.1 0 ∧ VI N 4 mX12_known [.ref 130, .int x1, .int x2] μ1 (fun v' μ2 => Φ v v' μ2)) := by
  have h' := h
  obtain ⟨B, B', R, tp, tn, ft, fp, hw, hc, hr⟩ := h
  have hn := hw.1.n
  have h5 := lwB_5 hw.1
  have hL := hc.ruL hw
  have hT := hr.ruT
  have wT := hw.ruT
  refine tX11_known_0 (vi_b (fun Ψ => c_isHC hc.1 hw.1) (fun g1 => ?_) (fun g => ⟨_, rfl, rfl, tX12_known_0 (vi_b (fun Ψ => r_isHC hr.1 hw.1) (fun g' => absurd g' g) (fun _ => ⟨_, rfl, K _ _ h' rfl⟩))⟩))
  refine vi_b (fun Ψ => c_isF) (fun g2 => ?_) (fun g => ⟨_, rfl, rfl, tX12_known_0 (vi_b (fun Ψ => r_isHC hr.1 hw.1) (fun _ => vi_b (fun Ψ => r_isF) (fun g' => absurd g' g) (fun _ => ⟨_, rfl, K _ _ h' rfl⟩)) (fun g' => absurd g1 g'))⟩)
  obtain ⟨k, hk, rfl⟩ := g1
  obtain ⟨f, hf, rfl⟩ := g2
  have he9 : ∀ f, eH B k f ≤ 9 := eH_9 hw.1 hk
  refine c_weighHeard hc.1 hw.1 hk (fun μ2 a2 d2 => ?_)
  have b2 : Ag scW μ.1 μ2.1 := a2.mono (by decide)
  refine c_ruling (hc.1.sW b2) hw.1 (fun h5 => ⟨h5, ?_⟩)
  refine c_strength h5 (hL.sW h5 b2) wT d2 he9 hf ⟨_, rfl, ?_⟩
  have hB2 : rowB B (μ2.1 131) := by rw [b2 131 (by decide)]; exact hr.1
  try refine And.intro (by first | rfl | exact hA 0 (by decide) | exact b3 0 (by decide) | exact b2 0 (by decide) | exact a1 0 (by decide) | exact a1 0 (by omega) | exact a3 0 (by decide) (by decide) | simp (disch := omega) only [up2_ne]) ?_
  refine tX12_known_0 (vi_b (fun Ψ => r_isHC hB2 hw.1) (fun _ => vi_b (fun Ψ => r_isF) (fun _ => ?_) (fun g => absurd ⟨f, hf, rfl⟩ g)) (fun g => absurd ⟨k, hk, rfl⟩ g))
  refine r_byHeard hB2 hw.1 hk (fun ν2 c2 s2 => ?_)
  have hB4 : rowB B (ν2.1 131) := by rw [c2 131 (by decide)]; exact hB2
  refine r_show (b := 99) hB4 hw.1 ((hT.fr (b2 133 (by decide))).fr (c2 133 (by decide))) wT (Or.inr rfl) he9 s2 (fun ν3 c3 s3 => ?_)
  simp (disch := omega) only [lit, Nat.add_sub_cancel, Nat.not_lt_zero, ↓m1_mI, nI_add, pk_mul, nx_and, nx_or, and31, sh_r, sh_1, nx_nand, Nat.and_one_is_mod, nI_clamp, nI_leI, nI_ltI, nI_eq, tb_1, vp_t, up2_a, up2_b, up2_c, br_1, br_0, true_and, and_true, mI_ne, mI_ne', mI_lt, mI_le, mI_nle, mI_nlt, pk_sub, mI_sub, s3]
  refine ⟨_, rfl, K _ _ (IV.same hw hc hr (scW_C b2) (I' := ν3.1) ?_) ?_⟩
  · exact (c2.mono (by decide)).tr (c3.mono (by decide))
  · rw [c3 0 (by decide), c2 0 (by decide), b2 0 (by decide)]
theorem k_appeal {x1 x2 : Int32} {Φ : Int32 → Int32 → Me → Prop} (h : IV μ.1) (K : ∀ v (μ' : Me), IV μ'.1 → μ'.1 0 = μ.1 0 → Φ v v μ') : VI N 4 mX11_appeal [.ref 2, .int x1, .int x2] μ (fun v μ1 => μ1.1 0 = μ.1 0 ∧ VI N 4 mX12_appeal [.ref 130, .int x1, .int x2] μ1 (fun v' μ2 => Φ v v' μ2)) := by
  have h' := h
  obtain ⟨B, B', R, tp, tn, ft, fp, hw, hc, hr⟩ := h
  have hn := hw.1.n
  have h5 := lwB_5 hw.1
  have hL := hc.ruL hw
  have hT := hr.ruT
  have wT := hw.ruT
  refine tX11_appeal_0 (vi_b (fun Ψ => c_isHC hc.1 hw.1) (fun g1 => ?_) (fun g => ⟨_, rfl, rfl, tX12_appeal_0 (vi_b (fun Ψ => r_isHC hr.1 hw.1) (fun g' => absurd g' g) (fun _ => ⟨_, rfl, K _ _ h' rfl⟩))⟩))
  refine vi_b (fun Ψ => c_isV hc.1 hw.1) (fun g2 => ?_) (fun g => ⟨_, rfl, rfl, tX12_appeal_0 (vi_b (fun Ψ => r_isHC hr.1 hw.1) (fun _ => vi_b (fun Ψ => r_isV hr.1 hw.1) (fun g' => absurd g' g) (fun _ => ⟨_, rfl, K _ _ h' rfl⟩)) (fun g' => absurd g1 g'))⟩)
  obtain ⟨k, hk, rfl⟩ := g1
  obtain ⟨v, hv, rfl⟩ := g2
  have he9 : ∀ f, eH B k f ≤ 9 := eH_9 hw.1 hk
  refine c_weighHeard hc.1 hw.1 hk (fun μ2 a2 d2 => ?_)
  have b2 : Ag scW μ.1 μ2.1 := a2.mono (by decide)
  have hB2 : rowB B (μ2.1 131) := by rw [b2 131 (by decide)]; exact hr.1
  have fin : ∀ x : Int32, (fP B (txB B R) (eH B k) 99 v → x = 1) → (¬ fP B (txB B R) (eH B k) 99 v → x = 0) → μ2.1 0 = μ.1 0 ∧ VI N 4 mX12_appeal [.ref 130, .int (nI k), .int (nI v)] μ2 (fun v' μ2 => Φ x v' μ2) := by
    intro x hx1 hx0
    try refine And.intro (by first | rfl | exact hA 0 (by decide) | exact b3 0 (by decide) | exact b2 0 (by decide) | exact a1 0 (by decide) | exact a1 0 (by omega) | exact a3 0 (by decide) (by decide) | simp (disch := omega) only [up2_ne]) ?_
    refine tX12_appeal_0 (vi_b (fun Ψ => r_isHC hB2 hw.1) (fun _ => vi_b (fun Ψ => r_isV hB2 hw.1) (fun _ => ?_) (fun g => absurd ⟨v, hv, rfl⟩ g)) (fun g => absurd ⟨k, hk, rfl⟩ g))
    refine r_byHeard hB2 hw.1 hk (fun ν2 c2 s2 => ?_)
    have hB4 : rowB B (ν2.1 131) := by rw [c2 131 (by decide)]; exact hB2
    refine r_show (b := 99) hB4 hw.1 ((hT.fr (b2 133 (by decide))).fr (c2 133 (by decide))) wT (Or.inr rfl) he9 s2 (fun ν3 c3 s3 => ?_)
    have hB5 : rowB B (ν3.1 131) := by rw [c3 131 (by decide)]; exact hB4
    have iv : IV ν3.1 := IV.same hw hc hr (scW_C b2) ((c2.mono (by decide)).tr (c3.mono (by decide)))
    have i0 : ν3.1 0 = μ.1 0 := by rw [c3 0 (by decide), c2 0 (by decide), b2 0 (by decide)]
    refine vi_b (fun Ψ => r_isShown hB5 hw.1 hv (fun j _ => shN_9 wT he9 16 j) s3) (fun g => ⟨_, rfl, ?_⟩) (fun g => ⟨_, rfl, ?_⟩)
    · rw [hx1 g]; exact K _ _ iv i0
    · rw [hx0 g]; exact K _ _ iv i0
  exact vi_b (fun Ψ => c_carried (b := 99) (hc.1.sW b2) hw.1 (hL.sW h5 b2) wT (Or.inr rfl) d2 hv) (fun g => ⟨_, rfl, fin _ (fun _ => rfl) (fun q => absurd g q)⟩) (fun g => ⟨_, rfl, fin _ (fun q => absurd q g) (fun _ => rfl)⟩)
theorem k_follows {x1 x2 : Int32} {Φ : Int32 → Int32 → Me → Prop} (h : IV μ.1) (K : ∀ v (μ' : Me), IV μ'.1 → μ'.1 0 = μ.1 0 → Φ v v μ') : VI N 7 mX11_follows [.ref 2, .int x1, .int x2] μ (fun v μ1 => μ1.1 0 = μ.1 0 ∧ VI N 7 mX12_follows [.ref 130, .int x1, .int x2] μ1 (fun v' μ2 => Φ v v' μ2)) := by
  have h' := h
  obtain ⟨B, B', R, tp, tn, ft, fp, hw, hc, hr⟩ := h
  have hn := hw.1.n
  have hL := hc.ruL hw
  have hT := hr.ruT
  have wT := hw.ruT
  refine tX11_follows_0 (vi_b (fun Ψ => c_isS hc.1 hw.1) (fun g1 => ?_) (fun g => ⟨_, rfl, rfl, tX12_follows_0 (vi_b (fun Ψ => r_isS hr.1 hw.1) (fun g' => absurd g' g) (fun _ => ⟨_, rfl, K _ _ h' rfl⟩))⟩))
  refine vi_b (fun Ψ => c_isV hc.1 hw.1) (fun g2 => ?_) (fun g => ⟨_, rfl, rfl, tX12_follows_0 (vi_b (fun Ψ => r_isS hr.1 hw.1) (fun _ => vi_b (fun Ψ => r_isV hr.1 hw.1) (fun g' => absurd g' g) (fun _ => ⟨_, rfl, K _ _ h' rfl⟩)) (fun g' => absurd g1 g'))⟩)
  obtain ⟨set, hs, rfl⟩ := g1
  obtain ⟨v, hv, rfl⟩ := g2
  have fin : ∀ (x : Int32) (μ2 : Me), Ag scW μ.1 μ2.1 → (fP B (txB B R) (eS B (txB B R) set (B 0)) 99 v → x = 1) → (¬ fP B (txB B R) (eS B (txB B R) set (B 0)) 99 v → x = 0) → μ2.1 0 = μ.1 0 ∧ VI N 7 mX12_follows [.ref 130, .int (nI set), .int (nI v)] μ2 (fun v' μ2 => Φ x v' μ2) := by
    intro x μ2 b2 hx1 hx0
    have hB2 : rowB B (μ2.1 131) := by rw [b2 131 (by decide)]; exact hr.1
    try refine And.intro (by first | rfl | exact hA 0 (by decide) | exact b3 0 (by decide) | exact b2 0 (by decide) | exact a1 0 (by decide) | exact a1 0 (by omega) | exact a3 0 (by decide) (by decide) | simp (disch := omega) only [up2_ne]) ?_
    refine tX12_follows_0 (vi_b (fun Ψ => r_isS hB2 hw.1) (fun _ => vi_b (fun Ψ => r_isV hB2 hw.1) (fun _ => ?_) (fun g => absurd ⟨v, hv, rfl⟩ g)) (fun g => absurd ⟨set, hs, rfl⟩ g))
    refine r_ask hB2 hw.1 (hT.fr (b2 133 (by decide))) wT (fun ν1 c1 s1 => ?_)
    have hB3 : rowB B (ν1.1 131) := by rw [c1 131 (by decide)]; exact hB2
    have iv : ∀ ν2 : Me, Ag [139, 140] ν1.1 ν2.1 → IV ν2.1 ∧ ν2.1 0 = μ.1 0 := fun ν2 c2 => ⟨IV.same hw hc hr (scW_C b2) ((c1.mono (by decide)).tr (c2.mono (by decide))), by rw [c2 0 (by decide), c1 0 (by decide), b2 0 (by decide)]⟩
    refine r_fby (b := 99) hB3 hw.1 ((hT.fr (b2 133 (by decide))).fr (c1 133 (by decide))) wT (Or.inr rfl) hs hv s1 (fun ν2 c2 _ _ g => ⟨fun e => absurd e (by decide), fun _ => ⟨_, rfl, ?_⟩⟩) (fun ν2 c2 _ _ g => ⟨fun _ => ⟨_, rfl, ?_⟩, fun e => absurd rfl e⟩)
    · rw [hx1 g]; exact K _ _ (iv ν2 c2).1 (iv ν2 c2).2
    · rw [hx0 g]; exact K _ _ (iv ν2 c2).1 (iv ν2 c2).2
  exact c_fbs hc.1 hw.1 hL wT hs hv (fun μ2 b2 _ _ g => ⟨fun e => absurd e (by decide), fun _ => ⟨_, rfl, fin _ μ2 b2 (fun _ => rfl) (fun q => absurd g q)⟩⟩) (fun μ2 b2 _ _ g => ⟨fun _ => ⟨_, rfl, fin _ μ2 b2 (fun q => absurd q g) (fun _ => rfl)⟩, fun e => absurd rfl e⟩)
end KS
