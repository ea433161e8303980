/-! chain, weakest: both -/
section CK
variable {N : Nat} {μ : Me} {B B' R T tp : Nat → Nat} {tn : Nat} {ft fp : Int32} {e : Nat → Nat} {g : Nat}
def chV (T e : Nat → Nat) (g : Nat) (x : Int32) (w : Int32) : Int32 := if x = -1 then nI (cn16 (wnN T e g 16)) else if ftA (wnN T e g 16) x.toNatClampNeg < 16 then (if w = 0 then nI (ftA (wnN T e g 16) x.toNatClampNeg) else bI (rsP T e (ftA (wnN T e g 16) x.toNatClampNeg))) else -1
theorem x_m1 {x : Int32} (h : ¬ x < -1) : x = -1 ∨ ∃ j, j < 2 ^ 31 ∧ x = nI j := by
  by_cases q : x < nI 0
  · left
    rw [i_lt] at h q
    rw [nI_toInt (by decide)] at q
    have : (-1 : Int32).toInt = -1 := by decide
    rw [this] at h
    apply i_eq.mpr
    omega
  · exact Or.inr (nI_of q)
def scK : List Nat := [82, 50, 96, 107, 118, 129, 83, 69, 72, 73, 74]
theorem c_ch36 {x1 x2 x3 x4 : Int32} {Ψ : Int32 → Me → Prop} (h : Ψ (-1) μ) : VB N 7 mX11_chain 36 [.ref 2, .int x1, .int x2, .int x3, .int x4] [] μ (fun r μ' => ∃ v, r = some (.int v) ∧ Ψ v μ') := tX11_chain_36 (tX11_chain_37 ⟨fun _ => ⟨_, rfl, h⟩, fun q => absurd rfl q⟩)
theorem c_chain {set v : Nat} {x3 x4 : Int32} {Ψ : Int32 → Me → Prop} (hC : CB B 3 μ.1) (hW : WB B) (hL : LW T (lwB B) μ.1) (wT : WT T) (hs : set < 2 ^ B 0) (hv : v < B 1) (h3 : ¬ x3 < -1) (h4 : x4 = 0 ∨ x4 = 1) (k1 : fP B T (eS B T set (B 0)) 99 v → ∀ μ' : Me, Ag scK μ.1 μ'.1 → Ψ (chV T (eS B T set (B 0)) (B (60 + 3 * v)) x3 x4) μ') (k0 : ¬ fP B T (eS B T set (B 0)) 99 v → ∀ μ' : Me, Ag scK μ.1 μ'.1 → Ψ (-1) μ') : VI N 7 mX11_chain [.ref 2, .int (nI set), .int (nI v), .int x3, .int x4] μ Ψ := by
  have hn := hW.n
  have h5 := lwB_5 hW
  have hvv := hW.v hv
  have he9 : ∀ f, eS B T set (B 0) f ≤ 9 := eS_9 hW (Nat.le_refl _)
  have hwl := wnN_lt (e := eS B T set (B 0)) (g := B (60 + 3 * v)) wT hvv.1 16
  have go : VB N 7 mX11_chain 32 [.ref 2, .int (nI set), .int (nI v), .int x3, .int x4] [] μ (fun r μ' => ∃ v, r = some (.int v) ∧ Ψ v μ') := by
    refine tX11_chain_32 (tX11_chain_37 ⟨fun q => absurd q (by decide), fun _ => ?_⟩)
    refine c_fbs hC hW hL wT hs hv (fun μ1 b1 d1 _ gq => ⟨fun q => absurd q (by decide), fun _ => ?_⟩) (fun μ1 b1 _ _ gq => ⟨fun _ => ⟨_, rfl, k0 gq μ1 (b1.mono (by decide))⟩, fun q => absurd rfl q⟩)
    have hC1 := hC.sW b1
    refine c_ruling hC1 hW (fun h5 => ⟨h5, ?_⟩)
    simp (disch := omega) only [lit, Nat.add_sub_cancel, Nat.not_lt_zero, ↓m1_mI, nI_add, pk_mul, nx_and, nx_or, and31, sh_r, sh_1, nx_nand, Nat.and_one_is_mod, nI_clamp, nI_leI, nI_ltI, nI_eq, tb_1, vp_t, up2_a, up2_b, up2_c, br_1, br_0, true_and, and_true, mI_ne, mI_ne', mI_lt, mI_le, mI_nle, mI_nlt, pk_sub, mI_sub, hC1.k7]
    refine c_trace h5 (hL.sW h5 b1) wT d1 he9 hvv.1 (fun μ2 a2 w0 w1 wS => ?_)
    have b2 : Ag scK μ.1 μ2.1 := (b1.mono (by decide)).tr (a2.mono (by decide))
    have hk := k1 gq μ2 b2
    unfold chV at hk
    rcases x_m1 h3 with rfl | ⟨j, hj, rfl⟩
    · rw [if_pos rfl] at hk
      rw [w0]
      exact ⟨fun _ => c_bc hwl ⟨_, rfl, hk⟩, fun q => absurd rfl q⟩
    · have hne : ¬ nI j = -1 := fun q => by have := mI_ne hj; rw [show mI = (-1 : Int32) from rfl] at this; rw [this] at q; exact q
      rw [if_neg hne, nI_clamp hj] at hk
      refine ⟨fun q => absurd q hne, fun _ => ?_⟩
      refine c_factAt hwl w0 hj (fun hf => ?_) (fun hf => ?_)
      · rw [if_pos hf] at hk
        have hb : (wnN T (eS B T set (B 0)) (B (60 + 3 * v)) 16).testBit (ftA (wnN T (eS B T set (B 0)) (B (60 + 3 * v)) 16) j) = true := by
          have := fnd_sp hf
          rw [Bool.and_eq_true] at this
          exact this.1
        have r73 := (wS _ hf hb).1
        have hne2 : ¬ nI (ftA (wnN T (eS B T set (B 0)) (B (60 + 3 * v)) 16) j) = -1 := fun q => by have := mI_ne (show ftA (wnN T (eS B T set (B 0)) (B (60 + 3 * v)) 16) j < 2 ^ 31 by omega); rw [show mI = (-1 : Int32) from rfl] at this; rw [this] at q; exact q
        refine ⟨fun q => absurd q hne2, fun _ => ⟨fun q => ⟨_, rfl, ?_⟩, fun q => ?_⟩⟩
        · rw [if_pos (show x4 = 0 from q)] at hk; exact hk
        · rw [if_neg (show ¬ x4 = 0 from q)] at hk
          simp (disch := omega) only [lit, Nat.add_sub_cancel, Nat.not_lt_zero, ↓m1_mI, nI_add, pk_mul, nx_and, nx_or, and31, sh_r, sh_1, nx_nand, Nat.and_one_is_mod, nI_clamp, nI_leI, nI_ltI, nI_eq, tb_1, vp_t, up2_a, up2_b, up2_c, br_1, br_0, true_and, and_true, mI_ne, mI_ne', mI_lt, mI_le, mI_nle, mI_nlt, pk_sub, mI_sub, r73]
          exact ⟨_, rfl, hk⟩
      · rw [if_neg hf] at hk
        exact ⟨fun _ => ⟨_, rfl, hk⟩, fun q => absurd rfl q⟩
  refine tX11_chain_0 (vi_b (fun Ψ => c_isS hC hW) (fun _ => vi_b (fun Ψ => c_isV hC hW) (fun _ => ?_) (fun z => absurd ⟨v, hv, rfl⟩ z)) (fun z => absurd ⟨set, hs, rfl⟩ z))
  exact ⟨fun q => absurd q h3, fun _ => ⟨fun _ => go, fun q4 => ⟨fun _ => go, fun q5 => absurd (h4.resolve_left q4) q5⟩⟩⟩
theorem r_chain {set v : Nat} {x3 x4 : Int32} {Ψ : Int32 → Me → Prop} (hB : rowB B (μ.1 131)) (hW : WB B) (hT : RuL B T μ.1) (wT : WT T) (hs : set < 2 ^ B 0) (hv : v < B 1) (h3 : ¬ x3 < -1) (h4 : x4 = 0 ∨ x4 = 1) (k1 : fP B T (eS B T set (B 0)) 99 v → ∀ μ' : Me, Ag scR μ.1 μ'.1 → Ψ (chV T (eS B T set (B 0)) (B (60 + 3 * v)) x3 x4) μ') (k0 : ¬ fP B T (eS B T set (B 0)) 99 v → ∀ μ' : Me, Ag scR μ.1 μ'.1 → Ψ (-1) μ') : VI N 8 mX12_chain [.ref 130, .int (nI set), .int (nI v), .int x3, .int x4] μ Ψ := by
  have hn := hW.n
  have h16 := wT.1.2
  have hvv := hW.v hv
  refine tX12_chain_0 (vi_b (fun Ψ => r_isS hB hW) (fun _ => vi_b (fun Ψ => r_isV hB hW) (fun _ => ?_) (fun z => absurd ⟨v, hv, rfl⟩ z)) (fun z => absurd ⟨set, hs, rfl⟩ z))
  refine ⟨fun q => absurd q h3, fun _ => vi_b (fun Ψ => r_in 0 1 (by decide) (by decide)) (fun _ => ?_) (fun z => absurd (h4.elim (fun q => ⟨0, by omega, by omega, q⟩) (fun q => ⟨1, by omega, by omega, q⟩)) z)⟩
  refine r_findChain hB hW hT wT hs hv (fun gq μ1 a1 _ _ d => ⟨fun q => absurd q (by decide), fun _ => ?_⟩) (fun gq μ1 a1 => ⟨fun _ => ⟨_, rfl, k0 gq μ1 a1⟩, fun q => absurd rfl q⟩)
  have hk := k1 gq μ1 a1
  generalize heS : eS B T set (B 0) = e at *
  generalize hgv : B (60 + 3 * v) = g at *
  have rsb : ∀ f, f < 16 → rsP T e f < 2 ^ 31 := by
    intro f hf
    by_cases q : rsP T e f = 99
    · omega
    · have := (rsP_sp (e := e) wT hf (fun z => q ((rsP_99 wT hf).mpr z))).1
      omega
  refine vb_wf (N := N) (d := 8) (M := mX12_chain) (hd := 48) (τ := Nat) (fun i => [.ref 130, .null, .null, .int x3, .int x4, .int (nI (cnt i (fun i => (wnN T e g 16).testBit i))), .int (nI i)]) (fun _ => μ1) (fun i => 16 - i) (fun i => i ≤ 16 ∧ ∀ j, j < 2 ^ 31 → x3 = nI j → ∀ f, f < i → ¬ ((wnN T e g 16).testBit f = true ∧ cnt f (fun i => (wnN T e g 16).testBit i) = j)) ?_ 0 ⟨by omega, fun j _ _ f hf => by omega⟩
  rintro i ⟨hi, hno⟩ K'
  have hcl := cnt_le i (fun i => (wnN T e g 16).testBit i)
  refine tX12_chain_48 ?_
  by_cases ei : i = 16
  · subst ei
    simp (disch := omega) only [lit, Nat.add_sub_cancel, Nat.not_lt_zero, ↓m1_mI, nI_add, pk_mul, nx_and, nx_or, and31, sh_r, sh_1, nx_nand, Nat.and_one_is_mod, nI_clamp, nI_leI, nI_ltI, nI_eq, tb_1, vp_t, up2_a, up2_b, up2_c, br_1, br_0, true_and, and_true, mI_ne, mI_ne', mI_lt, mI_le, mI_nle, mI_nlt, pk_sub, mI_sub, Nat.le_refl]
    unfold chV at hk
    refine ⟨fun q => ⟨_, rfl, ?_⟩, fun q => ⟨_, rfl, ?_⟩⟩
    · rw [if_pos (show x3 = -1 from q), cn16_eq] at hk
      exact hk
    · rw [if_neg (show ¬ x3 = -1 from q)] at hk
      obtain ⟨j, hj, rfl⟩ := (x_m1 h3).resolve_left q
      rw [nI_clamp hj, if_neg (fun z => by
        have := fnd_sp z
        rw [Bool.and_eq_true, decide_eq_true_iff] at this
        exact hno j hj rfl _ z this)] at hk
      exact hk
  · have g1 : ¬ 16 ≤ i := by omega
    have r142 := d i (by omega)
    unfold stR at r142
    simp (disch := omega) only [lit, Nat.add_sub_cancel, Nat.not_lt_zero, ↓m1_mI, nI_add, pk_mul, nx_and, nx_or, and31, sh_r, sh_1, nx_nand, Nat.and_one_is_mod, nI_clamp, nI_leI, nI_ltI, nI_eq, tb_1, vp_t, up2_a, up2_b, up2_c, br_1, br_0, true_and, and_true, mI_ne, mI_ne', mI_lt, mI_le, mI_nle, mI_nlt, pk_sub, mI_sub, eq_false g1, r142, ↓m2_mJ]
    by_cases hb : (wnN T e g 16).testBit i = true
    · rw [if_pos hb]
      refine ⟨fun q => absurd q (bI_mJ (rsb i (by omega))), fun _ => ⟨fun q => ?_, fun q => ?_⟩⟩
      · have hci : cnt i (fun i => (wnN T e g 16).testBit i) < 2 ^ 31 := by omega
        have ef : ftA (wnN T e g 16) (cnt i (fun i => (wnN T e g 16).testBit i)) = i := by
          apply fnd_eq (by omega)
          · rw [hb, decide_eq_true rfl]; rfl
          · intro f hf
            apply eq_false_of_ne_true
            intro y
            rw [Bool.and_eq_true, decide_eq_true_iff] at y
            exact hno _ hci q.symm f hf y
        unfold chV at hk
        rw [← q, if_neg (fun z => by have := mI_ne hci; rw [show mI = (-1 : Int32) from rfl] at this; rw [this] at z; exact z), nI_clamp hci, ef, if_pos (by omega)] at hk
        refine ⟨fun z => ⟨_, rfl, ?_⟩, fun z => ⟨_, rfl, ?_⟩⟩
        · rw [if_pos (show x4 = 0 from z)] at hk; exact hk
        · rw [if_neg (show ¬ x4 = 0 from z)] at hk; exact hk
      · rw [cnt_t (p := fun i => (wnN T e g 16).testBit i) hb]
        refine K' (i + 1) ⟨by omega, fun j hj hx f hf => ?_⟩ (by omega)
        by_cases ef : f = i
        · subst ef
          exact fun y => q (by rw [hx, y.2])
        · exact hno j hj hx f (by omega)
    · rw [if_neg hb]
      refine ⟨fun _ => ?_, fun q => absurd rfl q⟩
      have := cnt_f (p := fun i => (wnN T e g 16).testBit i) hb
      rw [Nat.add_zero] at this
      rw [this]
      refine K' (i + 1) ⟨by omega, fun j hj hx f hf => ?_⟩ (by omega)
      by_cases ef : f = i
      · subst ef
        exact fun y => hb y.1
      · exact hno j hj hx f (by omega)
theorem k_chain {x1 x2 x3 x4 : Int32} {Φ : Int32 → Int32 → Me → Prop} (h : IV μ.1) (K : ∀ v (μ' : Me), IV μ'.1 → μ'.1 0 = μ.1 0 → Φ v v μ') : VI N 7 mX11_chain [.ref 2, .int x1, .int x2, .int x3, .int x4] μ (fun v μ1 => μ1.1 0 = μ.1 0 ∧ VI N 8 mX12_chain [.ref 130, .int x1, .int x2, .int x3, .int x4] μ1 (fun v' μ2 => Φ v v' μ2)) := by
  have h' := h
  obtain ⟨B, B', R, tp, tn, ft, fp, hw, hc, hr⟩ := h
  by_cases g1 : ∃ set, set < 2 ^ B 0 ∧ x1 = nI set
  · by_cases g2 : ∃ v, v < B 1 ∧ x2 = nI v
    · by_cases g3 : x3 < -1
      · exact tX11_chain_0 (vi_b (fun Ψ => c_isS hc.1 hw.1) (fun _ => vi_b (fun Ψ => c_isV hc.1 hw.1) (fun _ => ⟨fun _ => c_ch36 ⟨rfl, tX12_chain_0 (vi_b (fun Ψ => r_isS hr.1 hw.1) (fun _ => vi_b (fun Ψ => r_isV hr.1 hw.1) (fun _ => ⟨fun _ => ⟨_, rfl, K _ _ h' rfl⟩, fun q => absurd g3 q⟩) (fun q => absurd g2 q)) (fun q => absurd g1 q))⟩, fun q => absurd g3 q⟩) (fun q => absurd g2 q)) (fun q => absurd g1 q))
      · by_cases g4 : x4 = 0 ∨ x4 = 1
        · obtain ⟨set, hs, rfl⟩ := g1
          obtain ⟨v, hv, rfl⟩ := g2
          have fin : ∀ (x : Int32) (μ2 : Me), Ag scK μ.1 μ2.1 → (fP B (txB B R) (eS B (txB B R) set (B 0)) 99 v → x = chV (txB B R) (eS B (txB B R) set (B 0)) (B (60 + 3 * v)) x3 x4) → (¬ fP B (txB B R) (eS B (txB B R) set (B 0)) 99 v → x = -1) → μ2.1 0 = μ.1 0 ∧ VI N 8 mX12_chain [.ref 130, .int (nI set), .int (nI v), .int x3, .int x4] μ2 (fun v' μ2 => Φ x v' μ2) := by
            intro x μ2 b2 hx1 hx0
            have hB2 : rowB B (μ2.1 131) := by rw [b2 131 (by decide)]; exact hr.1
            have iv : ∀ ν2 : Me, Ag scR μ2.1 ν2.1 → IV ν2.1 ∧ ν2.1 0 = μ.1 0 := fun ν2 c2 => ⟨IV.same hw hc hr (b2.mono (by decide)) c2, by rw [c2 0 (by decide), b2 0 (by decide)]⟩
            try refine And.intro (by first | rfl | exact hA 0 (by decide) | exact b3 0 (by decide) | exact b2 0 (by decide) | exact a1 0 (by decide) | exact a1 0 (by omega) | exact a3 0 (by decide) (by decide) | simp (disch := omega) only [up2_ne]) ?_
            refine r_chain hB2 hw.1 (hr.ruT.fr (b2 133 (by decide))) hw.ruT hs hv g3 g4 (fun gq ν2 c2 => ?_) (fun gq ν2 c2 => ?_)
            · rw [hx1 gq]; exact K _ _ (iv ν2 c2).1 (iv ν2 c2).2
            · rw [hx0 gq]; exact K _ _ (iv ν2 c2).1 (iv ν2 c2).2
          exact c_chain hc.1 hw.1 (hc.ruL hw) hw.ruT hs hv g3 g4 (fun gq μ2 b2 => fin _ μ2 b2 (fun _ => rfl) (fun q => absurd gq q)) (fun gq μ2 b2 => fin _ μ2 b2 (fun q => absurd q gq) (fun _ => rfl))
        · have nr : ¬ rgI 0 1 x4 := by
            rintro ⟨n, q1, q2, q3⟩
            have : n = 0 ∨ n = 1 := by omega
            rcases this with rfl | rfl
            · exact g4 (Or.inl q3)
            · exact g4 (Or.inr q3)
          exact tX11_chain_0 (vi_b (fun Ψ => c_isS hc.1 hw.1) (fun _ => vi_b (fun Ψ => c_isV hc.1 hw.1) (fun _ => ⟨fun q => absurd q g3, fun _ => ⟨fun q => absurd (Or.inl q) g4, fun _ => ⟨fun q => absurd (Or.inr q) g4, fun _ => c_ch36 ⟨rfl, tX12_chain_0 (vi_b (fun Ψ => r_isS hr.1 hw.1) (fun _ => vi_b (fun Ψ => r_isV hr.1 hw.1) (fun _ => ⟨fun q => absurd q g3, fun _ => vi_b (fun Ψ => r_in 0 1 (by decide) (by decide)) (fun q => absurd q nr) (fun _ => ⟨_, rfl, K _ _ h' rfl⟩)⟩) (fun q => absurd g2 q)) (fun q => absurd g1 q))⟩⟩⟩⟩) (fun q => absurd g2 q)) (fun q => absurd g1 q))
    · exact tX11_chain_0 (vi_b (fun Ψ => c_isS hc.1 hw.1) (fun _ => vi_b (fun Ψ => c_isV hc.1 hw.1) (fun q => absurd q g2) (fun _ => c_ch36 ⟨rfl, tX12_chain_0 (vi_b (fun Ψ => r_isS hr.1 hw.1) (fun _ => vi_b (fun Ψ => r_isV hr.1 hw.1) (fun q => absurd q g2) (fun _ => ⟨_, rfl, K _ _ h' rfl⟩)) (fun q => absurd g1 q))⟩)) (fun q => absurd g1 q))
  · exact tX11_chain_0 (vi_b (fun Ψ => c_isS hc.1 hw.1) (fun q => absurd q g1) (fun _ => c_ch36 ⟨rfl, tX12_chain_0 (vi_b (fun Ψ => r_isS hr.1 hw.1) (fun q => absurd q g1) (fun _ => ⟨_, rfl, K _ _ h' rfl⟩))⟩))
theorem c_weakest {set v : Nat} {Ψ : Int32 → Me → Prop} (hC : CB B 3 μ.1) (hW : WB B) (hL : LW T (lwB B) μ.1) (wT : WT T) (hs : set < 2 ^ B 0) (hv : v < B 1) (k1 : ∀ f, fP B T (eS B T set (B 0)) 99 v → wkP T (eS B T set (B 0)) (B (60 + 3 * v)) f → (∀ j, j < f → ¬ wkP T (eS B T set (B 0)) (B (60 + 3 * v)) j) → ∀ μ' : Me, Ag scK μ.1 μ'.1 → Ψ (nI f) μ') (k0 : (¬ fP B T (eS B T set (B 0)) 99 v ∨ ∀ j, ¬ wkP T (eS B T set (B 0)) (B (60 + 3 * v)) j) → ∀ μ' : Me, Ag scK μ.1 μ'.1 → Ψ (-1) μ') : VI N 7 mX11_weakest [.ref 2, .int (nI set), .int (nI v)] μ Ψ := by
  have hn := hW.n
  have h5 := lwB_5 hW
  have hvv := hW.v hv
  have he9 : ∀ f, eS B T set (B 0) f ≤ 9 := eS_9 hW (Nat.le_refl _)
  refine tX11_weakest_0 (vi_b (fun Ψ => c_isS hC hW) (fun _ => vi_b (fun Ψ => c_isV hC hW) (fun _ => ?_) (fun z => absurd ⟨v, hv, rfl⟩ z)) (fun z => absurd ⟨set, hs, rfl⟩ z))
  refine c_fbs hC hW hL wT hs hv (fun μ1 b1 d1 _ gq => ⟨fun q => absurd q (by decide), fun _ => ?_⟩) (fun μ1 b1 _ _ gq => ⟨fun _ => ⟨_, rfl, k0 (Or.inl gq) μ1 (b1.mono (by decide))⟩, fun q => absurd rfl q⟩)
  have hC1 := hC.sW b1
  have hs1 : 1 ≤ shP T (eS B T set (B 0)) 99 (B (60 + 3 * v)) := by unfold fP at gq; omega
  refine c_ruling hC1 hW (fun h5 => ⟨h5, ?_⟩)
  simp (disch := omega) only [lit, Nat.add_sub_cancel, Nat.not_lt_zero, ↓m1_mI, nI_add, pk_mul, nx_and, nx_or, and31, sh_r, sh_1, nx_nand, Nat.and_one_is_mod, nI_clamp, nI_leI, nI_ltI, nI_eq, tb_1, vp_t, up2_a, up2_b, up2_c, br_1, br_0, true_and, and_true, mI_ne, mI_ne', mI_lt, mI_le, mI_nle, mI_nlt, pk_sub, mI_sub, hC1.k7]
  refine c_trace h5 (hL.sW h5 b1) wT d1 he9 hvv.1 (fun μ2 a2 w0 w1 wS => ?_)
  have b2 : Ag scK μ.1 μ2.1 := (b1.mono (by decide)).tr (a2.mono (by decide))
  have hC2 : CB B 3 μ2.1 := hC.fr (fun a k1 k2 => b2 a (by simp [scK]; omega))
  have hL2 : LW T (lwB B) μ2.1 := hL.fr (fun a k1 k2 => b2 a (by unfold isL5 at h5; simp [scK]; omega))
  refine c_ruling hC2 hW (fun h5 => ⟨h5, ?_⟩)
  exact c_weakF h5 hL2 wT he9 hvv.1 hs1 w0 w1 wS (fun f q1 q2 => ⟨_, rfl, k1 f gq q1 q2 μ2 b2⟩) (fun q => ⟨_, rfl, k0 (Or.inr q) μ2 b2⟩)
theorem r_weakest {set v : Nat} {Ψ : Int32 → Me → Prop} (hB : rowB B (μ.1 131)) (hW : WB B) (hT : RuL B T μ.1) (wT : WT T) (hs : set < 2 ^ B 0) (hv : v < B 1) (k1 : ∀ f, fP B T (eS B T set (B 0)) 99 v → wkP T (eS B T set (B 0)) (B (60 + 3 * v)) f → (∀ j, j < f → ¬ wkP T (eS B T set (B 0)) (B (60 + 3 * v)) j) → ∀ μ' : Me, Ag scR μ.1 μ'.1 → Ψ (nI f) μ') (k0 : (¬ fP B T (eS B T set (B 0)) 99 v ∨ ∀ j, ¬ wkP T (eS B T set (B 0)) (B (60 + 3 * v)) j) → ∀ μ' : Me, Ag scR μ.1 μ'.1 → Ψ (-1) μ') : VI N 8 mX12_weakest [.ref 130, .int (nI set), .int (nI v)] μ Ψ := by
  have hn := hW.n
  have h16 := wT.1.2
  have hvv := hW.v hv
  have he9 : ∀ f, eS B T set (B 0) f ≤ 9 := eS_9 hW (Nat.le_refl _)
  refine tX12_weakest_0 (vi_b (fun Ψ => r_isS hB hW) (fun _ => vi_b (fun Ψ => r_isV hB hW) (fun _ => ?_) (fun z => absurd ⟨v, hv, rfl⟩ z)) (fun z => absurd ⟨set, hs, rfl⟩ z))
  refine r_findChain hB hW hT wT hs hv (fun gq μ1 a1 d1 d2 d => ⟨fun q => absurd q (by decide), fun _ => ?_⟩) (fun gq μ1 a1 => ⟨fun _ => ⟨_, rfl, k0 (Or.inl gq) μ1 a1⟩, fun q => absurd rfl q⟩)
  have hs1 : 1 ≤ shP T (eS B T set (B 0)) 99 (B (60 + 3 * v)) := by unfold fP at gq; omega
  have hB1 : rowB B (μ1.1 131) := by rw [a1 131 (by decide)]; exact hB
  have hT1 := hT.fr (a1 133 (by decide))
  have rB := hB1.1
  generalize heS : eS B T set (B 0) = e at *
  have hs9 : ∀ f, shP T e 99 f ≤ 9 := fun f => shN_9 wT he9 16 f
  refine tX12_factOf_0 ?_
  simp (disch := omega) only [lit, Nat.add_sub_cancel, Nat.not_lt_zero, ↓m1_mI, nI_add, pk_mul, nx_and, nx_or, and31, sh_r, sh_1, nx_nand, Nat.and_one_is_mod, nI_clamp, nI_leI, nI_ltI, nI_eq, tb_1, vp_t, up2_a, up2_b, up2_c, br_1, br_0, true_and, and_true, mI_ne, mI_ne', mI_lt, mI_le, mI_nle, mI_nlt, pk_sub, mI_sub, rB]
  refine ⟨_, rfl, ?_⟩
  simp (disch := omega) only [lit, Nat.add_sub_cancel, Nat.not_lt_zero, ↓m1_mI, nI_add, pk_mul, nx_and, nx_or, and31, sh_r, sh_1, nx_nand, Nat.and_one_is_mod, nI_clamp, nI_leI, nI_ltI, nI_eq, tb_1, vp_t, up2_a, up2_b, up2_c, br_1, br_0, true_and, and_true, mI_ne, mI_ne', mI_lt, mI_le, mI_nle, mI_nlt, pk_sub, mI_sub, d2]
  generalize hgv : B (60 + 3 * v) = g at *
  have hsg := hs9 g
  refine vb_wf (N := N) (d := 8) (M := mX12_weakest) (hd := 41) (τ := Nat) (fun i => [.ref 130, .null, .null, .int (nI (shP T e 99 g)), .int (nI i)]) (fun _ => μ1) (fun i => 16 - i) (fun i => i ≤ 16 ∧ ∀ f, f < i → ¬ wkP T e g f) ?_ 0 ⟨by omega, fun f hf => by omega⟩
  rintro i ⟨hi, hno⟩ K'
  refine tX12_weakest_41 ?_
  by_cases ei : i = 16
  · subst ei
    simp (disch := omega) only [lit, Nat.add_sub_cancel, Nat.not_lt_zero, ↓m1_mI, nI_add, pk_mul, nx_and, nx_or, and31, sh_r, sh_1, nx_nand, Nat.and_one_is_mod, nI_clamp, nI_leI, nI_ltI, nI_eq, tb_1, vp_t, up2_a, up2_b, up2_c, br_1, br_0, true_and, and_true, mI_ne, mI_ne', mI_lt, mI_le, mI_nle, mI_nlt, pk_sub, mI_sub, Nat.le_refl]
    refine ⟨_, rfl, k0 (Or.inr (fun j hj => ?_)) μ1 a1⟩
    have := wkP_g wT hvv.1 hs1 hj
    exact hno j (by omega) hj
  · have g1 : ¬ 16 ≤ i := by omega
    have nx : ¬ wkP T e g i → VB N 8 mX12_weakest 41 [.ref 130, .null, .null, .int (nI (shP T e 99 g)), .int (nI (i + 1))] [] μ1 (fun r μ' => ∃ v, r = some (.int v) ∧ Ψ v μ') := by
      intro z
      refine K' (i + 1) ⟨by omega, fun f hf => ?_⟩ (by omega)
      by_cases ef : f = i
      · subst ef; exact z
      · exact hno f (by omega)
    have r142 := d i (by omega)
    have r139 := d1 i (by omega)
    have b9 := he9 i
    unfold stR at r142
    simp (disch := omega) only [lit, Nat.add_sub_cancel, Nat.not_lt_zero, ↓m1_mI, nI_add, pk_mul, nx_and, nx_or, and31, sh_r, sh_1, nx_nand, Nat.and_one_is_mod, nI_clamp, nI_leI, nI_ltI, nI_eq, tb_1, vp_t, up2_a, up2_b, up2_c, br_1, br_0, true_and, and_true, mI_ne, mI_ne', mI_lt, mI_le, mI_nle, mI_nlt, pk_sub, mI_sub, eq_false g1, r142, ↓m2_mJ]
    by_cases hb : (wnN T e g 16).testBit i = true
    · have due := (wnN_due (e := e) wT hvv.1 hs1 16 (Nat.le_refl _) i hb).2
      rw [if_pos hb]
      by_cases hr : rsP T e i = 99
      · have e1 : bI (rsP T e i) = mI := by unfold bI; rw [if_pos hr]
        have eqs := (rsP_99 (e := e) wT (show i < 16 by omega)).mp hr
        rw [e1]
        refine ⟨fun q => absurd q (by decide), fun _ => ⟨fun _ => ?_, fun q => absurd rfl q⟩⟩
        rw [r139]
        refine tX12_weakest_99 ?_
        simp (disch := omega) only [lit, Nat.add_sub_cancel, Nat.not_lt_zero, ↓m1_mI, nI_add, pk_mul, nx_and, nx_or, and31, sh_r, sh_1, nx_nand, Nat.and_one_is_mod, nI_clamp, nI_leI, nI_ltI, nI_eq, tb_1, vp_t, up2_a, up2_b, up2_c, br_1, br_0, true_and, and_true, mI_ne, mI_ne', mI_lt, mI_le, mI_nle, mI_nlt, pk_sub, mI_sub]
        exact ⟨fun z => ⟨_, rfl, k1 i gq ⟨hb, by omega, Or.inl hr⟩ hno μ1 a1⟩, fun z => nx (fun y => z (by have := y.2.1; omega))⟩
      · have s := rsP_sp (e := e) wT (show i < 16 by omega) (fun z => hr ((rsP_99 wT (by omega)).mpr z))
        have hlt := s.1
        have hwf := (wT.2.1 _ s.1 s.2.1).2.2.1
        have hsw := stg_w (T := T) (sh := shP T e 99) (b := 99) (k := rsP T e i)
        rw [s.2.2.2.1] at hsw
        have e1 : bI (rsP T e i) = nI (rsP T e i) := by unfold bI; rw [if_neg hr]
        have h4 := hT1.pos hlt
        have hca := ca_lt hW (show rsP T e i < 16 by omega)
        have hfl := hT1.f h4
        rw [e1]
        refine ⟨fun q => absurd q (mJ_ne (by omega)), fun _ => ⟨fun q => ?_, fun q => ?_⟩⟩
        · have := mI_ne (show rsP T e i < 2 ^ 31 by omega)
          rw [this] at q
          exact q.elim
        · refine r_clauseAt hB1 hW h4 ?_
          simp (disch := omega) only [lit, Nat.add_sub_cancel, Nat.not_lt_zero, ↓m1_mI, nI_add, pk_mul, nx_and, nx_or, and31, sh_r, sh_1, nx_nand, Nat.and_one_is_mod, nI_clamp, nI_leI, nI_ltI, nI_eq, tb_1, vp_t, up2_a, up2_b, up2_c, br_1, br_0, true_and, and_true, mI_ne, mI_ne', mI_lt, mI_le, mI_nle, mI_nlt, pk_sub, mI_sub, hfl]
          refine tX12_weakest_99 ?_
          simp (disch := omega) only [lit, Nat.add_sub_cancel, Nat.not_lt_zero, ↓m1_mI, nI_add, pk_mul, nx_and, nx_or, and31, sh_r, sh_1, nx_nand, Nat.and_one_is_mod, nI_clamp, nI_leI, nI_ltI, nI_eq, tb_1, vp_t, up2_a, up2_b, up2_c, br_1, br_0, true_and, and_true, mI_ne, mI_ne', mI_lt, mI_le, mI_nle, mI_nlt, pk_sub, mI_sub]
          exact ⟨fun z => ⟨_, rfl, k1 i gq ⟨hb, by omega, Or.inr z⟩ hno μ1 a1⟩, fun z => nx (fun y => y.2.2.elim hr z)⟩
    · rw [if_neg hb]
      exact ⟨fun _ => nx (fun y => hb y.1), fun q => absurd rfl q⟩
theorem k_weakest {x1 x2 : Int32} {Φ : Int32 → Int32 → Me → Prop} (h : IV μ.1) (K : ∀ v (μ' : Me), IV μ'.1 → μ'.1 0 = μ.1 0 → Φ v v μ') : VI N 7 mX11_weakest [.ref 2, .int x1, .int x2] μ (fun v μ1 => μ1.1 0 = μ.1 0 ∧ VI N 8 mX12_weakest [.ref 130, .int x1, .int x2] μ1 (fun v' μ2 => Φ v v' μ2)) := by
  have h' := h
  obtain ⟨B, B', R, tp, tn, ft, fp, hw, hc, hr⟩ := h
  by_cases g1 : ∃ set, set < 2 ^ B 0 ∧ x1 = nI set
  · by_cases g2 : ∃ v, v < B 1 ∧ x2 = nI v
    · obtain ⟨set, hs, rfl⟩ := g1
      obtain ⟨v, hv, rfl⟩ := g2
      refine c_weakest hc.1 hw.1 (hc.ruL hw) hw.ruT hs hv (fun f z0 z1 z2 μ2 b2 => ?_) (fun z μ2 b2 => ?_)
      · have hB2 : rowB B (μ2.1 131) := by rw [b2 131 (by decide)]; exact hr.1
        try refine And.intro (by first | rfl | exact hA 0 (by decide) | exact b3 0 (by decide) | exact b2 0 (by decide) | exact a1 0 (by decide) | exact a1 0 (by omega) | exact a3 0 (by decide) (by decide) | simp (disch := omega) only [up2_ne]) ?_
        refine r_weakest hB2 hw.1 (hr.ruT.fr (b2 133 (by decide))) hw.ruT hs hv (fun f' _ y1 y2 ν2 c2 => ?_) (fun y ν2 c2 => absurd z1 ((y.resolve_left (fun w => w z0)) f))
        have ek : f' = f := by
          rcases Nat.lt_trichotomy f' f with q | q | q
          · exact absurd y1 (z2 f' q)
          · exact q
          · exact absurd z1 (y2 f q)
        subst ek
        exact K _ _ (IV.same hw hc hr (b2.mono (by decide)) c2) (by rw [c2 0 (by decide), b2 0 (by decide)])
      · have hB2 : rowB B (μ2.1 131) := by rw [b2 131 (by decide)]; exact hr.1
        try refine And.intro (by first | rfl | exact hA 0 (by decide) | exact b3 0 (by decide) | exact b2 0 (by decide) | exact a1 0 (by decide) | exact a1 0 (by omega) | exact a3 0 (by decide) (by decide) | simp (disch := omega) only [up2_ne]) ?_
        refine r_weakest hB2 hw.1 (hr.ruT.fr (b2 133 (by decide))) hw.ruT hs hv (fun f' y0 y1 y2 ν2 c2 => absurd y1 ((z.resolve_left (fun w => w y0)) f')) (fun y ν2 c2 => K _ _ (IV.same hw hc hr (b2.mono (by decide)) c2) (by rw [c2 0 (by decide), b2 0 (by decide)]))
    · exact tX11_weakest_0 (vi_b (fun Ψ => c_isS hc.1 hw.1) (fun _ => vi_b (fun Ψ => c_isV hc.1 hw.1) (fun q => absurd q g2) (fun _ => ⟨_, rfl, rfl, tX12_weakest_0 (vi_b (fun Ψ => r_isS hr.1 hw.1) (fun _ => vi_b (fun Ψ => r_isV hr.1 hw.1) (fun q => absurd q g2) (fun _ => ⟨_, rfl, K _ _ h' rfl⟩)) (fun q => absurd g1 q))⟩)) (fun q => absurd g1 q))
  · exact tX11_weakest_0 (vi_b (fun Ψ => c_isS hc.1 hw.1) (fun q => absurd q g1) (fun _ => ⟨_, rfl, rfl, tX12_weakest_0 (vi_b (fun Ψ => r_isS hr.1 hw.1) (fun q => absurd q g1) (fun _ => ⟨_, rfl, K _ _ h' rfl⟩))⟩))
end CK
