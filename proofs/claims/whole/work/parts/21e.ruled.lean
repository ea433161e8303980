/-! the reference reads a rule -/
section RE1
variable {N : Nat} {bt : Nat → Nat} {tn m t0 : Nat}
def RFx (X : Nat) (I I' : Nat → Nat → Int32) : Prop := (∀ c, c ≠ 130 → c ≠ 133 → c ≠ 135 → I' c = I c) ∧ (∀ b, (b < 7 ∨ b = 11 ∨ b = 12 ∨ b = 13 ∨ b = 15 ∨ b = 16 ∨ 20 ≤ b) → I' 130 b = I 130 b) ∧ ∀ j, (j ≤ X ∨ X + 6 ≤ j) → I' 133 j = I 133 j
theorem RFx.rf {X : Nat} {I : Nat → Nat → Int32} : RFx X I I := ⟨fun _ _ _ _ => rfl, fun _ _ => rfl, fun _ _ => rfl⟩
theorem RFx.tr {X : Nat} {I I1 I2 : Nat → Nat → Int32} (h : RFx X I I1) (h2 : RFx X I1 I2) : RFx X I I2 := ⟨fun c a1 a2 a3 => (h2.1 c a1 a2 a3).trans (h.1 c a1 a2 a3), fun b a1 => (h2.2.1 b a1).trans (h.2.1 b a1), fun j a1 => (h2.2.2 j a1).trans (h.2.2 j a1)⟩
theorem RFx.nx {X : Nat} {μ μ' : Me} (h : Nx μ μ') : RFx X μ.1 μ'.1 := ⟨fun c a1 _ _ => h.1 c a1, fun b a1 => h.2 b (by omega), fun j _ => by rw [h.1 133 (by decide)]⟩
theorem RFx.up {X x : Nat} {I : Nat → Nat → Int32} {v : Int32} (h : X < x) (h2 : x < X + 6) : RFx X I (up2 I 133 x v) := ⟨fun c _ a2 _ => up2_ne a2, fun b _ => up2_a (by decide), fun j a1 => up2_b (by omega)⟩
theorem RK.h {k op : Nat} {L : Cd} {μ : Me} {x w : Nat} (h : RK bt tn m t0 k L op μ) (hx : x < t0 + 150) (hw : w < 65536) : RK bt tn m t0 k L op (up2 μ.1 133 x (nI w), μ.2) := by
  obtain ⟨h1, h2, h3, h4, h5, h6, h7, h8, h9⟩ := h
  refine ⟨?_, ?_, h3, ⟨h4.1, ?_⟩, ?_, h6, ?_, fun i hi => ?_, fun j => ?_⟩
  · show rTp bt tn (up2 μ.1 133 x (nI w))
    exact h1.fr (up2_a (show (130 : Nat) ≠ 133 by decide)) (up2_ne (show (134 : Nat) ≠ 133 by decide))
  · unfold RT at *
    simp (disch := omega) only [up2_a]
    exact h2
  · show up2 μ.1 133 x (nI w) 130 12 = _
    rw [up2_a (by decide)]; exact h4.2
  · show up2 μ.1 133 x (nI w) 130 18 = _
    rw [up2_a (by decide)]; exact h5
  · show up2 μ.1 133 x (nI w) 130 14 = _
    rw [up2_a (by decide)]; exact h7
  · show up2 μ.1 133 x (nI w) 133 _ = _ ∧ up2 μ.1 133 x (nI w) 133 _ = _
    rw [up2_b (by omega), up2_b (by omega)]; exact h8 i hi
  · show ∃ n, n < 65536 ∧ up2 μ.1 133 x (nI w) 133 j = nI n
    by_cases e : j = x
    · rw [e, up2_c]; exact ⟨w, hw, rfl⟩
    · rw [up2_b e]; exact h9 j
section
variable {k op x X lo hi : Nat} {L : Cd} {μ : Me} {Ψ : Int32 → Me → Prop}
theorem r_fig (h : RK bt tn m t0 k L op μ) (h1 : X < x) (h2 : x < X + 6) (h3 : X + 6 ≤ t0 + 150) (hhi : hi < 9999) (hlo : lo ≤ hi) (K0 : numk (kT bt tn) (kV bt tn) lo hi k → ∀ μ', RFx X μ.1 μ'.1 → RK bt tn m t0 (k + 1) L op μ' → μ'.1 133 x = nI (kV bt tn k) → (∀ j, j ≠ x → μ'.1 133 j = μ.1 133 j) → Ψ 0 μ') (K1 : ∀ f, nbad (kT bt tn) (kV bt tn) lo hi k f → Ψ (nI f) μ) : VI N 4 mX12_figure [.ref 130, .int (nI x), .int (nI lo), .int (nI hi)] μ Ψ := by
  have ⟨t1, t2⟩ := rk_tok h
  have ht0 := h.2.2.2.1.1
  have e1 : (nI (rTok bt tn (tS bt tn k)) = 1) ↔ kT bt tn k = 20 := by
    rw [show (1 : Int32) = nI 1 from rfl, nI_eq (by omega) (by decide)]
    exact tok_1 h.1.2.2.2
  refine tX12_figure_0 ?_
  rw [t1]
  refine ⟨fun g => ?_, fun g => ⟨_, rfl, K1 1 (Or.inl ⟨fun q => g (e1.mpr q), rfl⟩)⟩⟩
  have g := e1.mp g
  obtain ⟨n, n1, n2, n3⟩ := rk_num h g
  rw [n1]
  refine vi_b (fun Ψ => r_in lo hi (by omega) (by omega)) (fun q => ?_) (fun q => ?_)
  · obtain ⟨n', q1, q2, q3⟩ := q
    have q3 := nI_inj q3 (by omega) (by omega)
    have ev : n = kV bt tn k := by omega
    rw [nI_clamp (by omega)]
    refine ⟨vp_in_nI (by omega) (by decide), ?_⟩
    rw [n1, ev]
    have hk := h.h (x := x) (w := kV bt tn k) (by omega) (by omega)
    refine r_nxt hk (by omega) (fun μ1 q4 q5 => ⟨_, rfl, K0 ⟨g, by omega, by omega⟩ μ1 ((RFx.up h1 h2).tr (RFx.nx q4)) q5 ?_ (fun j hj => ?_)⟩)
    · rw [q4.1 133 (by decide)]
      show up2 μ.1 133 x (nI (kV bt tn k)) 133 x = _
      exact up2_c
    · rw [q4.1 133 (by decide)]
      show up2 μ.1 133 x (nI (kV bt tn k)) 133 j = _
      exact up2_b hj
  · refine ⟨_, rfl, K1 2 (Or.inr ⟨g, fun z => q ⟨n, ?_, ?_, rfl⟩, rfl⟩)⟩
    · omega
    · omega
end
/-- facts, one by one -/
def MF (N : Nat) (bt : Nat → Nat) (tn m t0 b X x0 : Nat) (L : Cd) (I0 : Nat → Nat → Int32) (Ψ : Int32 → Me → Prop) (k x f k1 y : Nat) : Prop :=
  (f = 0 → ∀ μ', RFx X I0 μ'.1 → RK bt tn m t0 k1 L 0 μ' → μ'.1 133 x0 = nI y → (∀ j, j ≠ x0 → μ'.1 133 j = I0 133 j) → Ψ 0 μ') → (f ≠ 0 → ∀ μ', RFx X I0 μ'.1 → RB bt tn k1 μ' → Ψ (nI f) μ') → ∀ (kk : Nat) (μ : Me), kk + 1 = k → kT bt tn kk ≠ 21 → RFx X I0 μ.1 → RK bt tn m t0 kk L 0 μ → μ.1 133 x0 = nI x → x < 65536 → (∀ j, j ≠ x0 → μ.1 133 j = I0 133 j) → VB N 4 mX12_facts 2 [.ref 130, .int (nI x0), .int (nI b), .int (nI 1)] [] μ (fun r μ' => ∃ v, r = some (.int v) ∧ Ψ v μ')
theorem mf {b X x0 : Nat} {L : Cd} {I0 : Nat → Nat → Int32} {Ψ : Int32 → Me → Prop} (hb : b < 16) (h1 : X < x0) (h2 : x0 < X + 6) (h3 : X + 6 ≤ t0 + 150) (ht : t0 ≤ 2250) {k x f k1 y : Nat} (hr : Rf (kT bt tn) (kV bt tn) b k x f k1 y) : MF N bt tn m t0 b X x0 L I0 Ψ k x f k1 y := by
  have start : ∀ (kk : Nat) (μ : Me), kT bt tn kk ≠ 21 → RFx X I0 μ.1 → RK bt tn m t0 kk L 0 μ → (∀ μ2, Nx μ μ2 → RK bt tn m t0 (kk + 1) L 0 μ2 → br (μ2.1 130 9 = 1) (br (μ2.1 130 10 < nI b) (vp_in (nI x0) 3000 ∧ vp_in (nI x0) 3000 ∧ VU N 3 mX12_nextToken [.ref 130] ((up2 μ2.1 133 (Int32.toNatClampNeg (nI x0)) ((μ2.1 133 (Int32.toNatClampNeg (nI x0))) ||| (1 <<< ((μ2.1 130 10) &&& 31)))), μ2.2) (fun μ5 => br ((μ5.1 130 9) = 44) (VB N 4 mX12_facts 2 [.ref 130, .int (nI x0), .int (nI b), .int 1] [] μ5 (fun r μ' => ∃ v, r = some (.int v) ∧ Ψ v μ')) (VB N 4 mX12_facts 2 [.ref 130, .int (nI x0), .int (nI b), .int 0] [] μ5 (fun r μ' => ∃ v, r = some (.int v) ∧ Ψ v μ')))) (∃ v, (some (Value.int 2)) = some (Value.int v) ∧ Ψ v μ2)) (∃ v, (some (Value.int 1)) = some (Value.int v) ∧ Ψ v μ2)) → VB N 4 mX12_facts 2 [.ref 130, .int (nI x0), .int (nI b), .int (nI 1)] [] μ (fun r μ' => ∃ v, r = some (.int v) ∧ Ψ v μ') := by
    intro kk μ hk fr h K
    refine tX12_facts_2 ⟨fun e => absurd e (by decide), fun _ => ?_⟩
    exact r_nxt h hk K
  have one : ∀ {kk : Nat} {μ2 : Me}, RK bt tn m t0 (kk + 1) L 0 μ2 → ((μ2.1 130 9 = 1) ↔ kT bt tn (kk + 1) = 20) := by
    intro kk μ2 h
    have ⟨t1, t2⟩ := rk_tok h
    rw [t1, show (1 : Int32) = nI 1 from rfl, nI_eq (by omega) (by decide)]
    exact tok_1 h.1.2.2.2
  have body : ∀ {kk x : Nat} {μ μ2 : Me} {P : Prop}, RFx X I0 μ.1 → μ.1 133 x0 = nI x → x < 65536 → (∀ j, j ≠ x0 → μ.1 133 j = I0 133 j) → Nx μ μ2 → RK bt tn m t0 (kk + 1) L 0 μ2 → kT bt tn (kk + 1) = 20 → kV bt tn (kk + 1) < b → (∀ μ5, RFx X I0 μ5.1 → RK bt tn m t0 (kk + 2) L 0 μ5 → μ5.1 133 x0 = nI (x ||| 2 ^ kV bt tn (kk + 1)) → (x ||| 2 ^ kV bt tn (kk + 1)) < 65536 → (∀ j, j ≠ x0 → μ5.1 133 j = I0 133 j) → br ((μ5.1 130 9) = 44) (VB N 4 mX12_facts 2 [.ref 130, .int (nI x0), .int (nI b), .int 1] [] μ5 (fun r μ' => ∃ v, r = some (.int v) ∧ Ψ v μ')) (VB N 4 mX12_facts 2 [.ref 130, .int (nI x0), .int (nI b), .int 0] [] μ5 (fun r μ' => ∃ v, r = some (.int v) ∧ Ψ v μ'))) → br (μ2.1 130 9 = 1) (br (μ2.1 130 10 < nI b) (vp_in (nI x0) 3000 ∧ vp_in (nI x0) 3000 ∧ VU N 3 mX12_nextToken [.ref 130] ((up2 μ2.1 133 (Int32.toNatClampNeg (nI x0)) ((μ2.1 133 (Int32.toNatClampNeg (nI x0))) ||| (1 <<< ((μ2.1 130 10) &&& 31)))), μ2.2) (fun μ5 => br ((μ5.1 130 9) = 44) (VB N 4 mX12_facts 2 [.ref 130, .int (nI x0), .int (nI b), .int 1] [] μ5 (fun r μ' => ∃ v, r = some (.int v) ∧ Ψ v μ')) (VB N 4 mX12_facts 2 [.ref 130, .int (nI x0), .int (nI b), .int 0] [] μ5 (fun r μ' => ∃ v, r = some (.int v) ∧ Ψ v μ')))) (∃ v, (some (Value.int 2)) = some (Value.int v) ∧ Ψ v μ2)) P := by
    intro kk x μ μ2 P fr hx hx6 hj nx h2' g1 g2 K
    refine ⟨fun _ => ?_, fun q => absurd ((one h2').mpr g1) q⟩
    obtain ⟨n, n1, n2, n3⟩ := rk_num h2' g1
    have ev : n = kV bt tn (kk + 1) := by omega
    rw [n1, ev]
    refine ⟨fun _ => ⟨vp_in_nI (by omega) (by decide), vp_in_nI (by omega) (by decide), ?_⟩, fun q => absurd (by rw [nI_ltI (by omega) (by omega)]; exact g2) q⟩
    rw [nI_clamp (by omega)]
    have e133 : μ2.1 133 x0 = nI x := by rw [nx.1 133 (by decide)]; exact hx
    have ex : (μ2.1 133 x0 ||| (1 : Int32) <<< (nI (kV bt tn (kk + 1)) &&& 31)) = nI (x ||| 2 ^ kV bt tn (kk + 1)) := by
      rw [e133]
      simp (disch := omega) only [lit, Nat.add_sub_cancel, Nat.not_lt_zero, ↓m1_mI, nI_add, pk_mul, nx_and, nx_or, and31, sh_r, sh_1, nx_nand, Nat.and_one_is_mod, nI_clamp, nI_leI, nI_ltI, nI_eq, tb_1, vp_t, up2_a, up2_b, up2_c, br_1, br_0, true_and, and_true, mI_ne, mI_ne', mI_lt, mI_le, mI_nle, mI_nlt, pk_sub, mI_sub]
    have hlt : (x ||| 2 ^ kV bt tn (kk + 1)) < 65536 := Nat.or_lt_two_pow (n := 16) hx6 (Nat.pow_lt_pow_right (by decide) (by omega))
    rw [ex]
    have hk := h2'.h (x := x0) (w := x ||| 2 ^ kV bt tn (kk + 1)) (by omega) hlt
    refine r_nxt hk (by omega) (fun μ5 q4 q5 => K μ5 (((fr.tr (RFx.nx nx)).tr (RFx.up h1 h2)).tr (RFx.nx q4)) q5 ?_ hlt (fun j hj2 => ?_))
    · rw [q4.1 133 (by decide)]
      show up2 μ2.1 133 x0 (nI (x ||| 2 ^ kV bt tn (kk + 1))) 133 x0 = _
      exact up2_c
    · rw [q4.1 133 (by decide)]
      show up2 μ2.1 133 x0 (nI (x ||| 2 ^ kV bt tn (kk + 1))) 133 j = _
      rw [up2_b hj2]
      rw [nx.1 133 (by decide)]
      exact hj j hj2
  have comma : ∀ {kk : Nat} {μ5 : Me}, RK bt tn m t0 kk L 0 μ5 → ((μ5.1 130 9 = 44) ↔ kT bt tn kk = 44) := by
    intro kk μ5 h
    have ⟨t1, t2⟩ := rk_tok h
    rw [t1, show (44 : Int32) = nI 44 from rfl, nI_eq (by omega) (by decide)]
    exact tkc h 44
  refine hr (MF N bt tn m t0 b X x0 L I0 Ψ) ⟨?_, ?_, ?_, ?_⟩
  · intro k x y g1 K0 K1 kk μ hkk hk fr h hx hx6 hj
    subst hkk
    refine start kk μ hk fr h (fun μ2 nx h2' => ⟨fun q => absurd ((one h2').mp q) g1, fun _ => ⟨_, rfl, K1 (by decide) μ2 (fr.tr (RFx.nx nx)) h2'.rb⟩⟩)
  · intro k x y g1 g2 K0 K1 kk μ hkk hk fr h hx hx6 hj
    subst hkk
    refine start kk μ hk fr h (fun μ2 nx h2' => ⟨fun _ => ?_, fun q => absurd ((one h2').mpr g1) q⟩)
    obtain ⟨n, n1, n2, n3⟩ := rk_num h2' g1
    rw [n1]
    refine ⟨fun q => absurd q (by rw [nI_ltI (by omega) (by omega)]; omega), fun _ => ⟨_, rfl, K1 (by decide) μ2 (fr.tr (RFx.nx nx)) h2'.rb⟩⟩
  · intro k x f k1 y g1 g2 g3 ih K0 K1 kk μ hkk hk fr h hx hx6 hj
    subst hkk
    refine start kk μ hk fr h (fun μ2 nx h2' => body fr hx hx6 hj nx h2' g1 g2 (fun μ5 q1 q2 q3 q4 q5 => ⟨fun _ => ?_, fun q => absurd ((comma q2).mpr g3) q⟩))
    exact ih K0 K1 (kk + 2) μ5 rfl (by rw [show kk + 2 = kk + 1 + 1 from rfl, g3]; decide) q1 q2 q3 q4 q5
  · intro k x g1 g2 g3 K0 K1 kk μ hkk hk fr h hx hx6 hj
    subst hkk
    refine start kk μ hk fr h (fun μ2 nx h2' => body fr hx hx6 hj nx h2' g1 g2 (fun μ5 q1 q2 q3 q4 q5 => ⟨fun q => absurd ((comma q2).mp q) g3, fun _ => ?_⟩))
    exact tX12_facts_2 ⟨fun _ => ⟨_, rfl, K0 rfl μ5 q1 q2 q3 q5⟩, fun e => absurd rfl e⟩
end RE1
