/-! the reference reads sums by the same rules -/
section RW
variable {N : Nat} {bt : Nat → Nat} {tn m t0 fee : Nat}
/-- it goes on well from the loop's head -/
def HD (N : Nat) (bt : Nat → Nat) (tn m t0 : Nat) (I0 : Nat → Nat → Int32) (Ψ : Int32 → Me → Prop) (w : Nat) (p : List Nat) (op : Nat) (L : Cd) (k : Nat) : Prop := ∀ μ : Me, RFr t0 I0 μ.1 → SS bt tn m t0 k L op p w μ → VB N 5 mX12_summed 10 [.ref 130] [] μ (fun r μ' => ∃ v, r = some (.int v) ∧ Ψ v μ')
def BD (bt : Nat → Nat) (tn t0 : Nat) (I0 : Nat → Nat → Int32) (Ψ : Int32 → Me → Prop) (f k : Nat) : Prop := ∀ μ : Me, RFr t0 I0 μ.1 → RB bt tn k μ → Ψ (nI f) μ
def nop (t : Nat) : Prop := t ≠ 42 ∧ t ≠ 47 ∧ t ≠ 43 ∧ t ≠ 45
/-- what the reference does by a rule -/
def MW (N : Nat) (bt : Nat → Nat) (tn m t0 : Nat) (I0 : Nat → Nat → Int32) (Ψ : Int32 → Me → Prop) (q a s d k f k1 : Nat) (c : Cd) : Prop :=
  (q = 0 → ∀ (p : List Nat) (L : Cd) (e : Nat), d ≤ 8 → p.length + 3 * (8 - d) ≤ 60 → mn p ≤ d → L.length + mn p + e ≤ k → (f = 0 → (L ++ c).length + mn p + e ≤ k1 → HD N bt tn m t0 I0 Ψ 1 (st p) (d - mn p) (L ++ c ++ mns (mn p)) k1) → (f ≠ 0 → BD bt tn t0 I0 Ψ f k1) → HD N bt tn m t0 I0 Ψ 0 p d L k) ∧
  (q = 1 → ∀ (b : List Nat) (L : Cd) (e : Nat), gPa a → gMu s → d ≤ 8 → (∀ x r, b = x :: r → x = 40) → b.length + 3 * (8 - d) + 2 ≤ 60 → L.length + ok1 a + ok1 s + e ≤ k → (f = 0 → ∀ a' s' L', gPa a' → gMu s' → L' ++ pe s' ++ pe a' = L ++ c → L'.length + ok1 a' + ok1 s' + e ≤ k1 → nop (kT bt tn k1) → HD N bt tn m t0 I0 Ψ 1 (po s' ++ po a' ++ b) d L' k1) → (f ≠ 0 → BD bt tn t0 I0 Ψ f k1) → HD N bt tn m t0 I0 Ψ 0 (po s ++ po a ++ b) d L k) ∧
  (q = 2 → ∀ (b : List Nat) (s' : Nat) (L : Cd) (e : Nat), gPa a → gMu s' → d ≤ 8 → (∀ x r, b = x :: r → x = 40) → b.length + 3 * (8 - d) + 2 ≤ 60 → L.length + ok1 a + ok1 s' + e ≤ k → (f = 0 → ∀ a2 s2 L', gPa a2 → gMu s2 → L' ++ pe s2 ++ pe a2 = L ++ pe s' ++ c → L'.length + ok1 a2 + ok1 s2 + e ≤ k1 → nop (kT bt tn k1) → HD N bt tn m t0 I0 Ψ 1 (po s2 ++ po a2 ++ b) d L' k1) → (f ≠ 0 → BD bt tn t0 I0 Ψ f k1) → HD N bt tn m t0 I0 Ψ 1 (po s' ++ po a ++ b) d L k)
section
variable {I0 : Nat → Nat → Int32} {Ψ : Int32 → Me → Prop}
/-- an operand is due -/
theorem hd_0 {p : List Nat} {op k : Nat} {L : Cd} {μ : Me} (h : SS bt tn m t0 k L op p 0 μ) (K : VI N 4 mX12_beginOne [.ref 130] μ (fun v μ' => VB N 5 mX12_summed 42 [.ref 130] [.int v] μ' (fun r μ' => ∃ v, r = some (.int v) ∧ Ψ v μ'))) : VB N 5 mX12_summed 10 [.ref 130] [] μ (fun r μ' => ∃ v, r = some (.int v) ∧ Ψ v μ') := by
  have h19 : μ.1 130 19 = nI 0 := h.2.2
  have e : μ.1 130 19 = 0 := h19
  exact tX12_summed_10 ⟨fun _ => tX12_summed_24 ⟨fun _ => K, fun g => absurd e g⟩, fun g => absurd e g⟩
theorem e42 {μ : Me} (K : VB N 5 mX12_summed 10 [.ref 130] [] μ (fun r μ' => ∃ v, r = some (.int v) ∧ Ψ v μ')) : VB N 5 mX12_summed 42 [.ref 130] [.int 0] μ (fun r μ' => ∃ v, r = some (.int v) ∧ Ψ v μ') := tX12_summed_42 ⟨fun _ => K, fun g => absurd rfl g⟩
theorem e42b {μ : Me} {f : Nat} (hf : f ≠ 0) (hf6 : f ≤ 6) (K : Ψ (nI f) μ) : VB N 5 mX12_summed 42 [.ref 130] [.int (nI f)] μ (fun r μ' => ∃ v, r = some (.int v) ∧ Ψ v μ') := by
  refine tX12_summed_42 ?_
  simp (disch := omega) only [lit, Nat.add_sub_cancel, Nat.not_lt_zero, ↓m1_mI, nI_add, pk_mul, nx_and, nx_or, and31, sh_r, sh_1, nx_nand, Nat.and_one_is_mod, nI_clamp, nI_leI, nI_ltI, nI_eq, tb_1, vp_t, up2_a, up2_b, up2_c, br_1, br_0, true_and, and_true, mI_ne, mI_ne', mI_lt, mI_le, mI_nle, mI_nlt, pk_sub, mI_sub, eq_false hf]
  exact ⟨_, rfl, K⟩
/-- an operand is whole -/
theorem hd_1 {p : List Nat} {op k : Nat} {L : Cd} {μ : Me} (h : SS bt tn m t0 k L op p 1 μ) (K1 : (kT bt tn k = 43 ∨ kT bt tn k = 45 ∨ kT bt tn k = 42 ∨ kT bt tn k = 47 ∨ (kT bt tn k = 41 ∧ 40 ∈ p)) → VI N 4 mX12_behindOne [.ref 130] μ (fun v μ' => VB N 5 mX12_summed 42 [.ref 130] [.int v] μ' (fun r μ' => ∃ v, r = some (.int v) ∧ Ψ v μ'))) (K0 : ¬ (kT bt tn k = 43 ∨ kT bt tn k = 45 ∨ kT bt tn k = 42 ∨ kT bt tn k = 47 ∨ (kT bt tn k = 41 ∧ 40 ∈ p)) → VU N 2 mX12_settle [.ref 130, .int 3] μ (fun μ4 => br ((μ4.1 130 17) ≤ 0) (∃ v, (some (Value.int 0)) = some (Value.int v) ∧ Ψ v μ4) (∃ v, (some (Value.int 1)) = some (Value.int v) ∧ Ψ v μ4))) : VB N 5 mX12_summed 10 [.ref 130] [] μ (fun r μ' => ∃ v, r = some (.int v) ∧ Ψ v μ') := by
  have h19 : μ.1 130 19 = nI 1 := h.2.2
  have e : ¬ μ.1 130 19 = 0 := by rw [h19]; decide
  refine tX12_summed_10 ⟨fun g => absurd g e, fun _ => ?_⟩
  exact vi_b (fun Ψ => s_goes h) (fun g => tX12_summed_24 ⟨fun g => absurd g e, fun _ => K1 g⟩) (fun g => K0 g)
theorem po_mn {s a : Nat} {b : List Nat} (hb : ∀ x r, b = x :: r → x = 40) : mn (po s ++ po a ++ b) = 0 ∧ st (po s ++ po a ++ b) = po s ++ po a ++ b := by
  have ne : ∀ (l : List Nat), (∀ x r, l = x :: r → x ≠ 2) → mn l = 0 ∧ st l = l := by
    intro l hl
    match l, hl with
    | [], _ => exact ⟨rfl, rfl⟩
    | x :: r, hl => exact ⟨if_neg (hl x r rfl), if_neg (hl x r rfl)⟩
  apply ne
  intro x r e
  by_cases hs : s = 0
  · subst hs
    by_cases ha : a = 0
    · subst ha
      have := hb x r e
      omega
    · have e2 : po 0 ++ po a ++ b = rop a :: b := by unfold po; rw [if_neg ha, if_pos rfl]; rfl
      rw [e2] at e
      injection e with e3
      have := rop_b a
      omega
  · have e2 : po s ++ po a ++ b = rop s :: (po a ++ b) := by unfold po; rw [if_neg hs]; rfl
    rw [e2] at e
    injection e with e3
    have := rop_b s
    omega
theorem par_in {s a : Nat} {p : List Nat} : 40 ∈ po s ++ po a ++ 40 :: p := List.mem_append.mpr (Or.inr List.mem_cons_self)
theorem mw (hso : SO fee I0) {q a s d k f k1 : Nat} {c : Cd} (hr : Rd (kT bt tn) (kV bt tn) fee q a s d k f k1 c) : MW N bt tn m t0 I0 Ψ q a s d k f k1 c := by
  have so : ∀ {μ : Me}, RFr t0 I0 μ.1 → SO fee μ.1 := by
    intro μ fr
    unfold SO at *
    rw [fr.2.1 20 (by omega)]
    exact hso
  refine hr.ind (MW N bt tn m t0 I0 Ψ) ⟨?_, ?_, ?_, ?_, ?_, ?_, ?_, ?_, ?_, ?_, ?_, ?_, ?_, ?_, ?_⟩
  · intro d k h1 h2
    refine ⟨fun _ p L e _ _ _ _ _ K μ fr h => ?_, fun e => absurd e (by decide), fun e => absurd e (by decide)⟩
    exact hd_0 h (b_numb h h1 h2 (e42b (f := 2) (by decide) (by decide) (K (by decide) μ fr h.1.rb)))
  · intro d k h1 h2
    refine ⟨fun _ p L e hd hp hm hl K _ μ fr h => ?_, fun e => absurd e (by decide), fun e => absurd e (by decide)⟩
    refine hd_0 h (b_num h h1 h2 hm (by omega) (by omega) (fun μ' q1 q2 => e42 (K rfl ?_ μ' (fr.tr q1) q2)))
    rw [List.length_append]
    show L.length + 1 + _ + _ ≤ _
    omega
  · intro d k h1 h2 h3
    refine ⟨fun _ p L e _ _ _ _ _ K μ fr h => ?_, fun e => absurd e (by decide), fun e => absurd e (by decide)⟩
    exact hd_0 h (b_namb h h1 h2 (so fr) h3 (e42b (f := 5) (by decide) (by decide) (K (by decide) μ fr h.1.rb)))
  · intro d k h1 h2 h3
    refine ⟨fun _ p L e hd hp hm hl K _ μ fr h => ?_, fun e => absurd e (by decide), fun e => absurd e (by decide)⟩
    refine hd_0 h (b_nam h h1 h2 (so fr) h3 hm (by omega) (by omega) (fun μ' q1 q2 => e42 (K rfl ?_ μ' (fr.tr q1) q2)))
    rw [List.length_append]
    show L.length + 1 + _ + _ ≤ _
    omega
  · intro d k h1 h2 h3 h4
    refine ⟨fun _ p L e _ _ _ _ _ K μ fr h => ?_, fun e => absurd e (by decide), fun e => absurd e (by decide)⟩
    exact hd_0 h (b_wrong h h1 h2 h3 h4 (e42b (f := 1) (by decide) (by decide) (K (by decide) μ fr h.1.rb)))
  · intro d k h1 h2
    refine ⟨fun _ p L e hd _ _ _ _ K μ fr h => ?_, fun e => absurd e (by decide), fun e => absurd e (by decide)⟩
    have e8 : d = 8 := by omega
    subst e8
    exact hd_0 h (b_deep h h1 (e42b (f := 3) (by decide) (by decide) (K (by decide) μ fr h.1.rb)))
  · intro d k k1 c h1 h2 ih h3
    refine ⟨fun _ p L e hd hp hm hl K _ μ fr h => ?_, fun e => absurd e (by decide), fun e => absurd e (by decide)⟩
    refine hd_0 h (b_open h h2 (by omega) (Or.inl h1) (fun μ' q1 q2 => e42 ?_))
    rw [if_pos h1] at q2
    refine ih.2.1 rfl (40 :: p) L (mn p + e + 1) (Or.inl rfl) (Or.inl rfl) (by omega) (fun x r g => by injection g with g1; exact g1.symm) (by show p.length + 1 + _ + 2 ≤ 60; omega) (by show L.length + 0 + 0 + _ ≤ _; omega) (fun _ a' s' L' ga gs hL hb _ μ2 fr2 h2' => ?_) (fun g => absurd rfl g) μ' (fr.tr q1) q2
    have hkm := h2'.1.2.2.1
    refine hd_1 h2' (fun _ => n_par ga gs h2' h3 (by omega) (by omega) (by omega) (fun μ3 q3 q4 => e42 ?_)) (fun g => absurd (Or.inr (Or.inr (Or.inr (Or.inr ⟨h3, par_in⟩)))) g)
    rw [hL, show d + 1 - 1 - mn p = d - mn p by omega] at q4
    have hlen := congrArg List.length hL
    rw [List.length_append, List.length_append, pe_l, pe_l] at hlen
    exact K rfl (by omega) μ3 (fr2.tr q3) q4
  · intro d k k1 c h1 h2 ih h3
    refine ⟨fun _ p L e hd hp hm hl _ K μ fr h => ?_, fun e => absurd e (by decide), fun e => absurd e (by decide)⟩
    refine hd_0 h (b_open h h2 (by omega) (Or.inl h1) (fun μ' q1 q2 => e42 ?_))
    rw [if_pos h1] at q2
    refine ih.2.1 rfl (40 :: p) L (mn p + e + 1) (Or.inl rfl) (Or.inl rfl) (by omega) (fun x r g => by injection g with g1; exact g1.symm) (by show p.length + 1 + _ + 2 ≤ 60; omega) (by show L.length + 0 + 0 + _ ≤ _; omega) (fun _ a' s' L' ga gs hL hb hno μ2 fr2 h2' => ?_) (fun g => absurd rfl g) μ' (fr.tr q1) q2
    have hkm := h2'.1.2.2.1
    obtain ⟨n1, n2, n3, n4⟩ := hno
    refine hd_1 h2' (fun g => ?_) (fun _ => s_set3 ga gs (fun x r g => by injection g with g1; exact g1.symm) h2' (by omega) (fun μ3 q3 q4 => ?_))
    · rcases g with g | g | g | g | g
      · exact absurd g n3
      · exact absurd g n4
      · exact absurd g n1
      · exact absurd g n2
      · exact absurd g.1 h3
    · have h17 : μ3.1 130 17 = nI (p.length + 1) := q4.2.1.1
      rw [h17]
      simp (disch := omega) only [lit, Nat.add_sub_cancel, Nat.not_lt_zero, ↓m1_mI, nI_add, pk_mul, nx_and, nx_or, and31, sh_r, sh_1, nx_nand, Nat.and_one_is_mod, nI_clamp, nI_leI, nI_ltI, nI_eq, tb_1, vp_t, up2_a, up2_b, up2_c, br_1, br_0, true_and, and_true, mI_ne, mI_ne', mI_lt, mI_le, mI_nle, mI_nlt, pk_sub, mI_sub, eq_false (show ¬ p.length + 1 ≤ 0 by omega)]
      exact ⟨_, rfl, K (by decide) μ3 (fr2.tr q3) q4.1.rb⟩
  · intro d k f k1 c h1 h2 ih hf
    refine ⟨fun _ p L e hd hp hm hl _ K μ fr h => ?_, fun e => absurd e (by decide), fun e => absurd e (by decide)⟩
    refine hd_0 h (b_open h h2 (by omega) (Or.inl h1) (fun μ' q1 q2 => e42 ?_))
    rw [if_pos h1] at q2
    exact ih.2.1 rfl (40 :: p) L (mn p + e + 1) (Or.inl rfl) (Or.inl rfl) (by omega) (fun x r g => by injection g with g1; exact g1.symm) (by show p.length + 1 + _ + 2 ≤ 60; omega) (by show L.length + 0 + 0 + _ ≤ _; omega) (fun g => absurd g hf) K μ' (fr.tr q1) q2
  · intro d k f k1 c h1 h2 ih
    refine ⟨fun _ p L e hd hp hm hl K K2 μ fr h => ?_, fun e => absurd e (by decide), fun e => absurd e (by decide)⟩
    refine hd_0 h (b_open h h2 (by omega) (Or.inr h1) (fun μ' q1 q2 => e42 ?_))
    rw [if_neg (by omega)] at q2
    refine ih.1 rfl (2 :: p) L e (by omega) (by show p.length + 1 + _ ≤ 60; omega) (by show mn p + 1 ≤ d + 1; omega) (by show L.length + (mn p + 1) + e ≤ k + 1; omega) (fun ef hb => ?_) K2 μ' (fr.tr q1) q2
    have hb : (L ++ c).length + (mn p + 1) + e ≤ k1 := hb
    have := K ef (by rw [← List.append_assoc, List.length_append]; show (L ++ c).length + 1 + _ + _ ≤ _; omega)
    have e1 : L ++ c ++ mns (mn (2 :: p)) = L ++ (c ++ [(2, 0)]) ++ mns (mn p) := by
      rw [← List.append_assoc L c, List.append_assoc (L ++ c)]
      rfl
    have e2 : d + 1 - mn (2 :: p) = d - mn p := by show d + 1 - (mn p + 1) = _; omega
    rw [e1, e2]
    exact this
  · intro a s d k f k1 c ih hf
    refine ⟨fun e => absurd e (by decide), fun _ b L e ga gs hd hb hp hl _ K => ?_, fun e => absurd e (by decide)⟩
    have ⟨m1, m2⟩ := po_mn (s := s) (a := a) hb
    have l1 := ok1_le a
    have l2 := ok1_le s
    exact ih.1 rfl (po s ++ po a ++ b) L 0 hd (by rw [List.length_append, List.length_append, po_l, po_l]; omega) (by omega) (by omega) (fun g => absurd g hf) K
  · intro a s d k k1 c f k2 c2 ih ih2
    refine ⟨fun e => absurd e (by decide), fun _ b L e ga gs hd hb hp hl K K2 => ?_, fun e => absurd e (by decide)⟩
    have ⟨m1, m2⟩ := po_mn (s := s) (a := a) hb
    have l1 := ok1_le a
    have l2 := ok1_le s
    refine ih.1 rfl (po s ++ po a ++ b) L (ok1 a + ok1 s + e) hd (by rw [List.length_append, List.length_append, po_l, po_l]; omega) (by omega) (by omega) (fun _ hb2 => ?_) (fun g => absurd rfl g)
    rw [m1, m2, show L ++ c ++ mns 0 = L ++ c from List.append_nil _]
    rw [m1] at hb2
    refine ih2.2.2 rfl b s (L ++ c) e ga gs hd hb hp (by omega) (fun ef a2 s2 L' g1 g2 hL hb3 hno => ?_) K2
    exact K ef a2 s2 L' g1 g2 (by rw [hL, List.append_assoc, List.append_assoc, List.append_assoc]) hb3 hno
  · intro a d k f k1 c h1 ih
    refine ⟨fun e => absurd e (by decide), fun e => absurd e (by decide), fun _ b s' L e ga gs hd hb hp hl K K2 μ fr h => ?_⟩
    have hkm := h.1.2.2.1
    have hz : ok1 (kT bt tn k) = 1 := by unfold ok1; rw [if_neg (by omega)]
    refine hd_1 h (fun _ => n_mul ga gs hb h h1 (by omega) (by omega) (fun μ' q1 q2 => e42 ?_)) (fun g => absurd (by omega) g)
    exact ih.2.1 rfl b (L ++ pe s') e ga (Or.inr h1) hd hb hp (by rw [List.length_append, pe_l]; omega) K K2 μ' (fr.tr q1) q2
  · intro a d k f k1 c h1 ih
    refine ⟨fun e => absurd e (by decide), fun e => absurd e (by decide), fun _ b s' L e ga gs hd hb hp hl K K2 μ fr h => ?_⟩
    have hkm := h.1.2.2.1
    have hz : ok1 (kT bt tn k) = 1 := by unfold ok1; rw [if_neg (by omega)]
    refine hd_1 h (fun _ => n_add ga gs hb h h1 (by omega) (by omega) (fun μ' q1 q2 => e42 ?_)) (fun g => absurd (by omega) g)
    refine ih.2.1 rfl b (L ++ pe s' ++ pe a) e (Or.inr h1) (Or.inl rfl) hd hb hp (by rw [List.length_append, List.length_append, pe_l, pe_l]; show _ + _ + 0 + _ ≤ _; omega) (fun ef a2 s2 L' g1 g2 hL => K ef a2 s2 L' g1 g2 (by rw [hL, List.append_assoc (L ++ pe s')])) K2 μ' (fr.tr q1) q2
  · intro a d k h1 h2 h3 h4
    refine ⟨fun e => absurd e (by decide), fun e => absurd e (by decide), fun _ b s' L e ga gs hd hb hp hl K _ => ?_⟩
    exact K rfl a s' L ga gs rfl hl ⟨h1, h2, h3, h4⟩
end
theorem r_sum {k d f k1 e : Nat} {c L : Cd} {μ : Me} {Ψ : Int32 → Me → Prop} (hr : Rd (kT bt tn) (kV bt tn) fee 1 0 0 d k f k1 c) (hso : SO fee μ.1) (h : RK bt tn m t0 k L d μ) (hd : d ≤ 8) (hl : L.length + e ≤ k) (K : f = 0 → ∀ μ', RFr t0 μ.1 μ'.1 → RK bt tn m t0 k1 (L ++ c) d μ' → (L ++ c).length + e ≤ k1 → Ψ 0 μ') (K2 : f ≠ 0 → ∀ μ', RFr t0 μ.1 μ'.1 → RB bt tn k1 μ' → Ψ (nI f) μ') : VI N 5 mX12_summed [.ref 130] μ Ψ := by
  refine tX12_summed_0 ?_
  have fr0 : RFr t0 μ.1 (up2 (up2 μ.1 130 17 (nI 0)) 130 19 (nI 0)) := (RFr.f (Or.inr (Or.inl rfl))).tr (RFr.f (Or.inr (Or.inr (Or.inr rfl))))
  refine (mw (N := N) (m := m) (t0 := t0) (I0 := μ.1) (Ψ := Ψ) hso hr).2.1 rfl [] L e (Or.inl rfl) (Or.inl rfl) hd (fun x r g => by cases g) (by show 0 + _ + 2 ≤ 60; omega) (by show L.length + 0 + 0 + e ≤ k; omega) (fun ef a' s' L' ga gs hL hb hno μ1 fr h1 => ?_) (fun ef μ1 fr h1 => K2 ef μ1 fr h1) (up2 (up2 μ.1 130 17 (nI 0)) 130 19 (nI 0), μ.2) fr0 (SS.of ((h.f (Or.inl rfl)).f (μ := (up2 μ.1 130 17 (nI 0), μ.2)) (Or.inr rfl)) (by rw [up2_b (by decide), up2_c]; rfl) (by decide) (fun x hx => (by cases hx)) trivial up2_c)
  have hkm := h1.1.2.2.1
  obtain ⟨n1, n2, n3, n4⟩ := hno
  refine hd_1 h1 (fun g => ?_) (fun _ => s_set3 ga gs (fun x r g => by cases g) h1 (by omega) (fun μ3 q3 q4 => ?_))
  · rcases g with g | g | g | g | g
    · exact absurd g n3
    · exact absurd g n4
    · exact absurd g n1
    · exact absurd g n2
    · have hm := g.2
      rw [List.append_nil] at hm
      rcases List.mem_append.mp hm with q | q
      · have := po_s gs 40 q; omega
      · have := po_a ga 40 q; omega
  · have h17 : μ3.1 130 17 = nI 0 := q4.2.1.1
    rw [h17]
    rw [hL] at q4
    have hlen := congrArg List.length hL
    rw [List.length_append, List.length_append, pe_l, pe_l] at hlen
    exact ⟨fun _ => ⟨_, rfl, K ef μ3 (fr.tr q3) q4.1 (by omega)⟩, fun g => absurd (by decide) g⟩
end RW
