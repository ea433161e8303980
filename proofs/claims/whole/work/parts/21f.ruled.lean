/-! the reference reads a rule, whole -/
section RF1
variable {N : Nat} {bt : Nat → Nat} {tn m t0 : Nat}
section
variable {X b k2 f k1 z : Nat} {L : Cd} {μ : Me} {Ψ : Int32 → Me → Prop}
theorem r_152 (hX : X + 6 ≤ t0 + 150) (hb : b < 16) (h : RK bt tn m t0 k2 L 0 μ) (e1 : μ.1 133 (X + 1) = nI b) (e5 : μ.1 133 (X + 5) = nI 0) (hr : Rfb (kT bt tn) (kV bt tn) b 8 k2 f k1 z) (K0 : f = 0 → ∀ μ', RFx X μ.1 μ'.1 → RK bt tn m t0 k1 L 0 μ' → μ'.1 133 (X + 5) = nI z → (∀ j, j ≠ X + 5 → μ'.1 133 j = μ.1 133 j) → Ψ 0 μ') (K1 : f ≠ 0 → ∀ μ', RFx X μ.1 μ'.1 → RB bt tn k1 μ' → Ψ (nI f) μ') : VB N 5 mX12_ruled 152 [.ref 130, .int (nI X), .int (nI 0)] [] μ (fun r μ' => ∃ v, r = some (.int v) ∧ Ψ v μ') := by
  have ht := h.2.2.2.1.1
  refine tX12_ruled_152 ⟨fun _ => ?_, fun e => absurd rfl e⟩
  have c1 : (nI X + 1 : Int32) = nI (X + 1) := nI_add X 1
  have c5 : (nI X + 5 : Int32) = nI (X + 5) := nI_add X 5
  rw [c1, c5, nI_clamp (n := X + 1) (by omega)]
  refine j_w6 (a := 117) (b := 110) (c := 108) (d := 101) (e := 115) (f := 115) (by decide) (by decide) (by decide) (by decide) (by decide) (by decide) (q_isB (X := 8) (by decide) (by decide) (by decide) (by decide) h (fun g => ⟨vp_in_nI (by omega) (by decide), ?_⟩) (fun g => ⟨_, rfl, ?_⟩))
  · rcases hr with ⟨q, _⟩ | ⟨_, q⟩
    · exact absurd g q
    rw [e1]
    refine tX12_facts_0 ?_
    refine mf (N := N) (m := m) (t0 := t0) (L := L) (I0 := μ.1) (Ψ := fun v5 μ5 => ∃ v, (some (Value.int v5)) = some (Value.int v) ∧ Ψ v μ5) hb (X := X) (x0 := X + 5) (by omega) (by omega) hX ht q ?_ ?_ k2 μ rfl (by omega) RFx.rf h e5 (by decide) (fun j _ => rfl)
    · intro ef μ' q1 q2 q3 q4
      exact ⟨_, rfl, K0 ef μ' q1 q2 q3 q4⟩
    · intro ef μ' q1 q2
      exact ⟨_, rfl, K1 ef μ' q1 q2⟩
  · rcases hr with ⟨_, q1, q2, q3⟩ | ⟨q, _⟩
    · subst q1 q2 q3
      exact K0 rfl μ RFx.rf h e5 (fun j _ => rfl)
    · exact absurd q g
end
theorem r_ruled {X k f k1 : Nat} {v : Nat → Nat} {L : Cd} {μ : Me} {Ψ : Int32 → Me → Prop} (hX : X + 6 ≤ t0 + 150) (h : RK bt tn m t0 k L 0 μ) (hr : Rr (kT bt tn) (kV bt tn) k f k1 v) (K0 : f = 0 → ∀ μ', RFx X μ.1 μ'.1 → RK bt tn m t0 k1 L 0 μ' → (∀ j, 1 ≤ j → j ≤ 5 → μ'.1 133 (X + j) = nI (v j)) → Ψ 0 μ') (K1 : f ≠ 0 → ∀ μ', RFx X μ.1 μ'.1 → RB bt tn k1 μ' → Ψ (nI f) μ') : VI N 5 mX12_ruled [.ref 130, .int (nI X)] μ Ψ := by
  have ht := h.2.2.2.1.1
  have hv := kV_le (bt := bt) (tn := tn)
  have fle := hr.len.1
  have bne : ∀ {g : Nat}, g ≠ 0 → g ≤ 6 → ¬ nI g = (0 : Int32) := fun h1 h2 e => h1 (nI_inj (b := 0) e (by omega) (by decide))
  refine tX12_ruled_0 ?_
  have c1 : (nI X + 1 : Int32) = nI (X + 1) := nI_add X 1
  have c2 : (nI X + 2 : Int32) = nI (X + 2) := nI_add X 2
  have c3 : (nI X + 3 : Int32) = nI (X + 3) := nI_add X 3
  have c4 : (nI X + 4 : Int32) = nI (X + 4) := nI_add X 4
  have c5 : (nI X + 5 : Int32) = nI (X + 5) := nI_add X 5
  rw [c1, c2, c3, c4, c5, nI_clamp (n := X + 4) (by omega), nI_clamp (n := X + 5) (by omega), nI_clamp (n := X + 1) (by omega)]
  refine ⟨vp_in_nI (by omega) (by decide), vp_in_nI (by omega) (by decide), ?_⟩
  have hA := (h.h (x := X + 4) (w := 0) (by omega) (by decide)).h (x := X + 5) (w := 0) (by omega) (by decide)
  have frA : RFx X μ.1 (up2 (up2 μ.1 133 (X + 4) (nI 0)) 133 (X + 5) (nI 0)) := (RFx.up (by omega) (by omega)).tr (RFx.up (by omega) (by omega))
  -- what the alternatives say, stage by stage
  refine r_fig (lo := 0) (hi := 15) (X := X) (x := X + 1) (μ := (up2 (up2 μ.1 133 (X + 4) (nI 0)) 133 (X + 5) (nI 0), μ.2)) hA (by omega) (by omega) hX (by decide) (by decide) (fun n1 μ1 fr1 h1 e1 j1 => ⟨fun _ => ?_, fun e => absurd rfl e⟩) (fun g ng => ?_)
  rotate_left
  · have gf : g ≠ 0 ∧ g ≤ 6 := by rcases ng with q | q <;> omega
    refine ⟨fun e => absurd e (bne gf.1 gf.2), fun _ => ⟨_, rfl, ?_⟩⟩
    have : f = g ∧ k1 = k := by
      rcases hr with ⟨q, q2⟩ | ⟨q, _⟩ | ⟨q, _⟩ | ⟨q, _⟩ | ⟨q, _⟩ | ⟨q, _⟩ | ⟨q, _⟩
      · refine ⟨?_, q2⟩
        rcases q with q | q <;> rcases ng with w | w <;> first | omega | exact absurd w.1 q.1 | exact absurd q.1 w.1
      all_goals
        obtain ⟨a1, a2, a3⟩ := q
        rcases ng with w | w
        · exact absurd a1 w.1
        · exact absurd ⟨a2, a3⟩ w.2.1
    rw [← this.1]
    exact K1 (by omega) _ frA (by rw [this.2]; exact hA.rb)
  have fr1 : RFx X μ.1 μ1.1 := frA.tr fr1
  have r1 : ∀ {P : Prop}, ¬ (nbad (kT bt tn) (kV bt tn) 0 15 k f ∧ P) := by
    intro P q
    rcases q.1 with w | w
    · exact w.1 n1.1
    · exact w.2.1 n1.2
  refine j_w5 (a := 119) (b := 111) (c := 114) (d := 116) (e := 104) (by decide) (by decide) (by decide) (by decide) (by decide) (q_isB (X := 5) (by decide) (by decide) (by decide) (by decide) h1 (fun g5 => ?_) (fun g5 => ⟨_, rfl, ?_⟩))
  rotate_left
  · rcases hr with q | ⟨_, _, q1, q2⟩ | ⟨_, q, _⟩ | ⟨_, q, _⟩ | ⟨_, q, _⟩ | ⟨_, q, _⟩ | ⟨_, q, _⟩
    · exact absurd q r1
    · have := K1 (by omega) μ1 fr1 (by rw [q2]; exact h1.rb)
      rw [q1] at this
      exact this
    all_goals exact absurd q g5
  refine r_nxt h1 (by omega) (fun μ2 nx2 h2 => ?_)
  have fr2 : RFx X μ.1 μ2.1 := fr1.tr (RFx.nx nx2)
  have s2 : ∀ j, μ2.1 133 j = μ1.1 133 j := fun j => by rw [nx2.1 133 (by decide)]
  refine r_fig (lo := 1) (hi := 9) (X := X) (x := X + 2) h2 (by omega) (by omega) hX (by decide) (by decide) (fun n2 μ3 fr3 h3 e3 j3 => ⟨fun _ => ?_, fun e => absurd rfl e⟩) (fun g ng => ?_)
  rotate_left
  · have gf : g ≠ 0 ∧ g ≤ 6 := by rcases ng with q | q <;> omega
    refine ⟨fun e => absurd e (bne gf.1 gf.2), fun _ => ⟨_, rfl, ?_⟩⟩
    have : f = g ∧ k1 = k + 2 := by
      rcases hr with q | ⟨_, q, _⟩ | ⟨_, _, q, q2⟩ | ⟨_, _, q, _⟩ | ⟨_, _, q, _⟩ | ⟨_, _, q, _⟩ | ⟨_, _, q, _⟩
      · exact absurd q r1
      · exact absurd g5 q
      · refine ⟨?_, q2⟩
        rcases q with q | q <;> rcases ng with w | w <;> first | omega | exact absurd w.1 q.1 | exact absurd q.1 w.1
      all_goals
        obtain ⟨a1, a2, a3⟩ := q
        rcases ng with w | w
        · exact absurd a1 w.1
        · exact absurd ⟨a2, a3⟩ w.2.1
    rw [← this.1]
    exact K1 (by omega) μ2 fr2 (by rw [this.2]; exact h2.rb)
  have fr3 : RFx X μ.1 μ3.1 := fr2.tr fr3
  have r2 : ∀ {P : Prop}, ¬ (nbad (kT bt tn) (kV bt tn) 1 9 (k + 2) f ∧ P) := by
    intro P q
    rcases q.1 with w | w
    · exact w.1 n2.1
    · exact w.2.1 n2.2
  refine j_w4 (a := 98) (b := 101) (c := 110) (d := 100) (by decide) (by decide) (by decide) (by decide) (q_isB (X := 6) (by decide) (by decide) (by decide) (by decide) h3 (fun g6 => ?_) (fun g6 => ⟨_, rfl, ?_⟩))
  rotate_left
  · rcases hr with q | ⟨_, q, _⟩ | ⟨_, _, q⟩ | ⟨_, _, _, _, q1, q2⟩ | ⟨_, _, _, q, _⟩ | ⟨_, _, _, q, _⟩ | ⟨_, _, _, q, _⟩
    · exact absurd q r1
    · exact absurd g5 q
    · exact absurd q r2
    · have := K1 (by omega) μ3 fr3 (by rw [q2]; exact h3.rb)
      rw [q1] at this
      exact this
    all_goals exact absurd q g6
  refine r_nxt h3 (by rw [show k + 1 + 1 + 1 = k + 2 + 1 from rfl] at *; omega) (fun μ4 nx4 h4 => ?_)
  have fr4 : RFx X μ.1 μ4.1 := fr3.tr (RFx.nx nx4)
  have s4 : ∀ j, μ4.1 133 j = μ3.1 133 j := fun j => by rw [nx4.1 133 (by decide)]
  refine r_fig (lo := 0) (hi := 99) (X := X) (x := X + 3) h4 (by omega) (by omega) hX (by decide) (by decide) (fun n3 μ5 fr5 h5 e5 j5 => ⟨fun _ => ?_, fun e => absurd rfl e⟩) (fun g ng => ?_)
  rotate_left
  · have gf : g ≠ 0 ∧ g ≤ 6 := by rcases ng with q | q <;> omega
    have fin : Ψ (nI g) μ4 := by
      have : f = g ∧ k1 = k + 4 := by
        rcases hr with q | ⟨_, q, _⟩ | ⟨_, _, q⟩ | ⟨_, _, _, q, _⟩ | ⟨_, _, _, _, q, q2⟩ | ⟨_, _, _, _, q, _⟩ | ⟨_, _, _, _, q, _⟩
        · exact absurd q r1
        · exact absurd g5 q
        · exact absurd q r2
        · exact absurd g6 q
        · refine ⟨?_, q2⟩
          rcases q with q | q <;> rcases ng with w | w <;> first | omega | exact absurd w.1 q.1 | exact absurd q.1 w.1
        all_goals
          obtain ⟨a1, a2, a3⟩ := q
          rcases ng with w | w
          · exact absurd a1 w.1
          · exact absurd ⟨a2, a3⟩ w.2.1
      rw [← this.1]
      exact K1 (by omega) μ4 fr4 (by rw [this.2]; exact h4.rb)
    refine ⟨fun e => absurd e (bne gf.1 gf.2), fun _ => ?_⟩
    exact tX12_ruled_152 ⟨fun e => absurd e (bne gf.1 gf.2), fun _ => ⟨_, rfl, fin⟩⟩
  have fr5 : RFx X μ.1 μ5.1 := fr4.tr fr5
  have r3 : ∀ {P : Prop}, ¬ (nbad (kT bt tn) (kV bt tn) 0 99 (k + 4) f ∧ P) := by
    intro P q
    rcases q.1 with w | w
    · exact w.1 n3.1
    · exact w.2.1 n3.2
  have hb16 : kV bt tn k < 16 := by have := n1.2.2; omega
  have A1 : μ5.1 133 (X + 1) = nI (kV bt tn k) := by rw [j5 _ (by omega), s4, j3 _ (by omega), s2]; exact e1
  have A2 : μ5.1 133 (X + 2) = nI (kV bt tn (k + 2)) := by rw [j5 _ (by omega), s4]; exact e3
  have A3 : μ5.1 133 (X + 3) = nI (kV bt tn (k + 4)) := e5
  have A4 : μ5.1 133 (X + 4) = nI 0 := by
    rw [j5 _ (by omega), s4, j3 _ (by omega), s2, j1 _ (by omega)]
    show up2 (up2 μ.1 133 (X + 4) (nI 0)) 133 (X + 5) (nI 0) 133 (X + 4) = _
    rw [up2_b (by omega), up2_c]
  have A5 : μ5.1 133 (X + 5) = nI 0 := by
    rw [j5 _ (by omega), s4, j3 _ (by omega), s2, j1 _ (by omega)]
    show up2 (up2 μ.1 133 (X + 4) (nI 0)) 133 (X + 5) (nI 0) 133 (X + 5) = _
    exact up2_c
  -- behind by
  have fin : ∀ k6 y μ6, RFx X μ.1 μ6.1 → RK bt tn m t0 k6 L 0 μ6 → Rfb (kT bt tn) (kV bt tn) (kV bt tn k) 7 (k + 5) 0 k6 y → μ6.1 133 (X + 4) = nI y → (∀ j, j ≠ X + 4 → μ6.1 133 j = μ5.1 133 j) → (∃ z, Rfb (kT bt tn) (kV bt tn) (kV bt tn k) 8 k6 f k1 z ∧ (f = 0 → v 1 = kV bt tn k ∧ v 2 = kV bt tn (k + 2) ∧ v 3 = kV bt tn (k + 4) ∧ v 4 = y ∧ v 5 = z)) → VB N 5 mX12_ruled 152 [.ref 130, .int (nI X), .int (nI 0)] [] μ6 (fun r μ' => ∃ v, r = some (.int v) ∧ Ψ v μ') := by
    intro k6 y μ6 fr6 h6 hr6 ey j6 ⟨z, hr7, hvz⟩
    refine r_152 (b := kV bt tn k) hX hb16 h6 (by rw [j6 _ (by omega)]; exact A1) (by rw [j6 _ (by omega)]; exact A5) hr7 (fun ef μ7 q1 q2 q3 q4 => K0 ef μ7 (fr6.tr q1) q2 (fun j j1' j2' => ?_)) (fun ef μ7 q1 q2 => K1 ef μ7 (fr6.tr q1) q2)
    obtain ⟨w1, w2, w3, w4, w5⟩ := hvz ef
    have cases : j = 1 ∨ j = 2 ∨ j = 3 ∨ j = 4 ∨ j = 5 := by omega
    rcases cases with e | e | e | e | e <;> subst e
    · rw [q4 _ (by omega), j6 _ (by omega), w1]; exact A1
    · rw [q4 _ (by omega), j6 _ (by omega), w2]; exact A2
    · rw [q4 _ (by omega), j6 _ (by omega), w3]; exact A3
    · rw [q4 _ (by omega), w4]; exact ey
    · rw [w5]; exact q3
  have last : (f ≠ 0 ∧ ∃ y, Rfb (kT bt tn) (kV bt tn) (kV bt tn k) 7 (k + 5) f k1 y) ∨ (∃ k6 y, Rfb (kT bt tn) (kV bt tn) (kV bt tn k) 7 (k + 5) 0 k6 y ∧ ∃ z, Rfb (kT bt tn) (kV bt tn) (kV bt tn k) 8 k6 f k1 z ∧ (f = 0 → v 1 = kV bt tn k ∧ v 2 = kV bt tn (k + 2) ∧ v 3 = kV bt tn (k + 4) ∧ v 4 = y ∧ v 5 = z)) := by
    rcases hr with q | ⟨_, q, _⟩ | ⟨_, _, q⟩ | ⟨_, _, _, q, _⟩ | ⟨_, _, _, _, q⟩ | ⟨_, _, _, _, _, q⟩ | ⟨_, _, _, _, _, k6, y, z, q1, q2, q3⟩
    · exact absurd q r1
    · exact absurd g5 q
    · exact absurd q r2
    · exact absurd g6 q
    · exact absurd q r3
    · exact Or.inl q
    · exact Or.inr ⟨k6, y, q1, z, q2, q3⟩
  have noBy : kT bt tn (k + 5) ≠ 7 → VB N 5 mX12_ruled 152 [.ref 130, .int (nI X), .int (nI 0)] [] μ5 (fun r μ' => ∃ v, r = some (.int v) ∧ Ψ v μ') := by
    intro g7
    rcases last with ⟨q1, y, q2⟩ | ⟨k6, y, q1, q2⟩
    · rcases q2 with ⟨_, q, _⟩ | ⟨q, _⟩
      · exact absurd q q1
      · exact absurd q g7
    · have q1' := q1
      rcases q1 with ⟨_, _, q4, q5⟩ | ⟨q, _⟩
      · subst q4 q5
        exact fin (k + 5) 0 μ5 fr5 h5 q1' A4 (fun j _ => rfl) q2
      · exact absurd q g7
  refine q_w2 (X := 7) (v := 25209) (by decide) (by decide) (by decide) (by decide) h5 (fun g7 => ⟨vp_in_nI (by omega) (by decide), ?_⟩) (fun g7 => noBy g7) (fun g7 => noBy g7)
  rw [A1]
  refine tX12_facts_0 ?_
  rcases last with ⟨q1, y, q2⟩ | ⟨k6, y, q1, q2⟩
  · rcases q2 with ⟨q, _⟩ | ⟨_, q⟩
    · exact absurd g7 q
    · refine mf (N := N) (m := m) (t0 := t0) (L := L) (I0 := μ5.1) (Ψ := fun v17 μ17 => VB N 5 mX12_ruled 152 [.ref 130, .int (nI X), .int v17] [] μ17 (fun r μ' => ∃ v, r = some (.int v) ∧ Ψ v μ')) hb16 (X := X) (x0 := X + 4) (by omega) (by omega) hX ht q (fun ef => absurd ef q1) (fun ef μ' w1 w2 => ?_) (k + 5) μ5 rfl (by omega) RFx.rf h5 A4 (by decide) (fun j _ => rfl)
      exact tX12_ruled_152 ⟨fun e => absurd e (bne q1 fle), fun _ => ⟨_, rfl, K1 q1 μ' (fr5.tr w1) w2⟩⟩
  · have q1' := q1
    rcases q1 with ⟨q, _⟩ | ⟨_, q⟩
    · exact absurd g7 q
    · refine mf (N := N) (m := m) (t0 := t0) (L := L) (I0 := μ5.1) (Ψ := fun v17 μ17 => VB N 5 mX12_ruled 152 [.ref 130, .int (nI X), .int v17] [] μ17 (fun r μ' => ∃ v, r = some (.int v) ∧ Ψ v μ')) hb16 (X := X) (x0 := X + 4) (by omega) (by omega) hX ht q (fun _ μ' w1 w2 w3 w4 => ?_) (fun ef => absurd rfl ef) (k + 5) μ5 rfl (by omega) RFx.rf h5 A4 (by decide) (fun j _ => rfl)
      exact fin k6 y μ' (fr5.tr w1) w2 q1' w3 w4 q2
end RF1
