/-! text, whole -/
section TJ1
variable {N : Nat}
theorem c_copyL {r : Nat} (hr : r = 86 ∨ r = 97 ∨ r = 108 ∨ r = 119) {μ : Me} {Φ : Me → Prop} (K : ∀ μ' : Me, (∀ a, a < r ∨ r + 9 < a → μ'.1 a = μ.1 a) → μ'.1 r 2 = μ.1 57 2 → (∀ j, j < 300 → μ'.1 (r + 1) j = μ.1 58 j) → (∀ j, j < 3 → μ'.1 (r + 2) j = μ.1 59 j) → (∀ j, j < 3 → μ'.1 (r + 3) j = μ.1 60 j) → (∀ j, j < 16 → μ'.1 (r + 4) j = μ.1 61 j) → (∀ j, j < 16 → μ'.1 (r + 5) j = μ.1 62 j) → (∀ j, j < 16 → μ'.1 (r + 6) j = μ.1 63 j) → (∀ j, j < 16 → μ'.1 (r + 7) j = μ.1 64 j) → (∀ j, j < 16 → μ'.1 (r + 8) j = μ.1 65 j) → (∀ j, j < 16 → μ'.1 (r + 9) j = μ.1 66 j) → Φ μ') : VU N 1 mX5_copy [.ref r, .ref 57] μ Φ := by
  have hr86 : 86 ≤ r := by omega
  refine tX5_copy_0 hr (fun μ1 e1 μ2 e2 μ3 e3 μ4 e4 μ5 e5 μ6 e6 μ7 e7 μ8 e8 μ9 e9 => ⟨rfl, ?_⟩)
  have A1 : ∀ a, a ≠ r → a ≠ r + 1 → μ1.1 a = μ.1 a := fun a a1 a2 => by
    rw [e1]
    show upR _ _ _ a = _
    rw [upR_n a2, up2_ne a1, up2_ne a1, up2_ne a1]
  have B1 : μ1.1 r 2 = μ.1 57 2 := by
    rw [e1]
    show upR _ _ _ r 2 = _
    rw [upR_n (by omega), up2_c, up2_a (by omega), up2_a (by omega)]
  have C1 : ∀ j, j < 300 → μ1.1 (r + 1) j = μ.1 58 j := fun j hj => by
    rw [e1]
    show upR _ _ _ (r + 1) j = _
    rw [upR_eq, if_pos hj, up2_a (by omega), up2_a (by omega), up2_a (by omega)]
  have A2 : ∀ a, a ≠ r + 2 → μ2.1 a = μ1.1 a := fun a h => by rw [e2]; exact upR_n h
  have C2 : ∀ j, j < 3 → μ2.1 (r + 2) j = μ1.1 59 j := fun j hj => by
    rw [e2]
    show upR _ _ _ (r + 2) j = _
    rw [upR_eq, if_pos hj]
  have A3 : ∀ a, a ≠ r + 3 → μ3.1 a = μ2.1 a := fun a h => by rw [e3]; exact upR_n h
  have C3 : ∀ j, j < 3 → μ3.1 (r + 3) j = μ2.1 60 j := fun j hj => by
    rw [e3]
    show upR _ _ _ (r + 3) j = _
    rw [upR_eq, if_pos hj]
  have A4 : ∀ a, a ≠ r + 4 → μ4.1 a = μ3.1 a := fun a h => by rw [e4]; exact upR_n h
  have C4 : ∀ j, j < 16 → μ4.1 (r + 4) j = μ3.1 61 j := fun j hj => by
    rw [e4]
    show upR _ _ _ (r + 4) j = _
    rw [upR_eq, if_pos hj]
  have A5 : ∀ a, a ≠ r + 5 → μ5.1 a = μ4.1 a := fun a h => by rw [e5]; exact upR_n h
  have C5 : ∀ j, j < 16 → μ5.1 (r + 5) j = μ4.1 62 j := fun j hj => by
    rw [e5]
    show upR _ _ _ (r + 5) j = _
    rw [upR_eq, if_pos hj]
  have A6 : ∀ a, a ≠ r + 6 → μ6.1 a = μ5.1 a := fun a h => by rw [e6]; exact upR_n h
  have C6 : ∀ j, j < 16 → μ6.1 (r + 6) j = μ5.1 63 j := fun j hj => by
    rw [e6]
    show upR _ _ _ (r + 6) j = _
    rw [upR_eq, if_pos hj]
  have A7 : ∀ a, a ≠ r + 7 → μ7.1 a = μ6.1 a := fun a h => by rw [e7]; exact upR_n h
  have C7 : ∀ j, j < 16 → μ7.1 (r + 7) j = μ6.1 64 j := fun j hj => by
    rw [e7]
    show upR _ _ _ (r + 7) j = _
    rw [upR_eq, if_pos hj]
  have A8 : ∀ a, a ≠ r + 8 → μ8.1 a = μ7.1 a := fun a h => by rw [e8]; exact upR_n h
  have C8 : ∀ j, j < 16 → μ8.1 (r + 8) j = μ7.1 65 j := fun j hj => by
    rw [e8]
    show upR _ _ _ (r + 8) j = _
    rw [upR_eq, if_pos hj]
  have A9 : ∀ a, a ≠ r + 9 → μ9.1 a = μ8.1 a := fun a h => by rw [e9]; exact upR_n h
  have C9 : ∀ j, j < 16 → μ9.1 (r + 9) j = μ8.1 66 j := fun j hj => by
    rw [e9]
    show upR _ _ _ (r + 9) j = _
    rw [upR_eq, if_pos hj]
  refine K μ9 (fun a ha => ?_) ?_ (fun j hj => ?_) (fun j hj => ?_) (fun j hj => ?_) (fun j hj => ?_) (fun j hj => ?_) (fun j hj => ?_) (fun j hj => ?_) (fun j hj => ?_) (fun j hj => ?_)
  · rw [A9 a (by omega), A8 a (by omega), A7 a (by omega), A6 a (by omega), A5 a (by omega), A4 a (by omega), A3 a (by omega), A2 a (by omega), A1 a (by omega) (by omega)]
  · rw [A9 r (by omega), A8 r (by omega), A7 r (by omega), A6 r (by omega), A5 r (by omega), A4 r (by omega), A3 r (by omega), A2 r (by omega)]
    exact B1
  · rw [A9 _ (by omega), A8 _ (by omega), A7 _ (by omega), A6 _ (by omega), A5 _ (by omega), A4 _ (by omega), A3 _ (by omega), A2 _ (by omega)]
    exact C1 j hj
  · rw [A9 _ (by omega), A8 _ (by omega), A7 _ (by omega), A6 _ (by omega), A5 _ (by omega), A4 _ (by omega), A3 _ (by omega), C2 j hj, A1 59 (by omega) (by omega)]
  · rw [A9 _ (by omega), A8 _ (by omega), A7 _ (by omega), A6 _ (by omega), A5 _ (by omega), A4 _ (by omega), C3 j hj, A2 60 (by omega), A1 60 (by omega) (by omega)]
  · rw [A9 _ (by omega), A8 _ (by omega), A7 _ (by omega), A6 _ (by omega), A5 _ (by omega), C4 j hj, A3 61 (by omega), A2 61 (by omega), A1 61 (by omega) (by omega)]
  · rw [A9 _ (by omega), A8 _ (by omega), A7 _ (by omega), A6 _ (by omega), C5 j hj, A4 62 (by omega), A3 62 (by omega), A2 62 (by omega), A1 62 (by omega) (by omega)]
  · rw [A9 _ (by omega), A8 _ (by omega), A7 _ (by omega), C6 j hj, A5 63 (by omega), A4 63 (by omega), A3 63 (by omega), A2 63 (by omega), A1 63 (by omega) (by omega)]
  · rw [A9 _ (by omega), A8 _ (by omega), C7 j hj, A6 64 (by omega), A5 64 (by omega), A4 64 (by omega), A3 64 (by omega), A2 64 (by omega), A1 64 (by omega) (by omega)]
  · rw [A9 _ (by omega), C8 j hj, A7 65 (by omega), A6 65 (by omega), A5 65 (by omega), A4 65 (by omega), A3 65 (by omega), A2 65 (by omega), A1 65 (by omega) (by omega)]
  · rw [C9 j hj, A8 66 (by omega), A7 66 (by omega), A6 66 (by omega), A5 66 (by omega), A4 66 (by omega), A3 66 (by omega), A2 66 (by omega), A1 66 (by omega) (by omega)]
/-- all that is written is small -/
theorem Rx.bl {T V : Nat → Nat} {n : Nat} {F : Nat → Nat → Nat} {L : Cd} {k f k1 n2 : Nat} {F2 : Nat → Nat → Nat} {L2 : Cd} (h : Rx T V n F L k f k1 n2 F2 L2) : f = 0 → (∀ x ∈ L, x.1 < 65536 ∧ x.2 < 65536) → ∀ x ∈ L2, x.1 < 65536 ∧ x.2 < 65536 := by
  refine h (fun n F L k f k1 n2 F2 L2 => f = 0 → (∀ x ∈ L, x.1 < 65536 ∧ x.2 < 65536) → ∀ x ∈ L2, x.1 < 65536 ∧ x.2 < 65536) ⟨fun _ _ _ _ _ _ h => h, fun _ _ _ _ f _ _ _ _ _ hf e => absurd e hf, fun n F L k k1 v c f k2 n2 F2 L2 _ hr ih e hw => ih e (fun x hx => ?_)⟩
  rcases List.mem_append.mp hx with q | q
  · exact hw x q
  have hr : ∃ k2, Rbd T V L (T k - 1) (k + 1) 0 k2 v c := by
    rcases hr with ⟨_, h2, h3⟩ | ⟨_, _, _, h2, h3⟩ | ⟨_, _, h2, h3⟩ | ⟨_, _, h2, h3⟩ | ⟨_, _, h2, _, h3⟩ | ⟨h1, _, k2, _, h2, _, h3⟩
    · omega
    · omega
    · omega
    · exact absurd rfl h3
    · omega
    · exact ⟨k2, h2⟩
  obtain ⟨k2, _, hb⟩ := hr
  rcases hb with ⟨_, q1, _⟩ | ⟨_, q1, _⟩ | ⟨_, _, q1⟩
  · have := q1.ok x q; exact ⟨by have := this.1; omega, by have := this.2.1; omega⟩
  · have := q1.ok rfl x q; exact ⟨by have := this.1; omega, by have := this.2.1; omega⟩
  · rw [q1] at q; cases q
theorem WH.bd {n : Nat} {F : Nat → Nat → Nat} {L : Cd} (h : WH n F L) (hL : L.length ≤ 300) {i j : Nat} (hi : i < n) (hj : j ≤ 5) (hij : j ≤ 2 ∨ F i 0 = 3) : F i j < 65536 := by
  by_cases e : F i 0 = 3
  · obtain ⟨a1, a2, a3, a4, a5, a6⟩ := h.1 i hi e
    have p16 : 2 ^ F i 1 ≤ 65536 := Nat.pow_le_pow_right (n := 2) (by decide) (show F i 1 ≤ 16 by omega)
    have cs : j = 0 ∨ j = 1 ∨ j = 2 ∨ j = 3 ∨ j = 4 ∨ j = 5 := by omega
    rcases cs with q | q | q | q | q | q <;> subst q <;> omega
  · obtain ⟨a1, a2, a3, _⟩ := h.2.2 i hi e
    have cs : j = 0 ∨ j = 1 ∨ j = 2 := by omega
    rcases cs with q | q | q <;> subst q <;> omega
theorem WB_tx {B : Nat → Nat} {n : Nat} (hW : WB B) (h1 : B 3 ≤ n) (h4 : n ≤ 4) : WB (ub B 3 n) := by
  have hn := hW.n
  obtain ⟨⟨w0, _⟩, w1, w2, w3, w4, w5⟩ := hW
  unfold WB
  rw [ub_e]
  (try simp (disch := omega) only [ub_n])
  refine ⟨⟨fun k => ?_, by omega⟩, fun i hi => ?_, fun i hi => ?_, fun i hi => ?_, fun i j hi hj => ?_, fun i hi => ?_⟩
  · have := w0 k
    unfold ub
    split <;> omega
  · (try simp (disch := omega) only [ub_n]); exact w1 i hi
  · (try simp (disch := omega) only [ub_n]); exact w2 i hi
  · (try simp (disch := omega) only [ub_n]); exact w3 i hi
  · (try simp (disch := omega) only [ub_n]); exact w4 i j hi hj
  · (try simp (disch := omega) only [ub_n]); exact w5 i hi
end TJ1
