/-! the law's loop, over what is known of each call -/
section LL
variable {N : Nat} {μ : Me}
/-- what is wanted of text -/
def TX (N : Nat) : Prop := ∀ (μ : Me) (Φ : Int32 → Int32 → Me → Prop), IV μ.1 → (∀ v (μ' : Me), IV μ'.1 → μ'.1 0 = μ.1 0 → Φ v v μ') → VI N 44 mX11_text [.ref 2] μ (fun v μ1 => μ1.1 0 = μ.1 0 ∧ VI N 10 mX12_text [.ref 130] μ1 (fun v' μ2 => Φ v v' μ2))
theorem law_ge {j : Nat} (hN : N ≤ 384) (hj : j ≤ 384) (h : ¬ (Int32.ofNat N - (6 : Int32)) < nI j) : j + 6 ≤ N := by
  apply Classical.byContradiction
  intro g
  apply h
  by_cases e : 6 ≤ N
  · have : Int32.ofNat N - (6 : Int32) = nI (N - 6) := pk_sub (a := N) (b := 6) e
    rw [this, i_lt, nI_toInt (by omega), nI_toInt (by omega)]
    omega
  · have : ∀ n, n < 6 → Int32.toInt (Int32.ofNat n - (6 : Int32)) < 0 := by decide
    rw [i_lt, nI_toInt (n := j) (by omega)]
    have := this N (by omega)
    omega
set_option maxHeartbeats 4000000 in
theorem law_loop (hT : TX N) (hN : N ≤ 384) : ∀ (n j : Nat) (μ : Me), N < j + 6 * n → j ≤ N → IV μ.1 → VL N 18 [.ref 0, .ref 2, .ref 130, .int (nI j)] [] μ (fun r _ => r = some (.int 1)) := by
  intro n
  induction n with
  | zero => intro j μ h1 h2; exact absurd h1 (by omega)
  | succ n ih =>
    intro j μ h1 h2 hI
    refine tL_law_18 ⟨fun _ => rfl, fun hg => ?_⟩
    have h6 := law_ge hN (by omega) hg
    have v0 : vp_in (nI j) N := vp_in_nI (by omega) (by omega)
    have a1 : nI j + (1 : Int32) = nI (j + 1) := nI_add (a := j) (b := 1)
    have a2 : nI j + (2 : Int32) = nI (j + 2) := nI_add (a := j) (b := 2)
    have a3 : nI j + (3 : Int32) = nI (j + 3) := nI_add (a := j) (b := 3)
    have a4 : nI j + (4 : Int32) = nI (j + 4) := nI_add (a := j) (b := 4)
    have a5 : nI j + (5 : Int32) = nI (j + 5) := nI_add (a := j) (b := 5)
    have a6 : nI j + (6 : Int32) = nI (j + 6) := nI_add (a := j) (b := 6)
    have v1 : vp_in (nI j + (1 : Int32)) N := by rw [a1]; exact vp_in_nI (by omega) (by omega)
    have v2 : vp_in (nI j + (2 : Int32)) N := by rw [a2]; exact vp_in_nI (by omega) (by omega)
    have v3 : vp_in (nI j + (3 : Int32)) N := by rw [a3]; exact vp_in_nI (by omega) (by omega)
    have v4 : vp_in (nI j + (4 : Int32)) N := by rw [a4]; exact vp_in_nI (by omega) (by omega)
    have v5 : vp_in (nI j + (5 : Int32)) N := by rw [a5]; exact vp_in_nI (by omega) (by omega)
    have KN : ∀ μ' : Me, IV μ'.1 → VL N 18 [.ref 0, .ref 2, .ref 130, .int (nI j + (6 : Int32))] [] μ' (fun r _ => r = some (.int 1)) := by
      intro μ' i
      rw [a6]
      exact ih (j + 6) μ' (by omega) h6 i
    have KK : ∀ (v : Int32) (μ' : Me), IV μ'.1 → μ'.1 0 = μ.1 0 → br (v = v) (VL N 18 [.ref 0, .ref 2, .ref 130, .int (nI j + (6 : Int32))] [] μ' (fun r _ => r = some (.int 1))) ((fun (r : Option Value) (_ : Me) => r = some (.int 1)) (some (.int (0 : Int32))) μ') := fun v μ' i _ => ⟨fun _ => KN μ' i, fun g => absurd rfl g⟩
    refine ⟨v0, ?_⟩
    refine And.intro (fun _ => ?_) ?_
    · refine ⟨v1, v2, v3, v4, VI.mono (k_witness (Φ := fun v v' μ' => br (v = v') (VL N 18 [.ref 0, .ref 2, .ref 130, .int (nI j + (6 : Int32))] [] μ' (fun r _ => r = some (.int 1))) ((fun (r : Option Value) (_ : Me) => r = some (.int 1)) (some (.int (0 : Int32))) μ')) hI KK) (fun v μ1 q => ?_)⟩
      rw [q.1]; exact ⟨v1, v2, v3, v4, q.2⟩
    refine And.intro (fun _ => ?_) ?_
    · refine ⟨v1, v2, v3, VI.mono (k_verdict (Φ := fun v v' μ' => br (v = v') (VL N 18 [.ref 0, .ref 2, .ref 130, .int (nI j + (6 : Int32))] [] μ' (fun r _ => r = some (.int 1))) ((fun (r : Option Value) (_ : Me) => r = some (.int 1)) (some (.int (0 : Int32))) μ')) hI KK) (fun v μ1 q => ?_)⟩
      rw [q.1]; exact ⟨v1, v2, v3, q.2⟩
    refine And.intro (fun _ => ?_) ?_
    · refine ⟨v1, VI.mono (k_hour (Φ := fun v v' μ' => br (v = v') (VL N 18 [.ref 0, .ref 2, .ref 130, .int (nI j + (6 : Int32))] [] μ' (fun r _ => r = some (.int 1))) ((fun (r : Option Value) (_ : Me) => r = some (.int 1)) (some (.int (0 : Int32))) μ')) hI KK) (fun v μ1 q => ?_)⟩
      rw [q.1]; exact ⟨v1, q.2⟩
    refine And.intro (fun _ => ?_) ?_
    · refine ⟨v1, v2, fun e => tL_law_310 (VI.mono (k_strike (Φ := fun v v' μ' => br (v = v') (VL N 18 [.ref 0, .ref 2, .ref 130, .int (nI j + (6 : Int32))] [] μ' (fun r _ => r = some (.int 1))) ((fun (r : Option Value) (_ : Me) => r = some (.int 1)) (some (.int (0 : Int32))) μ')) hI KK) (fun v μ1 q => ?_)), fun e => tL_law_310 (VI.mono (k_strike (Φ := fun v v' μ' => br (v = v') (VL N 18 [.ref 0, .ref 2, .ref 130, .int (nI j + (6 : Int32))] [] μ' (fun r _ => r = some (.int 1))) ((fun (r : Option Value) (_ : Me) => r = some (.int 1)) (some (.int (0 : Int32))) μ')) hI KK) (fun v μ1 q => ?_))⟩
      · rw [q.1]; exact ⟨v1, v2, fun _ => tL_law_332 q.2, fun e2 => absurd e e2⟩
      · rw [q.1]; exact ⟨v1, v2, fun e2 => absurd e2 e, fun _ => tL_law_332 q.2⟩
    refine And.intro (fun _ => ?_) ?_
    · refine ⟨v1, v2, v3, v4, v5, VI.mono (k_feed (Φ := fun v v' μ' => br (v = v') (VL N 18 [.ref 0, .ref 2, .ref 130, .int (nI j + (6 : Int32))] [] μ' (fun r _ => r = some (.int 1))) ((fun (r : Option Value) (_ : Me) => r = some (.int 1)) (some (.int (0 : Int32))) μ')) hI KK) (fun v μ1 q => ?_)⟩
      rw [q.1]; exact ⟨v1, v2, v3, v4, v5, q.2⟩
    refine And.intro (fun _ => ?_) ?_
    · refine ⟨v1, VI.mono (k_end (Φ := fun v v' μ' => br (v = v') (VL N 18 [.ref 0, .ref 2, .ref 130, .int (nI j + (6 : Int32))] [] μ' (fun r _ => r = some (.int 1))) ((fun (r : Option Value) (_ : Me) => r = some (.int 1)) (some (.int (0 : Int32))) μ')) hI KK) (fun v μ1 q => ?_)⟩
      rw [q.1]; exact ⟨v1, q.2⟩
    refine And.intro (fun _ => ?_) ?_
    · exact VI.mono (hT μ _ hI KK) (fun v μ1 q => q.2)
    refine And.intro (fun _ => ?_) ?_
    · refine ⟨v1, VI.mono (k_fault (Φ := fun v v' μ' => br (v = v') (VL N 18 [.ref 0, .ref 2, .ref 130, .int (nI j + (6 : Int32))] [] μ' (fun r _ => r = some (.int 1))) ((fun (r : Option Value) (_ : Me) => r = some (.int 1)) (some (.int (0 : Int32))) μ')) hI KK) (fun v μ1 q => ?_)⟩
      rw [q.1]; exact ⟨v1, q.2⟩
    refine And.intro (fun _ => ?_) ?_
    · refine ⟨v1, VI.mono (k_by (Φ := fun v v' μ' => br (v = v') (VL N 18 [.ref 0, .ref 2, .ref 130, .int (nI j + (6 : Int32))] [] μ' (fun r _ => r = some (.int 1))) ((fun (r : Option Value) (_ : Me) => r = some (.int 1)) (some (.int (0 : Int32))) μ')) hI KK) (fun v μ1 q => ?_)⟩
      rw [q.1]; exact ⟨v1, q.2⟩
    refine And.intro (fun _ => ?_) ?_
    · refine ⟨v1, v2, VI.mono (k_of (Φ := fun v v' μ' => br (v = v') (VL N 18 [.ref 0, .ref 2, .ref 130, .int (nI j + (6 : Int32))] [] μ' (fun r _ => r = some (.int 1))) ((fun (r : Option Value) (_ : Me) => r = some (.int 1)) (some (.int (0 : Int32))) μ')) hI KK) (fun v μ1 q => ?_)⟩
      rw [q.1]; exact ⟨v1, v2, q.2⟩
    refine And.intro (fun _ => ?_) ?_
    · refine ⟨v1, VI.mono (k_hear (Φ := fun v v' μ' => br (v = v') (VL N 18 [.ref 0, .ref 2, .ref 130, .int (nI j + (6 : Int32))] [] μ' (fun r _ => r = some (.int 1))) ((fun (r : Option Value) (_ : Me) => r = some (.int 1)) (some (.int (0 : Int32))) μ')) hI KK) (fun v μ1 q => ?_)⟩
      rw [q.1]; exact ⟨v1, q.2⟩
    refine And.intro (fun _ => ?_) ?_
    · exact VI.mono (k_rise (Φ := fun v v' μ' => br (v = v') (VL N 18 [.ref 0, .ref 2, .ref 130, .int (nI j + (6 : Int32))] [] μ' (fun r _ => r = some (.int 1))) ((fun (r : Option Value) (_ : Me) => r = some (.int 1)) (some (.int (0 : Int32))) μ')) hI KK) (fun v μ1 q => q.2)
    refine And.intro (fun _ => ?_) ?_
    · refine ⟨v1, v2, VI.mono (k_shown (Φ := fun v v' μ' => br (v = v') (VL N 18 [.ref 0, .ref 2, .ref 130, .int (nI j + (6 : Int32))] [] μ' (fun r _ => r = some (.int 1))) ((fun (r : Option Value) (_ : Me) => r = some (.int 1)) (some (.int (0 : Int32))) μ')) hI KK) (fun v μ1 q => ?_)⟩
      rw [q.1]; exact ⟨v1, v2, q.2⟩
    refine And.intro (fun _ => ?_) ?_
    · refine ⟨v1, v2, VI.mono (k_known (Φ := fun v v' μ' => br (v = v') (VL N 18 [.ref 0, .ref 2, .ref 130, .int (nI j + (6 : Int32))] [] μ' (fun r _ => r = some (.int 1))) ((fun (r : Option Value) (_ : Me) => r = some (.int 1)) (some (.int (0 : Int32))) μ')) hI KK) (fun v μ1 q => ?_)⟩
      rw [q.1]; exact ⟨v1, v2, q.2⟩
    refine And.intro (fun _ => ?_) ?_
    · refine ⟨v1, v2, VI.mono (k_follows (Φ := fun v v' μ' => br (v = v') (VL N 18 [.ref 0, .ref 2, .ref 130, .int (nI j + (6 : Int32))] [] μ' (fun r _ => r = some (.int 1))) ((fun (r : Option Value) (_ : Me) => r = some (.int 1)) (some (.int (0 : Int32))) μ')) hI KK) (fun v μ1 q => ?_)⟩
      rw [q.1]; exact ⟨v1, v2, q.2⟩
    refine And.intro (fun _ => ?_) ?_
    · refine ⟨v1, v2, VI.mono (k_appeal (Φ := fun v v' μ' => br (v = v') (VL N 18 [.ref 0, .ref 2, .ref 130, .int (nI j + (6 : Int32))] [] μ' (fun r _ => r = some (.int 1))) ((fun (r : Option Value) (_ : Me) => r = some (.int 1)) (some (.int (0 : Int32))) μ')) hI KK) (fun v μ1 q => ?_)⟩
      rw [q.1]; exact ⟨v1, v2, q.2⟩
    refine And.intro (fun _ => ?_) ?_
    · refine ⟨v1, v2, v3, v4, VI.mono (k_chain (Φ := fun v v' μ' => br (v = v') (VL N 18 [.ref 0, .ref 2, .ref 130, .int (nI j + (6 : Int32))] [] μ' (fun r _ => r = some (.int 1))) ((fun (r : Option Value) (_ : Me) => r = some (.int 1)) (some (.int (0 : Int32))) μ')) hI KK) (fun v μ1 q => ?_)⟩
      rw [q.1]; exact ⟨v1, v2, v3, v4, q.2⟩
    refine And.intro (fun _ => ?_) ?_
    · refine ⟨v1, v2, VI.mono (k_weakest (Φ := fun v v' μ' => br (v = v') (VL N 18 [.ref 0, .ref 2, .ref 130, .int (nI j + (6 : Int32))] [] μ' (fun r _ => r = some (.int 1))) ((fun (r : Option Value) (_ : Me) => r = some (.int 1)) (some (.int (0 : Int32))) μ')) hI KK) (fun v μ1 q => ?_)⟩
      rw [q.1]; exact ⟨v1, v2, q.2⟩
    refine And.intro (fun _ => ?_) ?_
    · refine ⟨v1, v2, VI.mono (k_defeats (Φ := fun v v' μ' => br (v = v') (VL N 18 [.ref 0, .ref 2, .ref 130, .int (nI j + (6 : Int32))] [] μ' (fun r _ => r = some (.int 1))) ((fun (r : Option Value) (_ : Me) => r = some (.int 1)) (some (.int (0 : Int32))) μ')) hI KK) (fun v μ1 q => ?_)⟩
      rw [q.1]; exact ⟨v1, v2, q.2⟩
    refine And.intro (fun _ => ?_) ?_
    · refine ⟨v1, v2, VI.mono (k_least (Φ := fun v v' μ' => br (v = v') (VL N 18 [.ref 0, .ref 2, .ref 130, .int (nI j + (6 : Int32))] [] μ' (fun r _ => r = some (.int 1))) ((fun (r : Option Value) (_ : Me) => r = some (.int 1)) (some (.int (0 : Int32))) μ')) hI KK) (fun v μ1 q => ?_)⟩
      rw [q.1]; exact ⟨v1, v2, q.2⟩
    refine And.intro (fun _ => ?_) ?_
    · exact VI.mono (k_never (Φ := fun v v' μ' => br (v = v') (VL N 18 [.ref 0, .ref 2, .ref 130, .int (nI j + (6 : Int32))] [] μ' (fun r _ => r = some (.int 1))) ((fun (r : Option Value) (_ : Me) => r = some (.int 1)) (some (.int (0 : Int32))) μ')) hI KK) (fun v μ1 q => q.2)
    refine And.intro (fun _ => ?_) ?_
    · refine ⟨v1, v2, VI.mono (k_together (Φ := fun v v' μ' => br (v = v') (VL N 18 [.ref 0, .ref 2, .ref 130, .int (nI j + (6 : Int32))] [] μ' (fun r _ => r = some (.int 1))) ((fun (r : Option Value) (_ : Me) => r = some (.int 1)) (some (.int (0 : Int32))) μ')) hI KK) (fun v μ1 q => ?_)⟩
      rw [q.1]; exact ⟨v1, v2, q.2⟩
    refine And.intro (fun _ => ?_) ?_
    · refine ⟨v1, v2, VI.mono (k_amend (Φ := fun v v' μ' => br (v = v') (VL N 18 [.ref 0, .ref 2, .ref 130, .int (nI j + (6 : Int32))] [] μ' (fun r _ => r = some (.int 1))) ((fun (r : Option Value) (_ : Me) => r = some (.int 1)) (some (.int (0 : Int32))) μ')) hI KK) (fun v μ1 q => ?_)⟩
      rw [q.1]; exact ⟨v1, v2, q.2⟩
    refine And.intro (fun _ => ?_) ?_
    · refine ⟨v1, v2, v3, v4, VI.mono (k_day (Φ := fun v v' μ' => br (v = v') (VL N 18 [.ref 0, .ref 2, .ref 130, .int (nI j + (6 : Int32))] [] μ' (fun r _ => r = some (.int 1))) ((fun (r : Option Value) (_ : Me) => r = some (.int 1)) (some (.int (0 : Int32))) μ')) hI KK) (fun v μ1 q => ?_)⟩
      rw [q.1]; exact ⟨v1, v2, v3, v4, q.2⟩
    refine And.intro (fun _ => ?_) ?_
    · refine ⟨v1, v2, v3, v4, VI.mono (k_best (Φ := fun v v' μ' => br (v = v') (VL N 18 [.ref 0, .ref 2, .ref 130, .int (nI j + (6 : Int32))] [] μ' (fun r _ => r = some (.int 1))) ((fun (r : Option Value) (_ : Me) => r = some (.int 1)) (some (.int (0 : Int32))) μ')) hI KK) (fun v μ1 q => ?_)⟩
      rw [q.1]; exact ⟨v1, v2, v3, v4, q.2⟩
    refine And.intro (fun _ => ?_) ?_
    · refine ⟨v1, v2, v3, fun e => tL_law_1047 (VI.mono (k_tell (Φ := fun v v' μ' => br (v = v') (VL N 18 [.ref 0, .ref 2, .ref 130, .int (nI j + (6 : Int32))] [] μ' (fun r _ => r = some (.int 1))) ((fun (r : Option Value) (_ : Me) => r = some (.int 1)) (some (.int (0 : Int32))) μ')) hI KK) (fun v μ1 q => ?_)), fun e => tL_law_1047 (VI.mono (k_tell (Φ := fun v v' μ' => br (v = v') (VL N 18 [.ref 0, .ref 2, .ref 130, .int (nI j + (6 : Int32))] [] μ' (fun r _ => r = some (.int 1))) ((fun (r : Option Value) (_ : Me) => r = some (.int 1)) (some (.int (0 : Int32))) μ')) hI KK) (fun v μ1 q => ?_))⟩
      · rw [q.1]; exact ⟨v1, v2, v3, fun _ => tL_law_1074 q.2, fun e2 => absurd e e2⟩
      · rw [q.1]; exact ⟨v1, v2, v3, fun e2 => absurd e2 e, fun _ => tL_law_1074 q.2⟩
    refine And.intro (fun _ => ?_) ?_
    · refine ⟨v1, VI.mono (k_kinds (Φ := fun v v' μ' => br (v = v') (VL N 18 [.ref 0, .ref 2, .ref 130, .int (nI j + (6 : Int32))] [] μ' (fun r _ => r = some (.int 1))) ((fun (r : Option Value) (_ : Me) => r = some (.int 1)) (some (.int (0 : Int32))) μ')) hI KK) (fun v μ1 q => ?_)⟩
      rw [q.1]; exact ⟨v1, q.2⟩
    refine And.intro (fun _ => ?_) ?_
    · refine ⟨v1, v2, v3, VI.mono (k_draws (Φ := fun v v' μ' => br (v = v') (VL N 18 [.ref 0, .ref 2, .ref 130, .int (nI j + (6 : Int32))] [] μ' (fun r _ => r = some (.int 1))) ((fun (r : Option Value) (_ : Me) => r = some (.int 1)) (some (.int (0 : Int32))) μ')) hI KK) (fun v μ1 q => ?_)⟩
      rw [q.1]; exact ⟨v1, v2, v3, q.2⟩
    refine And.intro (fun _ => ?_) ?_
    · exact VI.mono (k_image (Φ := fun v v' μ' => br (v = v') (VL N 18 [.ref 0, .ref 2, .ref 130, .int (nI j + (6 : Int32))] [] μ' (fun r _ => r = some (.int 1))) ((fun (r : Option Value) (_ : Me) => r = some (.int 1)) (some (.int (0 : Int32))) μ')) hI KK) (fun v μ1 q => q.2)
    refine And.intro (fun _ => ?_) ?_
    · exact VI.mono (k_back (Φ := fun v v' μ' => br (v = v') (VL N 18 [.ref 0, .ref 2, .ref 130, .int (nI j + (6 : Int32))] [] μ' (fun r _ => r = some (.int 1))) ((fun (r : Option Value) (_ : Me) => r = some (.int 1)) (some (.int (0 : Int32))) μ')) hI KK) (fun v μ1 q => q.2)
    refine And.intro (fun _ => ?_) ?_
    · refine ⟨v1, VI.mono (k_about (Φ := fun v v' μ' => br (v = v') (VL N 18 [.ref 0, .ref 2, .ref 130, .int (nI j + (6 : Int32))] [] μ' (fun r _ => r = some (.int 1))) ((fun (r : Option Value) (_ : Me) => r = some (.int 1)) (some (.int (0 : Int32))) μ')) hI KK) (fun v μ1 q => ?_)⟩
      rw [q.1]; exact ⟨v1, q.2⟩
    exact fun _ => KN μ hI
/-! the start -/
theorem st_133 (xs : Nat → Int32) (b : Nat) : wI0 (inI xs) 133 b = 0 := rfl
theorem st_131 (xs : Nat → Int32) {b : Nat} (h : b ≠ 4) : wI0 (inI xs) 131 b = 0 := by
  have : wI0 (inI xs) 131 = up2 (inI xs) 131 4 (-1) 131 := rfl
  rw [this, up2_b h]
  rfl
theorem st_131' (xs : Nat → Int32) : wI0 (inI xs) 131 4 = -1 := rfl
theorem st_132 (xs : Nat → Int32) (b : Nat) : wI0 (inI xs) 132 b = if b < 175 then wI0 (inI xs) 131 b else 0 := by
  by_cases h : b < 175
  · rw [if_pos h]
    unfold wI0 wI24 cpI
    rw [if_pos ⟨rfl, h⟩]
    rfl
  · rw [if_neg h]
    unfold wI0 wI24 cpI
    rw [if_neg (fun g => h g.2)]
    rfl
theorem st_78 (xs : Nat → Int32) {b : Nat} (h : b < 64) : wI0 (inI xs) 78 b = nI (sprN 6 b) := by
  have : wI0 (inI xs) 78 b = dyI (inI xs) 78 b := rfl
  rw [this]
  unfold dyI
  rw [if_pos ⟨rfl, h⟩]
theorem WB_0 : WB (fun _ => 0) := by
  refine ⟨⟨fun k => ⟨Nat.zero_lt_succ _, fun _ => rfl⟩, Nat.zero_le _, Nat.zero_le _, Nat.zero_lt_succ _, Nat.zero_le _, Nat.zero_le _, Nat.zero_le _, Nat.zero_le _⟩, fun i h => absurd h (Nat.not_lt_zero _), fun i h => absurd h (Nat.not_lt_zero _), fun i h => absurd h (Nat.not_lt_zero _), fun i j h => absurd h (Nat.not_lt_zero _), fun i h => absurd h (Nat.not_lt_zero _)⟩
theorem IV_start (xs : Nat → Int32) : IV (wI0 (inI xs)) := by
  refine ⟨fun _ => 0, fun _ => 0, fun _ => 0, fun _ => 0, 0, -1, -1, ⟨WB_0, WB_0, Nat.le_refl _, fun _ => Nat.zero_lt_succ _, fun t h => absurd h (Nat.not_lt_zero _), Nat.zero_le _, fun t h => absurd h (Nat.not_lt_zero _)⟩, ⟨?_, ?_, ?_, ?_⟩, ⟨?_, ?_, ?_, ?_⟩⟩
  · exact ⟨⟨rfl, rfl, rfl⟩, ⟨rfl, rfl, fun i h => absurd h (Nat.not_lt_zero _)⟩, ⟨rfl, fun i h => absurd h (Nat.not_lt_zero _)⟩, ⟨rfl, fun i h => absurd h (Nat.not_lt_zero _)⟩, ⟨rfl, fun i h => absurd h (Nat.not_lt_zero _)⟩⟩
  · exact ⟨⟨rfl, rfl, rfl⟩, ⟨rfl, rfl, fun i h => absurd h (Nat.not_lt_zero _)⟩, ⟨rfl, fun i h => absurd h (Nat.not_lt_zero _)⟩, ⟨rfl, fun i h => absurd h (Nat.not_lt_zero _)⟩, ⟨rfl, fun i h => absurd h (Nat.not_lt_zero _)⟩⟩
  · refine ⟨fun t h => absurd h (Nat.not_lt_zero _), ⟨rfl, fun k h => absurd h (Nat.not_lt_zero _), ?_, fun k h => absurd h (Nat.not_lt_zero _), fun k _ _ => ⟨rfl, rfl⟩, fun _ => 0, fun i h => absurd h (Nat.not_lt_zero _), fun i j _ h => absurd h (Nat.not_lt_zero _), fun k h => absurd h (Nat.not_lt_zero _)⟩, fun b h => st_78 xs h⟩
    intro s hs _
    match s, hs with
    | 0, _ => rfl
    | 1, _ => rfl
    | 2, _ => rfl
    | s + 3, hs => exact absurd hs (by omega)
  · exact ⟨rfl, fun j h => absurd h (Nat.not_lt_zero _), Or.inl ⟨rfl, rfl, rfl⟩⟩
  · exact ⟨fun k h => st_131 xs h, st_131' xs⟩
  · refine ⟨fun k h => ?_, ?_⟩
    · rw [st_132]
      by_cases g : k < 175
      · rw [if_pos g]; exact st_131 xs h
      · rw [if_neg g]; rfl
    · rw [st_132, if_pos (by decide)]; exact st_131' xs
  · exact fun j => st_133 xs j
  · exact ⟨rfl, fun j h => absurd h (Nat.not_lt_zero _), rfl, rfl⟩
/-- all that is left is text -/
theorem law_all (hT : ∀ N, TX N) (N : Nat) (xs : Nat → Int32) (hN : N ≤ 384) : VL N 18 [.ref 0, .ref 2, .ref 130, .int 0] [] (wI0 (inI xs), L0) (fun r _ => r = some (.int 1)) := law_loop (hT N) hN (N + 1) 0 (wI0 (inI xs), L0) (by omega) (by omega) (IV_start xs)
end LL
