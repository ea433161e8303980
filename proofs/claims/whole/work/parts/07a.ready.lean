/-! the start of the law, prepared -/
def rmC (d c s : Nat) : Room := { frames := d, cells := c, slots := s, locals := 60 * d }
def inRB (N : Nat) (v : Value) : Bool := match v with
  | .ref j => Nat.blt j N
  | _ => true
theorem inR_of {N : Nat} {ls : List Value} (h : ls.all (inRB N) = true) : ∀ v ∈ ls, inR N v := by
  intro v hv
  have h1 := List.all_eq_true.mp h v hv
  cases v with
  | ref j => exact Nat.le_of_ble_eq_true h1
  | _ => trivial
/-- no row from n on holds anything -/
def Zr (n : Nat) (I : Nat → Nat → Int32) : Prop := ∀ a, n ≤ a → ∀ b, I a b = 0
theorem Zr_up2 {n c k : Nat} {I : Nat → Nat → Int32} {v : Int32} (h : Zr n I) (hc : c < n) : Zr n (up2 I c k v) := by
  intro a ha b
  unfold up2
  rw [if_neg (by omega)]
  exact h a ha b
theorem Zr_le {n m : Nat} {I : Nat → Nat → Int32} (h : Zr n I) (hc : n ≤ m) : Zr m I := fun a ha => h a (by omega)
theorem Zr_of {n : Nat} {I I' : Nat → Nat → Int32} (h : Zr n I) (he : ∀ a b, n ≤ a → I' a b = I a b) : Zr n I' := fun a ha b => by rw [he a b ha]; exact h a ha b
theorem newM_eq {sh : List Shp} {I : Nat → Nat → Int32} {L : Nat → Nat → Int64} {x : Shp} (hI : ∀ b, I sh.length b = 0) (hL : ∀ b, L sh.length b = 0) : newM (sh, I, L) x = (sh ++ [x], I, L) := by
  unfold newM
  have e1 : upR I sh.length (fun _ => 0) = I := by
    funext a b
    unfold upR
    by_cases h : a = sh.length
    · rw [if_pos h, h, hI]
    · rw [if_neg h]
  have e2 : upR L sh.length (fun _ => 0) = L := by
    funext a b
    unfold upR
    by_cases h : a = sh.length
    · rw [if_pos h, h, hL]
    · rw [if_neg h]
  show (sh ++ [x], upR I sh.length (fun _ => 0), upR L sh.length (fun _ => 0)) = _
  rw [e1, e2]
def L0 : Nat → Nat → Int64 := fun _ _ => 0
/-- what the reference's copy leaves: the first 175 of row 131 in row 132 -/
def cpI (I : Nat → Nat → Int32) : Nat → Nat → Int32 := fun a b => if a = 132 ∧ b < 175 then I 131 b else I a b
theorem v_for {τ : Type} {R : Room} {M : Mth} {k n hd : Nat} {Q : Option Value → St → Prop} (lsf : Nat → τ → List Value) (σf : Nat → τ → St) (c : Nat) (Inv : Nat → τ → Prop)
    (step : ∀ i x, i < c → Inv i x → (∀ y, Inv (i + 1) y → V R M k n hd (lsf (i + 1) y) [] (σf (i + 1) y) Q) → V R M k n hd (lsf i x) [] (σf i x) Q) (ex : ∀ x, Inv c x → V R M k n hd (lsf c x) [] (σf c x) Q) : ∀ i x, i ≤ c → Inv i x → V R M k n hd (lsf i x) [] (σf i x) Q := by
  have key : ∀ j i x, i + j = c → Inv i x → V R M k n hd (lsf i x) [] (σf i x) Q := by
    intro j
    induction j with
    | zero => intro i x h hI; have : i = c := by omega
              subst this; exact ex x hI
    | succ j ih => intro i x h hI; exact step i x (by omega) hI (fun y hy => ih (i + 1) y (by omega) hy)
  intro i x h hI
  exact key (c - i) i x (by omega) hI
theorem vb_for {τ : Type} {N d : Nat} {M : Mth} {hd : Nat} {Ψ : Option Value → Me → Prop} (lsf : Nat → τ → List Value) (μf : Nat → τ → Me) (c : Nat) (Inv : Nat → τ → Prop)
    (step : ∀ i x, i < c → Inv i x → (∀ y, Inv (i + 1) y → VB N d M hd (lsf (i + 1) y) [] (μf (i + 1) y) Ψ) → VB N d M hd (lsf i x) [] (μf i x) Ψ) (ex : ∀ x, Inv c x → VB N d M hd (lsf c x) [] (μf c x) Ψ) : ∀ i x, i ≤ c → Inv i x → VB N d M hd (lsf i x) [] (μf i x) Ψ := v_for lsf (fun i x => (SH N, μf i x)) c Inv step ex
/-- copy: the whole row -/
theorem copy_go {N : Nat} {r0 r1 : Nat} {Ψ : Option Value → Me → Prop} {μ0 : Me} (h0 : r0 = 131 ∨ r0 = 132) (h1 : r1 = 131 ∨ r1 = 132) (hne : r0 ≠ r1) (h : Ψ none ((fun a b => if a = r1 ∧ b < 175 then μ0.1 r0 b else μ0.1 a b), μ0.2)) : VB N 1 mX12_copy 0 [.ref r0, .ref r1] [] μ0 Ψ := by
  refine tX12_copy_0 h0 h1 ?_
  have z := vb_for (N := N) (d := 1) (M := mX12_copy) (hd := 2) (Ψ := Ψ) (τ := Unit) (fun i _ => [.ref r0, .ref r1, .int (nI i)]) (fun i _ => ((fun a b => if a = r1 ∧ b < i then μ0.1 r0 b else μ0.1 a b), μ0.2)) 175 (fun _ _ => True) ?_ ?_ 0 () (by omega) trivial
  · have e : (((fun a b => if a = r1 ∧ b < 0 then μ0.1 r0 b else μ0.1 a b), μ0.2) : Me) = μ0 := by
      refine Prod.ext ?_ rfl
      funext a b
      show (if a = r1 ∧ b < 0 then μ0.1 r0 b else μ0.1 a b) = _
      rw [if_neg (by omega)]
    rw [e] at z
    exact z
  · intro i _ hi _ K
    refine tX12_copy_2 h0 h1 ?_
    refine ⟨fun hc => absurd hc (nI_ge (a := i) (b := 175) hi (by decide)), fun _ => ⟨vp_in_nI hi (by decide), vp_in_nI hi (by decide), ?_⟩⟩
    have hk := K () trivial
    rw [nI_clamp (by omega)]
    rw [← nI_1] at hk
    have e : ((up2 (fun a b => if a = r1 ∧ b < i then μ0.1 r0 b else μ0.1 a b) r1 i ((fun a b => if a = r1 ∧ b < i then μ0.1 r0 b else μ0.1 a b) r0 i), μ0.2) : Me) = ((fun a b => if a = r1 ∧ b < i + 1 then μ0.1 r0 b else μ0.1 a b), μ0.2) := by
      refine Prod.ext ?_ rfl
      funext a b
      show (if a = r1 then (if b = i then (if r0 = r1 ∧ i < i then μ0.1 r0 i else μ0.1 r0 i) else (if a = r1 ∧ b < i then μ0.1 r0 b else μ0.1 a b)) else (if a = r1 ∧ b < i then μ0.1 r0 b else μ0.1 a b)) = if a = r1 ∧ b < i + 1 then μ0.1 r0 b else μ0.1 a b
      by_cases ha : a = r1
      · rw [if_pos ha]
        by_cases hb : b = i
        · rw [if_pos hb, ite_self, if_pos ⟨ha, by omega⟩, hb]
        · rw [if_neg hb]
          by_cases hc : b < i
          · rw [if_pos ⟨ha, hc⟩, if_pos ⟨ha, by omega⟩]
          · rw [if_neg (fun h => hc h.2), if_neg (fun h => by have := h.2; omega)]
      · rw [if_neg ha, if_neg (fun h => ha h.1), if_neg (fun h => ha h.1)]
    show VB N 1 mX12_copy 2 _ [] (up2 (fun a b => if a = r1 ∧ b < i then μ0.1 r0 b else μ0.1 a b) r1 i ((fun a b => if a = r1 ∧ b < i then μ0.1 r0 b else μ0.1 a b) r0 i), μ0.2) Ψ
    rw [e]
    exact hk
  · intro _ _
    exact tX12_copy_2 h0 h1 ⟨fun _ => h, fun hc => absurd (nI_le (Nat.le_refl 175) (by decide)) hc⟩
theorem copy_0 {N : Nat} {μ : Me} : V (rmD 1) mX12_copy 0 0 0 [.ref 131, .ref 132] [] (SH N, μ) (fun r σ' => ∃ μ', σ' = (SH N, μ') ∧ r = none ∧ μ' = (cpI μ.1, μ.2)) :=
  copy_go (Or.inl rfl) (Or.inr rfl) (by decide) ⟨rfl, rfl⟩
def sprN (k b : Nat) : Nat := match k with
  | 0 => 0
  | k + 1 => sprN k b + b / 2 ^ k % 2 * 3 ^ k
theorem spr_bit : ∀ k, k < 6 → ∀ b, b < 64 → ((((nI b) >>> ((nI k) &&& 31)) &&& 1 = (1 : Int32)) ↔ b / 2 ^ k % 2 = 1) := by decide +kernel
def dyI (I : Nat → Nat → Int32) : Nat → Nat → Int32 := fun a b => if a = 78 ∧ b < 64 then nI (sprN 6 b) else I a b
