/-! texts as both sides hold them, and the whole state -/
section LS
variable {N : Nat} {μ : Me} {B B' R T tp : Nat → Nat} {tn : Nat} {ft fp : Int32} {I I' : Nat → Nat → Int32}
def tyS (o : Nat) (t : List Bool) : Option (List Bool) :=
  if o ≤ 1 then (if t.length < 32 then some (false :: t) else none)
  else match t with
    | [] => none
    | a :: r => if o = 2 then (if a = true then none else some t)
      else if o = 20 then (if a = true then some t else none)
      else match r with
        | [] => none
        | b :: q => if 3 ≤ o ∧ o ≤ 6 then (if a = true ∨ b = true then none else some (false :: q))
          else if 10 ≤ o ∧ o ≤ 15 then (if a = true ∨ b = true then none else some (true :: q))
          else if o = 21 ∨ o = 22 then (if a = true ∧ b = true then some (true :: q) else none)
          else none
def tyR (T : Nat → Nat) (n i : Nat) (t : List Bool) : Option (List Bool) := match n with
  | 0 => some t
  | n + 1 => match tyS (T (150 + 2 * i)) t with
    | none => none
    | some t' => tyR T n (i + 1) t'
def sgn (o : Nat) : Nat := if o = 2 then 22 else if o = 3 then 43 else if o = 4 then 45 else if o = 5 then 42 else if o = 6 then 47 else if o = 10 then 60 else if o = 11 then 130 else if o = 12 then 62 else if o = 13 then 131 else if o = 14 then 61 else if o = 15 then 35 else if o = 20 then 11 else if o = 21 then 10 else 9
def cit (o v : Nat) : Nat := if o = 0 then v else if o = 1 then 10000 + v else 20000 + sgn o
def fl (T : Nat → Nat) (k j : Nat) : Nat := T (1 + 6 * k + j)
def isR (T : Nat → Nat) (k : Nat) : Bool := decide (fl T k 0 = 3)
def nR (T : Nat → Nat) : Nat := cnt (T 0) (isR T)
/-- a text that was read without a fault -/
def WT (T : Nat → Nat) : Prop :=
  ((∀ j, T j < 65536) ∧ T 0 ≤ 16) ∧
  (∀ k, k < T 0 → fl T k 0 = 3 → fl T k 1 < 16 ∧ 1 ≤ fl T k 2 ∧ fl T k 2 ≤ 9 ∧ fl T k 3 ≤ 99 ∧ fl T k 4 < 2 ^ fl T k 1 ∧ fl T k 5 < 2 ^ fl T k 1) ∧
  (∀ k l, k < T 0 → l < T 0 → fl T k 0 = fl T l 0 → fl T k 0 ≠ 3 → k = l) ∧
  (∀ k, k < T 0 → fl T k 0 ≠ 3 → fl T k 0 < 3 ∧ fl T k 1 ≤ fl T k 2 ∧ fl T k 2 ≤ 300 ∧ tyR T (fl T k 2 - fl T k 1) (fl T k 1) [] = some [decide (fl T k 0 ≠ 0)] ∧ ∀ i, fl T k 1 ≤ i → i < fl T k 2 → (T (150 + 2 * i) = 0 → T (150 + 2 * i + 1) ≤ 9999) ∧ (T (150 + 2 * i) = 1 → T (150 + 2 * i + 1) < 7 ∧ (fl T k 0 = 0 → T (150 + 2 * i + 1) ≠ 6) ∧ (fl T k 0 ≠ 0 → T (150 + 2 * i + 1) ≠ 4 ∧ T (150 + 2 * i + 1) ≠ 5)))
/-- the class's law at r holds the text T -/
def LW (T : Nat → Nat) (r : Nat) (I : Nat → Nat → Int32) : Prop :=
  I r 2 = nI (nR T) ∧
  (∀ k, k < T 0 → fl T k 0 < 3 → I (r + 2) (fl T k 0) = nI (fl T k 1) ∧ I (r + 3) (fl T k 0) = nI (fl T k 2) ∧ ∀ i, fl T k 1 ≤ i → i < fl T k 2 → I (r + 1) i = nI (cit (T (150 + 2 * i)) (T (150 + 2 * i + 1)))) ∧
  (∀ s, s < 3 → (∀ k, k < T 0 → fl T k 0 ≠ s) → I (r + 2) s = mI) ∧
  (∀ k, k < T 0 → fl T k 0 = 3 → I (r + 5) k = nI (fl T k 1) ∧ I (r + 6) k = nI (fl T k 2) ∧ I (r + 7) k = nI (fl T k 3) ∧ I (r + 8) k = nI (fl T k 4) ∧ I (r + 9) k = nI (fl T k 5)) ∧
  (∀ k, k < 16 → ¬ (k < T 0 ∧ fl T k 0 = 3) → I (r + 8) k = nI 0 ∧ I (r + 9) k = nI 0) ∧
  ∃ od : Nat → Nat, (∀ i, i < nR T → I (r + 4) i = nI (od i) ∧ od i < T 0 ∧ fl T (od i) 0 = 3) ∧ (∀ i j, i < j → j < nR T → fl T (od i) 1 < fl T (od j) 1 ∨ (fl T (od i) 1 = fl T (od j) 1 ∧ od i < od j)) ∧ ∀ k, k < T 0 → fl T k 0 = 3 → ∃ i, i < nR T ∧ od i = k
theorem LW.fr {r : Nat} (h : LW T r I) (he : ∀ a, r ≤ a → a ≤ r + 9 → I' a = I a) : LW T r I' := by
  unfold LW at *
  rw [he r (by omega) (by omega), he (r + 1) (by omega) (by omega), he (r + 2) (by omega) (by omega), he (r + 3) (by omega) (by omega), he (r + 4) (by omega) (by omega), he (r + 5) (by omega) (by omega), he (r + 6) (by omega) (by omega), he (r + 7) (by omega) (by omega), he (r + 8) (by omega) (by omega), he (r + 9) (by omega) (by omega)]
  exact h
def tx (R : Nat → Nat) (t : Nat) : Nat → Nat := fun j => R (750 * t + j)
def txB (B R : Nat → Nat) : Nat → Nat := if B 4 = 0 then fun _ => 0 else tx R (B 4 - 1)
def lwB (B : Nat → Nat) : Nat := if B 4 = 0 then 40 else 86 + 11 * (B 4 - 1)
/-- the reference's text that rules is T -/
def RuL (B T : Nat → Nat) (I : Nat → Nat → Int32) : Prop := (B 4 = 0 → T 0 = 0) ∧ (B 4 ≠ 0 → ∀ j, I 133 (750 * (B 4 - 1) + j) = nI (T j))
def cTape (tp : Nat → Nat) (tn : Nat) (ft fp : Int32) (I : Nat → Nat → Int32) : Prop := I 52 0 = nI tn ∧ (∀ j, j < tn → I 53 j = nI (tp j)) ∧ ((I 51 2 = 0 ∧ ft = -1 ∧ fp = -1) ∨ (¬ I 51 2 = 0 ∧ I 51 3 = ft ∧ I 51 4 = fp))
def rTape (tp : Nat → Nat) (tn : Nat) (ft fp : Int32) (I : Nat → Nat → Int32) : Prop := I 130 4 = nI tn ∧ (∀ j, j < tn → I 134 j = nI (tp j)) ∧ I 130 5 = ft ∧ I 130 6 = fp
def LWS (R : Nat → Nat) (n : Nat) (I : Nat → Nat → Int32) : Prop := (∀ t, t < n → LW (tx R t) (86 + 11 * t) I) ∧ LW (fun _ => 0) 40 I ∧ ∀ b, b < 64 → I 78 b = nI (sprN 6 b)
def WS (B B' R tp : Nat → Nat) (tn : Nat) : Prop := WB B ∧ WB B' ∧ B' 3 ≤ B 3 ∧ (∀ j, R j < 65536) ∧ (∀ t, t < B 3 → WT (tx R t)) ∧ tn ≤ 300 ∧ ∀ j, j < tn → tp j < 256
def CS (B B' R tp : Nat → Nat) (tn : Nat) (ft fp : Int32) (I : Nat → Nat → Int32) : Prop := CB B 3 I ∧ CB B' 21 I ∧ LWS R (B 3) I ∧ cTape tp tn ft fp I
def RS (B B' R tp : Nat → Nat) (tn : Nat) (ft fp : Int32) (I : Nat → Nat → Int32) : Prop := rowB B (I 131) ∧ rowB B' (I 132) ∧ (∀ j, I 133 j = nI (R j)) ∧ rTape tp tn ft fp I
def IV (I : Nat → Nat → Int32) : Prop := ∃ (B B' R tp : Nat → Nat) (tn : Nat) (ft fp : Int32), WS B B' R tp tn ∧ CS B B' R tp tn ft fp I ∧ RS B B' R tp tn ft fp I
/-- rows of the class that hold nothing between calls -/
def scC : List Nat := [2, 50, 54, 55, 56, 57, 58, 59, 60, 61, 62, 63, 64, 65, 66, 67, 68, 69, 70, 71, 72, 73, 74, 75, 76, 77, 79, 80, 81, 82, 83, 84, 85, 96, 107, 118, 129]
def scR : List Nat := [135, 136, 137, 138, 139, 140, 141, 142, 143, 144, 145, 146, 147]
def ktR : List Nat := [3, 4, 5, 6, 7, 8, 9, 10, 11, 12, 13, 14, 15, 16, 17, 18, 19, 20]
theorem scC_ge {a : Nat} (h : 130 ≤ a) : a ∉ scC := by
  intro k
  have : ∀ b ∈ scC, b < 130 := by decide
  have := this a k
  omega
theorem ktR_ge {a : Nat} (h : 21 ≤ a) : a ∉ ktR := by
  intro k
  have : ∀ b ∈ ktR, b < 21 := by decide
  have := this a k
  omega
theorem scR_lt {a : Nat} (h : a < 135) : a ∉ scR := by
  intro k
  have : ∀ b ∈ scR, 135 ≤ b := by decide
  have := this a k
  omega
theorem LWS.fr {n : Nat} (hn : n ≤ 4) (h : LWS R n I) (he : ∀ a, a ∉ scC → 39 ≤ a → a < 130 → I' a = I a) : LWS R n I' := by
  refine ⟨fun t ht => (h.1 t ht).fr (fun a h1 h2 => he a ?_ (by omega) (by omega)), h.2.1.fr (fun a h1 h2 => he a ?_ (by omega) (by omega)), fun b hb => by rw [he 78 (by decide) (by decide) (by decide)]; exact h.2.2 b hb⟩
  · have : ∀ t, t < 4 → ∀ d, d ≤ 9 → 86 + 11 * t + d ∉ scC := by decide
    have h3 := this t (by omega) (a - (86 + 11 * t)) (by omega)
    rwa [show 86 + 11 * t + (a - (86 + 11 * t)) = a by omega] at h3
  · have : ∀ d, d ≤ 9 → 40 + d ∉ scC := by decide
    have h3 := this (a - 40) (by omega)
    rwa [show 40 + (a - 40) = a by omega] at h3
theorem CS.fr (hw : WS B B' R tp tn) (h : CS B B' R tp tn ft fp I) (he : ∀ a, a ∉ scC → a < 130 → I' a = I a) : CS B B' R tp tn ft fp I' := by
  obtain ⟨h1, h2, h3, h4⟩ := h
  have e3 : ∀ d, d ≤ 17 → 3 + d ∉ scC := by decide
  have e21 : ∀ d, d ≤ 17 → 21 + d ∉ scC := by decide
  refine ⟨h1.fr (fun a k1 k2 => he a ?_ (by omega)), h2.fr (fun a k1 k2 => he a ?_ (by omega)), h3.fr hw.1.n.2.2.2.1 (fun a k1 k2 k3 => he a k1 k3), ?_⟩
  · have h5 := e3 (a - 3) (by omega)
    rwa [show 3 + (a - 3) = a by omega] at h5
  · have h5 := e21 (a - 21) (by omega)
    rwa [show 21 + (a - 21) = a by omega] at h5
  · unfold cTape at *
    rw [he 51 (by decide) (by decide), he 52 (by decide) (by decide), he 53 (by decide) (by decide)]
    exact h4
theorem RS.fr (h : RS B B' R tp tn ft fp I) (he : ∀ a, 131 ≤ a → a < 135 → I' a = I a) (h4 : I' 130 4 = I 130 4) (h5 : I' 130 5 = I 130 5) (h6 : I' 130 6 = I 130 6) : RS B B' R tp tn ft fp I' := by
  unfold RS rTape at *
  rw [he 131 (by decide) (by decide), he 132 (by decide) (by decide), he 133 (by decide) (by decide), he 134 (by decide) (by decide), h4, h5, h6]
  exact h
theorem RS.low (h : RS B B' R tp tn ft fp I) (he : ∀ a, 130 ≤ a → I' a = I a) : RS B B' R tp tn ft fp I' := h.fr (fun a h1 _ => he a (by omega)) (by rw [he 130 (by decide)]) (by rw [he 130 (by decide)]) (by rw [he 130 (by decide)])
theorem RS.ruT (h : RS B B' R tp tn ft fp I) : RuL B (txB B R) I := by
  refine ⟨fun e => by unfold txB; rw [if_pos e], fun e j => ?_⟩
  unfold txB
  rw [if_neg e]
  exact h.2.2.1 _
theorem WS.ruT (hw : WS B B' R tp tn) : WT (txB B R) := by
  unfold txB
  have h := hw.1.n
  by_cases e : B 4 = 0
  · rw [if_pos e]
    refine ⟨⟨fun _ => show 0 < 65536 by decide, by decide⟩, fun k hk => absurd hk (Nat.not_lt_zero _), fun k l hk => absurd hk (Nat.not_lt_zero _), fun k hk => absurd hk (Nat.not_lt_zero _)⟩
  · rw [if_neg e]
    exact hw.2.2.2.2.1 _ (by omega)
theorem CS.ruL (hw : WS B B' R tp tn) (h : CS B B' R tp tn ft fp I) : LW (txB B R) (lwB B) I := by
  unfold txB lwB
  have h0 := hw.1.n
  by_cases e : B 4 = 0
  · rw [if_pos e, if_pos e]; exact h.2.2.1.2.1
  · rw [if_neg e, if_neg e]; exact h.2.2.1.1 _ (by omega)
/-- a call that leaves the court as it is -/
theorem IV.same {I1 : Nat → Nat → Int32} (hw : WS B B' R tp tn) (hc : CS B B' R tp tn ft fp I) (hr : RS B B' R tp tn ft fp I) (h1 : Ag scC I I1) (h2 : Ag scR I1 I') : IV I' := by
  refine ⟨B, B', R, tp, tn, ft, fp, hw, hc.fr hw (fun a ha hb => ?_), hr.fr (fun a ha hb => ?_) ?_ ?_ ?_⟩
  · rw [h2 a (scR_lt (by omega)), h1 a ha]
  · rw [h2 a (scR_lt (by omega)), h1 a (scC_ge (by omega))]
  all_goals rw [h2 130 (scR_lt (by omega)), h1 130 (scC_ge (by omega))]
/-- a call that makes another court of it -/
theorem IV.court {B2 : Nat → Nat} {I1 : Nat → Nat → Int32} (hw : WS B B' R tp tn) (hc : CS B B' R tp tn ft fp I) (hr : RS B B' R tp tn ft fp I) (hB : WB B2) (h3 : B2 3 = B 3) (h1 : ∀ a, a ∉ scC → a ∉ ktR → I1 a = I a) (hk : CB B2 3 I1) (h2 : ∀ a, a ∉ scR → a ≠ 131 → I' a = I1 a) (hb : rowB B2 (I' 131)) : IV I' := by
  obtain ⟨w1, w2, w3, w4, w5, w6, w7⟩ := hw
  refine ⟨B2, B', R, tp, tn, ft, fp, ⟨hB, w2, by rw [h3]; exact w3, w4, by rw [h3]; exact w5, w6, w7⟩, ?_, ?_⟩
  · have e21 : ∀ d, d ≤ 17 → 21 + d ∉ scC ∧ 21 + d ∉ ktR := by decide
    obtain ⟨c1, c2, c3, c4⟩ := hc
    refine ⟨hk.fr (fun a k1 k2 => h2 a (scR_lt (by omega)) (by omega)), c2.fr (fun a k1 k2 => ?_), ?_, ?_⟩
    · have h5 := e21 (a - 21) (by omega)
      rw [show 21 + (a - 21) = a by omega] at h5
      rw [h2 a (scR_lt (by omega)) (by omega), h1 a h5.1 h5.2]
    · rw [h3]
      exact c3.fr w1.n.2.2.2.1 (fun a k1 k2 k3 => by rw [h2 a (scR_lt (by omega)) (by omega), h1 a k1 (ktR_ge (by omega))])
    · unfold cTape at *
      rw [h2 51 (by decide) (by decide), h2 52 (by decide) (by decide), h2 53 (by decide) (by decide), h1 51 (by decide) (by decide), h1 52 (by decide) (by decide), h1 53 (by decide) (by decide)]
      exact c4
  · obtain ⟨r1, r2, r3, r4⟩ := hr
    refine ⟨hb, ?_, ?_, ?_⟩
    · rw [h2 132 (by decide) (by decide), h1 132 (scC_ge (by decide)) (ktR_ge (by decide))]; exact r2
    · rw [h2 133 (by decide) (by decide), h1 133 (scC_ge (by decide)) (ktR_ge (by decide))]; exact r3
    · unfold rTape at *
      rw [h2 130 (by decide) (by decide), h2 134 (by decide) (by decide), h1 130 (scC_ge (by decide)) (ktR_ge (by decide)), h1 134 (scC_ge (by decide)) (ktR_ge (by decide))]
      exact r4
end LS
