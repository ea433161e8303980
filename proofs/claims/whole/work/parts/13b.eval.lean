/-! reckoning: what a code is worth, and its single steps on both sides -/
section EV
variable {N : Nat} {μ : Me} {T : Nat → Nat}
def clp (x : Int) : Int := if 1000000 < x then 1000000 else if x < -1000000 then -1000000 else x
theorem clp_b (x : Int) : -1000000 ≤ clp x ∧ clp x ≤ 1000000 := by
  unfold clp
  repeat' split
  all_goals omega
theorem clp_i {x : Int} (h1 : -1000000 ≤ x) (h2 : x ≤ 1000000) : clp x = x := by
  unfold clp
  repeat' split
  all_goals omega
def bnN (o : Nat) (x y : Int) : Int := if o = 3 then clp (x + y) else if o = 4 then clp (x - y) else if o = 5 then clp (x * y) else if y = 0 then 0 else clp (x.tdiv y)
def bnC (o : Nat) (x y : Int) : Bool := if o = 10 then decide (x < y) else if o = 11 then decide (x ≤ y) else if o = 12 then decide (y < x) else if o = 13 then decide (y ≤ x) else if o = 14 then decide (x = y) else decide (x ≠ y)
def b2 (b : Bool) : Int := if b = true then 1 else 0
def bnO (o : Nat) (x y : Int) : Int := if o ≤ 6 then bnN o x y else if o ≤ 15 then b2 (bnC o x y) else if o = 21 then b2 (decide (x ≠ 0 ∧ y ≠ 0)) else b2 (decide (x ≠ 0 ∨ y ≠ 0))
def unO (o : Nat) (x : Int) : Int := if o = 2 then -x else if x = 0 then 1 else 0
def evS (nm : Nat → Int) (o v : Nat) (s : List Int) : List Int :=
  if o = 0 then (v : Int) :: s else if o = 1 then nm v :: s
  else match s with
    | [] => []
    | x :: r => if o = 2 ∨ o = 20 then unO o x :: r
      else match r with
        | [] => []
        | z :: q => bnO o z x :: q
def evR (T : Nat → Nat) (nm : Nat → Int) (n i : Nat) (s : List Int) : List Int := match n with
  | 0 => s
  | n + 1 => evR T nm n (i + 1) (evS nm (T (150 + 2 * i)) (T (150 + 2 * i + 1)) s)
def valP (T : Nat → Nat) (nm : Nat → Int) (k : Nat) : Int := (evR T nm (fl T k 2 - fl T k 1) (fl T k 1) []).headD 0
def okE (t : List Bool) (s : List Int) : Prop := match t, s with
  | [], [] => True
  | b :: t, x :: s => (-1000000 ≤ x ∧ x ≤ 1000000 ∧ (b = true → x = 0 ∨ x = 1)) ∧ okE t s
  | _, _ => False
theorem tyS_c {o : Nat} {t t' : List Bool} (h : tyS o t = some t') : ((o = 0 ∨ o = 1) ∧ t.length < 32 ∧ t' = false :: t) ∨ (o = 2 ∧ ∃ r, t = false :: r ∧ t' = false :: r) ∨ (o = 20 ∧ ∃ r, t = true :: r ∧ t' = true :: r) ∨ ((o = 3 ∨ o = 4 ∨ o = 5 ∨ o = 6) ∧ ∃ q, t = false :: false :: q ∧ t' = false :: q) ∨ ((o = 10 ∨ o = 11 ∨ o = 12 ∨ o = 13 ∨ o = 14 ∨ o = 15) ∧ ∃ q, t = false :: false :: q ∧ t' = true :: q) ∨ ((o = 21 ∨ o = 22) ∧ ∃ q, t = true :: true :: q ∧ t' = true :: q) := by
  unfold tyS at h
  by_cases h1 : o ≤ 1
  · rw [if_pos h1] at h
    split at h
    · cases h
      exact Or.inl ⟨by omega, by assumption, rfl⟩
    · cases h
  · rw [if_neg h1] at h
    match t, h with
    | a :: r, h =>
      simp only at h
      by_cases h2 : o = 2
      · rw [if_pos h2] at h
        cases a
        · simp at h; subst h; exact Or.inr (Or.inl ⟨h2, r, rfl, rfl⟩)
        · simp at h
      · rw [if_neg h2] at h
        by_cases h3 : o = 20
        · rw [if_pos h3] at h
          cases a
          · simp at h
          · simp at h; subst h; exact Or.inr (Or.inr (Or.inl ⟨h3, r, rfl, rfl⟩))
        · rw [if_neg h3] at h
          match r, h with
          | b :: q, h =>
            simp only at h
            by_cases h4 : 3 ≤ o ∧ o ≤ 6
            · rw [if_pos h4] at h
              cases a <;> cases b <;> simp at h
              subst h
              exact Or.inr (Or.inr (Or.inr (Or.inl ⟨by omega, q, rfl, rfl⟩)))
            · rw [if_neg h4] at h
              by_cases h5 : 10 ≤ o ∧ o ≤ 15
              · rw [if_pos h5] at h
                cases a <;> cases b <;> simp at h
                subst h
                exact Or.inr (Or.inr (Or.inr (Or.inr (Or.inl ⟨by omega, q, rfl, rfl⟩))))
              · rw [if_neg h5] at h
                by_cases h6 : o = 21 ∨ o = 22
                · rw [if_pos h6] at h
                  cases a <;> cases b <;> simp at h
                  subst h
                  exact Or.inr (Or.inr (Or.inr (Or.inr (Or.inr ⟨h6, q, rfl, rfl⟩))))
                · rw [if_neg h6] at h
                  cases h
theorem okE_len {t : List Bool} : ∀ {s : List Int}, okE t s → s.length = t.length := by
  induction t with
  | nil => intro s h; cases s with
    | nil => rfl
    | cons x s => exact h.elim
  | cons b t ih => intro s h; cases s with
    | nil => exact h.elim
    | cons x s => rw [List.length_cons, List.length_cons, ih h.2]
theorem b2_b (b : Bool) : b2 b = 0 ∨ b2 b = 1 := by cases b <;> simp [b2]
theorem bnN_b (o : Nat) (x y : Int) : -1000000 ≤ bnN o x y ∧ bnN o x y ≤ 1000000 := by
  unfold bnN
  repeat' split
  all_goals first | exact clp_b _ | omega
theorem okE_mk {b : Bool} {t : List Bool} {x : Int} {s : List Int} (h1 : -1000000 ≤ x) (h2 : x ≤ 1000000) (h3 : b = true → x = 0 ∨ x = 1) (h : okE t s) : okE (b :: t) (x :: s) := ⟨⟨h1, h2, h3⟩, h⟩
theorem okE_1 {nm : Nat → Int} {v : Nat} {t : List Bool} {s : List Int} (hs : okE t s) (h0 : v ≤ 9999) : okE (false :: t) (evS nm 0 v s) := by
  have e : evS nm 0 v s = (v : Int) :: s := rfl
  rw [e]
  exact okE_mk (by omega) (by omega) (fun h => by cases h) hs
theorem okE_2 {nm : Nat → Int} {v : Nat} {t : List Bool} {s : List Int} (hs : okE t s) (h0 : -1000000 ≤ nm v ∧ nm v ≤ 1000000) : okE (false :: t) (evS nm 1 v s) := by
  have e : evS nm 1 v s = nm v :: s := rfl
  rw [e]
  exact okE_mk (by omega) (by omega) (fun h => by cases h) hs
theorem okE_3 {nm : Nat → Int} {v : Nat} {t : List Bool} {s : List Int} (hs : okE (false :: t) s) : okE (false :: t) (evS nm 2 v s) := by
  match s, hs with
  | x :: s, hs =>
    have e : evS nm 2 v (x :: s) = -x :: s := rfl
    have h := hs.1
    rw [e]
    exact okE_mk (by omega) (by omega) (fun h => by cases h) hs.2
theorem okE_4 {nm : Nat → Int} {v : Nat} {t : List Bool} {s : List Int} (hs : okE (true :: t) s) : okE (true :: t) (evS nm 20 v s) := by
  match s, hs with
  | x :: s, hs =>
    have e : evS nm 20 v (x :: s) = (if x = 0 then 1 else 0) :: s := rfl
    rw [e]
    have h9 : (if x = 0 then (1 : Int) else 0) = 0 ∨ (if x = 0 then (1 : Int) else 0) = 1 := by split <;> simp
    exact okE_mk (by omega) (by omega) (fun _ => h9) hs.2
theorem okE_5 {nm : Nat → Int} {o v : Nat} {q : List Bool} {s : List Int} (ho : o = 3 ∨ o = 4 ∨ o = 5 ∨ o = 6) (hs : okE (false :: false :: q) s) : okE (false :: q) (evS nm o v s) := by
  match s, hs with
  | x :: z :: s, hs =>
    have e : evS nm o v (x :: z :: s) = bnN o z x :: s := by
      rcases ho with rfl | rfl | rfl | rfl <;> simp [evS, bnO]
    rw [e]
    have := bnN_b o z x
    exact okE_mk this.1 this.2 (fun h => by cases h) hs.2.2
theorem okE_6 {nm : Nat → Int} {o v : Nat} {q : List Bool} {s : List Int} (ho : o = 10 ∨ o = 11 ∨ o = 12 ∨ o = 13 ∨ o = 14 ∨ o = 15) (hs : okE (false :: false :: q) s) : okE (true :: q) (evS nm o v s) := by
  match s, hs with
  | x :: z :: s, hs =>
    have e : evS nm o v (x :: z :: s) = b2 (bnC o z x) :: s := by
      rcases ho with rfl | rfl | rfl | rfl | rfl | rfl <;> rfl
    rw [e]
    have := b2_b (bnC o z x)
    exact okE_mk (by omega) (by omega) (fun h => this) hs.2.2
theorem okE_7 {nm : Nat → Int} {o v : Nat} {q : List Bool} {s : List Int} (ho : o = 21 ∨ o = 22) (hs : okE (true :: true :: q) s) : okE (true :: q) (evS nm o v s) := by
  match s, hs with
  | x :: z :: s, hs =>
    have e : ∃ b, evS nm o v (x :: z :: s) = b2 b :: s := by
      rcases ho with rfl | rfl
      · exact ⟨_, rfl⟩
      · exact ⟨_, rfl⟩
    obtain ⟨b, e⟩ := e
    rw [e]
    have := b2_b b
    exact okE_mk (by omega) (by omega) (fun h => this) hs.2.2
theorem okE_step {nm : Nat → Int} {o v : Nat} {t t' : List Bool} {s : List Int} (h : tyS o t = some t') (hs : okE t s) (h0 : o = 0 → v ≤ 9999) (h1 : o = 1 → -1000000 ≤ nm v ∧ nm v ≤ 1000000) : okE t' (evS nm o v s) := by
  rcases tyS_c h with ⟨ho, _, rfl⟩ | ⟨rfl, r, rfl, rfl⟩ | ⟨rfl, r, rfl, rfl⟩ | ⟨ho, q, rfl, rfl⟩ | ⟨ho, q, rfl, rfl⟩ | ⟨ho, q, rfl, rfl⟩
  · rcases ho with rfl | rfl
    · exact okE_1 hs (h0 rfl)
    · exact okE_2 hs (h1 rfl)
  · exact okE_3 hs
  · exact okE_4 hs
  · exact okE_5 ho hs
  · exact okE_6 ho hs
  · exact okE_7 ho hs
/-! longs -/
theorem l_lt {x y : Int64} : x < y ↔ x.toInt < y.toInt := Int64.lt_iff_toInt_lt
theorem l_le {x y : Int64} : x ≤ y ↔ x.toInt ≤ y.toInt := Int64.le_iff_toInt_le
theorem l_eq {x y : Int64} : x = y ↔ x.toInt = y.toInt := Int64.toInt_inj.symm
theorem bm64 {x : Int} (h1 : -1000000000000000 ≤ x) (h2 : x ≤ 1000000000000000) : x.bmod (2 ^ 64) = x := Int.bmod_eq_of_le (by omega) (by omega)
theorem bm32 {x : Int} (h1 : -2000000000 ≤ x) (h2 : x ≤ 2000000000) : x.bmod (2 ^ 32) = x := Int.bmod_eq_of_le (by omega) (by omega)
def smI (x : Int) : Prop := -1000000 ≤ x ∧ x ≤ 1000000
theorem mul_b {x y : Int} (hx : smI x) (hy : smI y) : -1000000000000 ≤ x * y ∧ x * y ≤ 1000000000000 := by
  unfold smI at *
  have h1 : x.natAbs ≤ 1000000 := by omega
  have h2 : y.natAbs ≤ 1000000 := by omega
  have h3 : (x * y).natAbs ≤ 1000000 * 1000000 := by rw [Int.natAbs_mul]; exact Nat.mul_le_mul h1 h2
  omega
theorem div_b {x y : Int} (hx : smI x) : smI (x.tdiv y) := by
  unfold smI at *
  have h1 : x.natAbs ≤ 1000000 := by omega
  have h3 : (x.tdiv y).natAbs ≤ 1000000 := by rw [Int.natAbs_tdiv]; exact Nat.le_trans (Nat.div_le_self _ _) h1
  omega
theorem ad_L {a b : Int64} (ha : smI a.toInt) (hb : smI b.toInt) : (a + b).toInt = a.toInt + b.toInt := by unfold smI at *; rw [Int64.toInt_add, bm64 (by omega) (by omega)]
theorem su_L {a b : Int64} (ha : smI a.toInt) (hb : smI b.toInt) : (a - b).toInt = a.toInt - b.toInt := by unfold smI at *; rw [Int64.toInt_sub, bm64 (by omega) (by omega)]
theorem mu_L {a b : Int64} (ha : smI a.toInt) (hb : smI b.toInt) : (a * b).toInt = a.toInt * b.toInt := by
  have := mul_b ha hb
  rw [Int64.toInt_mul, bm64 (by omega) (by omega)]
theorem di_L {a b : Int64} (ha : smI a.toInt) : (a / b).toInt = a.toInt.tdiv b.toInt := by
  have := div_b (y := b.toInt) ha
  unfold smI at this
  rw [Int64.toInt_div, bm64 (by omega) (by omega)]
theorem ne_L {a : Int64} (ha : smI a.toInt) : (-a).toInt = -a.toInt := by unfold smI at *; rw [Int64.toInt_neg, bm64 (by omega) (by omega)]
theorem ne_I {a : Int32} (ha : smI a.toInt) : (-a).toInt = -a.toInt := by unfold smI at *; rw [Int32.toInt_neg, bm32 (by omega) (by omega)]
theorem c_bounded {v : Int64} {Ψ : Int32 → Me → Prop} (h : ∀ y : Int32, y.toInt = clp v.toInt → Ψ y μ) : VI N 1 mX5_bounded [.long v, .null] μ Ψ := by
  refine vb_wk (ls' := [.long v]) ⟨rfl, trivial⟩ (tX5_bounded_0 ⟨_, rfl, h _ ?_⟩)
  have e1 : (1000000 : Int64).toInt = 1000000 := by decide
  have e2 : (-1000000 : Int64).toInt = -1000000 := by decide
  rw [Int64.toInt_toInt32]
  have key : (if (if v < (1000000 : Int64) then v else (1000000 : Int64)) < (-1000000 : Int64) then (-1000000 : Int64) else (if v < (1000000 : Int64) then v else (1000000 : Int64))).toInt = clp v.toInt := by
    unfold clp
    by_cases h1 : v < (1000000 : Int64)
    · rw [if_pos h1]
      rw [l_lt, e1] at h1
      by_cases h2 : v < (-1000000 : Int64)
      · rw [if_pos h2, e2]
        rw [l_lt, e2] at h2
        rw [if_neg (by omega), if_pos h2]
      · rw [if_neg h2]
        rw [l_lt, e2] at h2
        rw [if_neg (by omega), if_neg h2]
    · rw [if_neg h1, if_neg (by decide), e1]
      rw [l_lt, e1] at h1
      by_cases h3 : 1000000 < v.toInt
      · rw [if_pos h3]
      · rw [if_neg h3, if_neg (by omega)]; omega
  rw [key]
  have := clp_b v.toInt
  exact bm32 (by omega) (by omega)
theorem c_clip {v : Int64} {Ψ : Int64 → Me → Prop} (h : ∀ y : Int64, y.toInt = clp v.toInt → Ψ y μ) : VJ N 1 mX12_clip [.long v, .null] μ Ψ := by
  have e1 : (1000000 : Int64).toInt = 1000000 := by decide
  have e2 : (-1000000 : Int64).toInt = -1000000 := by decide
  refine vb_wk (ls' := [.long v]) ⟨rfl, trivial⟩ (tX12_clip_0 ⟨fun g1 => ⟨fun g2 => ⟨_, rfl, h _ ?_⟩, fun g2 => ⟨_, rfl, h _ ?_⟩⟩, fun g1 => ⟨_, rfl, h _ ?_⟩⟩)
  · rw [lg_cmp_le, l_le, e1] at g1
    rw [lg_cmp_ge, l_le, e2] at g2
    rw [clp_i g2 g1]
  · rw [lg_cmp_le, l_le, e1] at g1
    rw [lg_cmp_ge, l_le, e2] at g2
    unfold clp
    rw [if_neg (by omega), if_pos (by omega)]; exact e2
  · rw [lg_cmp_le, l_le, e1] at g1
    unfold clp
    rw [if_pos (by omega)]; exact e1
end EV
