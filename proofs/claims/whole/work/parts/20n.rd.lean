/-! what a text says: operands and sums. f = 0: read up to token k', the code is c; else the fault f at token k' -/
section RD
variable {T V : Nat → Nat} {fee : Nat}
abbrev Cd := List (Nat × Nat)
def rop (t : Nat) : Nat := if t = 43 then 3 else if t = 45 then 4 else if t = 42 then 5 else 6
def pe (a : Nat) : Cd := if a = 0 then [] else [(rop a, 0)]
/-- a name that may not stand there -/
def fgn (fee x : Nat) : Prop := if fee = 1 then x = 18 else x = 16 ∨ x = 17
/-- q = 0: one operand; 1: an operand is due, the signs a (of a sum) and s (of a product) are pending; 2: behind an operand, a pending -/
def RdC (T V : Nat → Nat) (fee : Nat) (P : Nat → Nat → Nat → Nat → Nat → Nat → Nat → Cd → Prop) : Prop :=
  (∀ d k, T k = 20 → 9999 < V k → P 0 0 0 d k 2 k []) ∧
  (∀ d k, T k = 20 → V k ≤ 9999 → P 0 0 0 d k 0 (k + 1) [(0, V k)]) ∧
  (∀ d k, 12 ≤ T k → T k ≤ 18 → fgn fee (T k) → P 0 0 0 d k 5 k []) ∧
  (∀ d k, 12 ≤ T k → T k ≤ 18 → ¬ fgn fee (T k) → P 0 0 0 d k 0 (k + 1) [(1, T k - 12)]) ∧
  (∀ d k, T k ≠ 20 → ¬ (12 ≤ T k ∧ T k ≤ 18) → T k ≠ 40 → T k ≠ 45 → P 0 0 0 d k 1 k []) ∧
  (∀ d k, (T k = 40 ∨ T k = 45) → 8 ≤ d → P 0 0 0 d k 3 k []) ∧
  (∀ d k k1 c, T k = 40 → d < 8 → P 1 0 0 (d + 1) (k + 1) 0 k1 c → T k1 = 41 → P 0 0 0 d k 0 (k1 + 1) c) ∧
  (∀ d k k1 c, T k = 40 → d < 8 → P 1 0 0 (d + 1) (k + 1) 0 k1 c → T k1 ≠ 41 → P 0 0 0 d k 1 k1 []) ∧
  (∀ d k f k1 c, T k = 40 → d < 8 → P 1 0 0 (d + 1) (k + 1) f k1 c → f ≠ 0 → P 0 0 0 d k f k1 []) ∧
  (∀ d k f k1 c, T k = 45 → d < 8 → P 0 0 0 (d + 1) (k + 1) f k1 c → P 0 0 0 d k f k1 (c ++ [(2, 0)])) ∧
  (∀ a s d k f k1 c, P 0 0 0 d k f k1 c → f ≠ 0 → P 1 a s d k f k1 []) ∧
  (∀ a s d k k1 c f k2 c2, P 0 0 0 d k 0 k1 c → P 2 a 0 d k1 f k2 c2 → P 1 a s d k f k2 (c ++ pe s ++ c2)) ∧
  (∀ a d k f k1 c, (T k = 42 ∨ T k = 47) → P 1 a (T k) d (k + 1) f k1 c → P 2 a 0 d k f k1 c) ∧
  (∀ a d k f k1 c, (T k = 43 ∨ T k = 45) → P 1 (T k) 0 d (k + 1) f k1 c → P 2 a 0 d k f k1 (pe a ++ c)) ∧
  (∀ a d k, T k ≠ 42 → T k ≠ 47 → T k ≠ 43 → T k ≠ 45 → P 2 a 0 d k 0 k (pe a))
def Rd (T V : Nat → Nat) (fee q a s d k f k1 : Nat) (c : Cd) : Prop := ∀ P, RdC T V fee P → P q a s d k f k1 c
theorem Rd.ind {q a s d k f k1 : Nat} {c : Cd} (h : Rd T V fee q a s d k f k1 c) (P : Nat → Nat → Nat → Nat → Nat → Nat → Nat → Cd → Prop) (hP : RdC T V fee P) : P q a s d k f k1 c := h P hP
theorem Rd.rules : RdC T V fee (Rd T V fee) := by
  refine ⟨fun d k h1 h2 P h => h.1 d k h1 h2, fun d k h1 h2 P h => h.2.1 d k h1 h2, fun d k h1 h2 h3 P h => h.2.2.1 d k h1 h2 h3, fun d k h1 h2 h3 P h => h.2.2.2.1 d k h1 h2 h3, fun d k h1 h2 h3 h4 P h => h.2.2.2.2.1 d k h1 h2 h3 h4, fun d k h1 h2 P h => h.2.2.2.2.2.1 d k h1 h2,
    fun d k k1 c h1 h2 h3 h4 P h => h.2.2.2.2.2.2.1 d k k1 c h1 h2 (h3 P h) h4, fun d k k1 c h1 h2 h3 h4 P h => h.2.2.2.2.2.2.2.1 d k k1 c h1 h2 (h3 P h) h4, fun d k f k1 c h1 h2 h3 h4 P h => h.2.2.2.2.2.2.2.2.1 d k f k1 c h1 h2 (h3 P h) h4, fun d k f k1 c h1 h2 h3 P h => h.2.2.2.2.2.2.2.2.2.1 d k f k1 c h1 h2 (h3 P h),
    fun a s d k f k1 c h1 h2 P h => h.2.2.2.2.2.2.2.2.2.2.1 a s d k f k1 c (h1 P h) h2, fun a s d k k1 c f k2 c2 h1 h2 P h => h.2.2.2.2.2.2.2.2.2.2.2.1 a s d k k1 c f k2 c2 (h1 P h) (h2 P h), fun a d k f k1 c h1 h2 P h => h.2.2.2.2.2.2.2.2.2.2.2.2.1 a d k f k1 c h1 (h2 P h), fun a d k f k1 c h1 h2 P h => h.2.2.2.2.2.2.2.2.2.2.2.2.2.1 a d k f k1 c h1 (h2 P h), fun a d k h1 h2 h3 h4 P h => h.2.2.2.2.2.2.2.2.2.2.2.2.2.2 a d k h1 h2 h3 h4⟩
theorem pe_0 : pe 0 = [] := rfl
theorem pe_1 {a : Nat} (h : a ≠ 0) : pe a = [(rop a, 0)] := if_neg h
theorem pe_len {a : Nat} : (pe a).length ≤ 1 := by
  unfold pe
  split
  · exact Nat.zero_le _
  · exact Nat.le_refl _
def ok1 (a : Nat) : Nat := if a = 0 then 0 else 1
theorem pe_l {a : Nat} : (pe a).length = ok1 a := by
  unfold pe ok1
  split <;> rfl
theorem ok1_le (a : Nat) : ok1 a ≤ 1 := by unfold ok1; split <;> decide
/-- how much is written, how far is read; faults are 1 to 6 -/
theorem Rd.len {q a s d k f k1 : Nat} {c : Cd} (h : Rd T V fee q a s d k f k1 c) : f ≤ 6 ∧ k ≤ k1 ∧ (q ≤ 1 → f = 0 → k < k1) ∧ (f = 0 → c.length + k ≤ k1 + (if q = 0 then 0 else if q = 1 then ok1 a + ok1 s else ok1 a)) := by
  refine h.ind (fun q a s d k f k1 c => f ≤ 6 ∧ k ≤ k1 ∧ (q ≤ 1 → f = 0 → k < k1) ∧ (f = 0 → c.length + k ≤ k1 + (if q = 0 then 0 else if q = 1 then ok1 a + ok1 s else ok1 a))) ⟨?_, ?_, ?_, ?_, ?_, ?_, ?_, ?_, ?_, ?_, ?_, ?_, ?_, ?_, ?_⟩
  · intro d k _ _; exact ⟨by decide, Nat.le_refl _, fun _ h => absurd h (by decide), fun h => absurd h (by decide)⟩
  · intro d k _ _; exact ⟨by decide, by omega, fun _ _ => by omega, fun _ => by simp; omega⟩
  · intro d k _ _ _; exact ⟨by decide, Nat.le_refl _, fun _ h => absurd h (by decide), fun h => absurd h (by decide)⟩
  · intro d k _ _ _; exact ⟨by decide, by omega, fun _ _ => by omega, fun _ => by simp; omega⟩
  · intro d k _ _ _ _; exact ⟨by decide, Nat.le_refl _, fun _ h => absurd h (by decide), fun h => absurd h (by decide)⟩
  · intro d k _ _; exact ⟨by decide, Nat.le_refl _, fun _ h => absurd h (by decide), fun h => absurd h (by decide)⟩
  · intro d k k1 c _ _ ⟨h1, h2, h3, h4⟩ _
    have h4 := h4 rfl
    rw [if_neg (by decide), if_pos rfl] at h4
    have : ok1 0 = 0 := rfl
    refine ⟨by decide, by omega, fun _ _ => by omega, fun _ => ?_⟩
    rw [if_pos rfl]
    omega
  · intro d k k1 c _ _ ⟨h1, h2, h3, h4⟩ _; exact ⟨by decide, by omega, fun _ h => absurd h (by decide), fun h => absurd h (by decide)⟩
  · intro d k f k1 c _ _ ⟨h1, h2, h3, h4⟩ hf; exact ⟨h1, by omega, fun _ h => absurd h hf, fun h => absurd h hf⟩
  · intro d k f k1 c _ _ ⟨h1, h2, h3, h4⟩
    refine ⟨h1, by omega, fun h hf => by have := h3 (by decide) hf; omega, fun hf => ?_⟩
    have := h4 hf
    have := h3 (by decide) hf
    rw [if_pos rfl] at *
    rw [List.length_append]
    show c.length + 1 + k ≤ _
    omega
  · intro a s d k f k1 c ⟨h1, h2, h3, h4⟩ hf; exact ⟨h1, h2, fun _ h => absurd h hf, fun h => absurd h hf⟩
  · intro a s d k k1 c f k2 c2 ⟨h1, h2, h3, h4⟩ ⟨g1, g2, g3, g4⟩
    have h3 := h3 (by decide) rfl
    have h4 := h4 rfl
    refine ⟨g1, by omega, fun _ _ => by omega, fun hf => ?_⟩
    have g4 := g4 hf
    rw [if_neg (by decide), if_neg (by decide)] at g4
    rw [if_pos rfl] at h4
    rw [if_neg (by decide), if_pos rfl, List.length_append, List.length_append, pe_l]
    omega
  · intro a d k f k1 c hk ⟨h1, h2, h3, h4⟩
    refine ⟨h1, by omega, fun h => absurd h (by decide), fun hf => ?_⟩
    have h4 := h4 hf
    rw [if_neg (by decide), if_pos rfl] at h4
    rw [if_neg (by decide), if_neg (by decide)]
    have := ok1_le (T k)
    omega
  · intro a d k f k1 c hk ⟨h1, h2, h3, h4⟩
    refine ⟨h1, by omega, fun h => absurd h (by decide), fun hf => ?_⟩
    have h4 := h4 hf
    rw [if_neg (by decide), if_pos rfl] at h4
    rw [if_neg (by decide), if_neg (by decide), List.length_append, pe_l]
    have := ok1_le (T k)
    have : ok1 0 = 0 := rfl
    omega
  · intro a d k _ _ _ _
    refine ⟨by decide, Nat.le_refl _, fun h => absurd h (by decide), fun _ => ?_⟩
    rw [if_neg (by decide), if_neg (by decide), pe_l]
    omega
/-- an item of a law -/
def okI (fee : Nat) (i : Nat × Nat) : Prop := i.1 ≤ 22 ∧ i.2 ≤ 9999 ∧ (i.1 = 1 → i.2 < 7 ∧ (fee = 1 → i.2 ≠ 6) ∧ (fee ≠ 1 → i.2 ≠ 4 ∧ i.2 ≠ 5))
theorem okI_op {o : Nat} (h : 2 ≤ o) (h2 : o ≤ 22) : okI fee (o, 0) := ⟨h2, show (0 : Nat) ≤ 9999 by decide, fun e => absurd (show o = 1 from e) (by omega)⟩
theorem rop_b (a : Nat) : 3 ≤ rop a ∧ rop a ≤ 6 := by
  unfold rop
  repeat' split
  all_goals decide
theorem pe_ok {a : Nat} : ∀ i ∈ pe a, okI fee i := by
  intro i hi
  unfold pe at hi
  have := rop_b a
  split at hi
  · cases hi
  · rw [List.mem_singleton] at hi; subst hi; exact okI_op (by omega) (by omega)
theorem Rd.ok {q a s d k f k1 : Nat} {c : Cd} (h : Rd T V fee q a s d k f k1 c) : ∀ i ∈ c, okI fee i := by
  have nil : ∀ i ∈ ([] : Cd), okI fee i := fun i hi => by cases hi
  refine h.ind (fun q a s d k f k1 c => ∀ i ∈ c, okI fee i) ⟨?_, ?_, ?_, ?_, ?_, ?_, ?_, ?_, ?_, ?_, ?_, ?_, ?_, ?_, ?_⟩
  · intro d k _ _; exact nil
  · intro d k _ h2 i hi; rw [List.mem_singleton] at hi; subst hi; exact ⟨show (0 : Nat) ≤ 22 by decide, h2, fun e => absurd (show (0 : Nat) = 1 from e) (by decide)⟩
  · intro d k _ _ _; exact nil
  · intro d k h1 h2 h3 i hi
    rw [List.mem_singleton] at hi
    subst hi
    unfold fgn at h3
    refine ⟨show (1 : Nat) ≤ 22 by decide, show T k - 12 ≤ 9999 by omega, fun _ => ⟨show T k - 12 < 7 by omega, fun e => ?_, fun e => ?_⟩⟩
    · rw [if_pos e] at h3; show T k - 12 ≠ 6; omega
    · rw [if_neg e] at h3; show T k - 12 ≠ 4 ∧ T k - 12 ≠ 5; omega
  · intro d k _ _ _ _; exact nil
  · intro d k _ _; exact nil
  · intro d k k1 c _ _ h _; exact h
  · intro d k k1 c _ _ h _; exact nil
  · intro d k f k1 c _ _ h _; exact nil
  · intro d k f k1 c _ _ h i hi
    rw [List.mem_append, List.mem_singleton] at hi
    rcases hi with hi | hi
    · exact h i hi
    · subst hi; exact okI_op (by decide) (by decide)
  · intro a s d k f k1 c h _; exact nil
  · intro a s d k k1 c f k2 c2 h g i hi
    rw [List.mem_append, List.mem_append] at hi
    rcases hi with (hi | hi) | hi
    · exact h i hi
    · exact pe_ok i hi
    · exact g i hi
  · intro a d k f k1 c _ h; exact h
  · intro a d k f k1 c _ h i hi
    rw [List.mem_append] at hi
    rcases hi with hi | hi
    · exact pe_ok i hi
    · exact h i hi
  · intro a d k _ _ _ _; exact pe_ok
/-- the code's types -/
def tyL : Cd → List Bool → Option (List Bool)
  | [], t => some t
  | i :: r, t => match tyS i.1 t with
    | none => none
    | some t' => tyL r t'
theorem tyL_app : ∀ (c1 c2 : Cd) (t t1 : List Bool), tyL c1 t = some t1 → tyL (c1 ++ c2) t = tyL c2 t1
  | [], c2, t, t1, h => by cases h; rfl
  | i :: r, c2, t, t1, h => by
    show (match tyS i.1 t with
      | none => none
      | some t' => tyL (r ++ c2) t') = _
    have h' : (match tyS i.1 t with
      | none => none
      | some t' => tyL r t') = some t1 := h
    cases e : tyS i.1 t with
    | none => rw [e] at h'; cases h'
    | some t' => rw [e] at h'; exact tyL_app r c2 t' t1 h'
def pt (a : Nat) (t : List Bool) : List Bool := if a = 0 then t else false :: t
theorem tyS_rop (a : Nat) (t : List Bool) : tyS (rop a) (false :: false :: t) = some (false :: t) := by
  have : rop a = 3 ∨ rop a = 4 ∨ rop a = 5 ∨ rop a = 6 := by have := rop_b a; omega
  rcases this with e | e | e | e <;> rw [e] <;> rfl
theorem tyL_pe (a : Nat) (t : List Bool) : tyL (pe a) (false :: pt a t) = some (false :: t) := by
  unfold pe pt
  split
  · rfl
  · show (match tyS (rop a) (false :: false :: t) with
      | none => none
      | some t' => tyL [] t') = _
    rw [tyS_rop]
    rfl
theorem pt_len (a : Nat) (t : List Bool) : (pt a t).length ≤ t.length + 1 := by
  unfold pt
  split
  · omega
  · show t.length + 1 ≤ _; omega
theorem tyL_1 {i : Nat × Nat} {t t' : List Bool} (h : tyS i.1 t = some t') : tyL [i] t = some t' := by
  show (match tyS i.1 t with
    | none => none
    | some t' => tyL [] t') = _
  rw [h]
  rfl
theorem tyS_push {o : Nat} {t : List Bool} (h : o ≤ 1) (ht : t.length < 32) : tyS o t = some (false :: t) := by
  unfold tyS
  rw [if_pos h, if_pos ht]
/-- what is on the stack where the code is behind: pt s (pt a t) for q = 1, an operand more for q = 2 -/
def stkq (q a s : Nat) (t : List Bool) : List Bool := if q = 0 then t else if q = 1 then pt s (pt a t) else false :: pt a t
theorem Rd.ty {q a s d k f k1 : Nat} {c : Cd} (h : Rd T V fee q a s d k f k1 c) : d ≤ 8 → f = 0 → ∀ t : List Bool, t.length + 2 * (8 - d) + (if q = 0 then 0 else 2) ≤ 31 → tyL c (stkq q a s t) = some (false :: t) := by
  refine h.ind (fun q a s d k f k1 c => d ≤ 8 → f = 0 → ∀ t : List Bool, t.length + 2 * (8 - d) + (if q = 0 then 0 else 2) ≤ 31 → tyL c (stkq q a s t) = some (false :: t)) ⟨?_, ?_, ?_, ?_, ?_, ?_, ?_, ?_, ?_, ?_, ?_, ?_, ?_, ?_, ?_⟩
  · intro d k _ _ _ h; exact absurd h (by decide)
  · intro d k _ _ hd _ t ht
    rw [if_pos rfl] at ht
    exact tyL_1 (tyS_push (show (0 : Nat) ≤ 1 by decide) (show t.length < 32 by omega))
  · intro d k _ _ _ _ h; exact absurd h (by decide)
  · intro d k _ _ _ hd _ t ht
    rw [if_pos rfl] at ht
    exact tyL_1 (tyS_push (show (1 : Nat) ≤ 1 by decide) (show t.length < 32 by omega))
  · intro d k _ _ _ _ _ h; exact absurd h (by decide)
  · intro d k _ _ _ h; exact absurd h (by decide)
  · intro d k k1 c _ h8 h _ hd _ t ht
    rw [if_pos rfl] at ht
    exact h (by omega) rfl t (by rw [if_neg (by decide)]; omega)
  · intro d k k1 c _ _ h _ _ hf; exact absurd hf (by decide)
  · intro d k f k1 c _ _ h hf _ h0; exact absurd h0 hf
  · intro d k f k1 c _ h8 h hd hf t ht
    rw [if_pos rfl] at ht
    have := h (by omega) hf t (by rw [if_pos rfl]; omega)
    rw [tyL_app _ _ _ _ this]
    exact tyL_1 rfl
  · intro a s d k f k1 c h hf _ h0; exact absurd h0 hf
  · intro a s d k k1 c f k2 c2 h g hd hf t ht
    rw [if_neg (by decide)] at ht
    have l1 := pt_len a t
    have l2 := pt_len s (pt a t)
    have e1 : tyL c (pt s (pt a t)) = some (false :: pt s (pt a t)) := h hd rfl (pt s (pt a t)) (by rw [if_pos rfl]; omega)
    have e2 : tyL (c ++ pe s) (stkq 1 a s t) = some (false :: pt a t) := by
      show tyL (c ++ pe s) (pt s (pt a t)) = _
      rw [tyL_app _ _ _ _ e1]
      exact tyL_pe s _
    rw [tyL_app _ _ _ _ e2]
    exact g hd hf t (by rw [if_neg (by decide)]; exact ht)
  · intro a d k f k1 c hk h hd hf t ht
    have h1 := h hd hf t (by rw [if_neg (by decide)] at *; exact ht)
    have e : pt (T k) (pt a t) = false :: pt a t := if_neg (by omega)
    have e1 : stkq 1 a (T k) t = stkq 2 a 0 t := e
    rw [e1] at h1
    exact h1
  · intro a d k f k1 c hk h hd hf t ht
    have h1 := h hd hf t (by rw [if_neg (by decide)] at *; exact ht)
    have e : pt (T k) t = false :: t := if_neg (by omega)
    have e1 : stkq 1 (T k) 0 t = false :: t := e
    rw [e1] at h1
    rw [tyL_app _ _ _ _ (show tyL (pe a) (stkq 2 a 0 t) = some (false :: t) from tyL_pe a t)]
    exact h1
  · intro a d k _ _ _ _ _ _ t _
    exact tyL_pe a t
end RD
