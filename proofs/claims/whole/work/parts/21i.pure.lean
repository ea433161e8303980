/-! what has been read is well formed; both sides hold it -/
section PI1
/-- the code's types, by places -/
def tyI (L : Cd) : Nat → Nat → List Bool → Option (List Bool)
  | 0, _, t => some t
  | n + 1, i, t => match tyS (itm L i).1 t with
    | none => none
    | some t' => tyI L n (i + 1) t'
theorem tyI_ext {L L2 : Cd} : ∀ n i t, (∀ j, i ≤ j → j < i + n → itm L2 j = itm L j) → tyI L2 n i t = tyI L n i t
  | 0, i, t, _ => rfl
  | n + 1, i, t, h => by
    show (match tyS (itm L2 i).1 t with
      | none => none
      | some t' => tyI L2 n (i + 1) t') = (match tyS (itm L i).1 t with
      | none => none
      | some t' => tyI L n (i + 1) t')
    rw [h i (Nat.le_refl _) (by omega)]
    cases tyS (itm L i).1 t with
    | none => rfl
    | some t' => exact tyI_ext n (i + 1) t' (fun j j1 j2 => h j (by omega) (by omega))
theorem tyI_new : ∀ (c L : Cd) (t : List Bool), tyI (L ++ c) c.length L.length t = tyL c t
  | [], L, t => rfl
  | x :: r, L, t => by
    have e1 : itm (L ++ x :: r) L.length = x := by
      rw [itm_ge (Nat.le_refl _), Nat.sub_self]
      rfl
    have e2 : L ++ x :: r = (L ++ [x]) ++ r := by rw [List.append_assoc]; rfl
    show (match tyS (itm (L ++ x :: r) L.length).1 t with
      | none => none
      | some t' => tyI (L ++ x :: r) r.length (L.length + 1) t') = (match tyS x.1 t with
      | none => none
      | some t' => tyL r t')
    rw [e1]
    cases tyS x.1 t with
    | none => rfl
    | some t' =>
      have := tyI_new r (L ++ [x]) t'
      rw [List.length_append, ← e2] at this
      exact this
theorem tyR_I {T : Nat → Nat} {L : Cd} : ∀ n i t, (∀ j, i ≤ j → j < i + n → T (150 + 2 * j) = (itm L j).1) → tyR T n i t = tyI L n i t
  | 0, i, t, _ => rfl
  | n + 1, i, t, h => by
    show (match tyS (T (150 + 2 * i)) t with
      | none => none
      | some t' => tyR T n (i + 1) t') = (match tyS (itm L i).1 t with
      | none => none
      | some t' => tyI L n (i + 1) t')
    rw [h i (Nat.le_refl _) (by omega)]
    cases tyS (itm L i).1 t with
    | none => rfl
    | some t' => exact tyR_I n (i + 1) t' (fun j j1 j2 => h j (by omega) (by omega))
def WH (n : Nat) (F : Nat → Nat → Nat) (L : Cd) : Prop :=
  (∀ k, k < n → F k 0 = 3 → F k 1 < 16 ∧ 1 ≤ F k 2 ∧ F k 2 ≤ 9 ∧ F k 3 ≤ 99 ∧ F k 4 < 2 ^ F k 1 ∧ F k 5 < 2 ^ F k 1) ∧
  (∀ k l, k < n → l < n → F k 0 = F l 0 → F k 0 ≠ 3 → k = l) ∧
  (∀ k, k < n → F k 0 ≠ 3 → F k 0 < 3 ∧ F k 1 ≤ F k 2 ∧ F k 2 ≤ L.length ∧ tyI L (F k 2 - F k 1) (F k 1) [] = some [decide (F k 0 ≠ 0)] ∧ ∀ i, F k 1 ≤ i → i < F k 2 → okI (if F k 0 = 0 then 1 else 0) (itm L i))
theorem Rr.ok {T V : Nat → Nat} {k k1 : Nat} {v : Nat → Nat} (h : Rr T V k 0 k1 v) : v 1 < 16 ∧ 1 ≤ v 2 ∧ v 2 ≤ 9 ∧ v 3 ≤ 99 ∧ v 4 < 2 ^ v 1 ∧ v 5 < 2 ^ v 1 := by
  have nb : ∀ {lo hi k : Nat}, ¬ nbad T V lo hi k 0 := by
    intro lo hi k h
    rcases h with h | h <;> omega
  rcases h with ⟨h1, _⟩ | ⟨_, _, h1, _⟩ | ⟨_, _, h1, _⟩ | ⟨_, _, _, _, h1, _⟩ | ⟨_, _, _, _, h1, _⟩ | ⟨_, _, _, _, _, h1, _⟩ | ⟨n1, _, n2, _, n3, k2, y, z, h1, h2, h3⟩
  · exact absurd h1 nb
  · omega
  · exact absurd h1 nb
  · omega
  · exact absurd h1 nb
  · exact absurd rfl h1
  · obtain ⟨w1, w2, w3, w4, w5⟩ := h3 rfl
    have a1 := h1.lt.2.2 rfl
    have a2 := h2.lt.2.2 rfl
    rw [w1, w2, w3, w4, w5]
    refine ⟨?_, n2.2.1, n2.2.2, n3.2.2, a1, a2⟩
    have := n1.2.2
    omega
theorem WH.add {T V : Nat → Nat} {n k f k1 : Nat} {F : Nat → Nat → Nat} {L c : Cd} {v : Nat → Nat} (h : WH n F L) (hr : Rc T V n F L k f k1 v c) (hf : f = 0) : WH (n + 1) (upFn F n v) (L ++ c) := by
  have hr : okh T n F k ∧ ∃ k2, Rbd T V L (T k - 1) (k + 1) 0 k2 v c := by
    rcases hr with ⟨_, h2, h3⟩ | ⟨_, _, _, h2, h3⟩ | ⟨_, _, h2, h3⟩ | ⟨_, _, h2, h3⟩ | ⟨_, _, h2, _, h3⟩ | ⟨h1, _, k2, _, h2, _, h3⟩
    · omega
    · omega
    · omega
    · exact absurd hf h3
    · omega
    · exact ⟨h1, k2, h2⟩
  obtain ⟨ho, k2, v0, hb⟩ := hr
  obtain ⟨w1, w2, w3⟩ := h
  have o1 := ho.1
  have o4 := ho.2.1
  have nu : ∀ l, l < n → F l 0 = v 0 → v 0 ≠ 3 → False := fun l hl e e3 => ho.2.2 (by omega) l hl (by omega)
  have hnew : v 0 = 3 → v 1 < 16 ∧ 1 ≤ v 2 ∧ v 2 ≤ 9 ∧ v 3 ≤ 99 ∧ v 4 < 2 ^ v 1 ∧ v 5 < 2 ^ v 1 := by
    intro e
    rcases hb with ⟨q, _⟩ | ⟨q, _⟩ | ⟨_, q, _⟩
    · omega
    · omega
    · exact q.ok
  have hcode : v 0 ≠ 3 → v 0 < 3 ∧ v 1 ≤ v 2 ∧ v 2 ≤ (L ++ c).length ∧ tyI (L ++ c) (v 2 - v 1) (v 1) [] = some [decide (v 0 ≠ 0)] ∧ ∀ i, v 1 ≤ i → i < v 2 → okI (if v 0 = 0 then 1 else 0) (itm (L ++ c) i) := by
    intro e
    have len : (L ++ c).length = L.length + c.length := List.length_append
    have its : ∀ fee, (∀ i ∈ c, okI fee i) → v 1 = L.length → v 2 = L.length + c.length → ∀ i, v 1 ≤ i → i < v 2 → okI fee (itm (L ++ c) i) := by
      intro fee hc e1 e2 i i1 i2
      rw [itm_ge (by omega)]
      exact hc _ (itm_mem (by omega))
    rcases hb with ⟨q, q1, q2, q3⟩ | ⟨q, q1, q2, q3⟩ | ⟨q, _⟩
    · have v00 : v 0 = 0 := by omega
      have ty : tyL c [] = some [false] := q1.ty (by decide) rfl [] (by decide)
      refine ⟨by omega, by omega, by omega, ?_, ?_⟩
      · rw [q2, q3, Nat.add_sub_cancel_left, tyI_new, ty, v00]; rfl
      · rw [if_pos v00]; exact its 1 q1.ok q2 q3
    · have v00 : ¬ v 0 = 0 := by omega
      have ty : tyL c [] = some [true] := q1.ty rfl [] (by decide)
      refine ⟨by omega, by omega, by omega, ?_, ?_⟩
      · rw [q2, q3, Nat.add_sub_cancel_left, tyI_new, ty]
        simp [v00]
      · rw [if_neg v00]; exact its 0 (q1.ok rfl) q2 q3
    · omega
  refine ⟨fun k hk h3 => ?_, fun k l hk hl e h3 => ?_, fun k hk h3 => ?_⟩
  · by_cases e : k = n
    · rw [e, upFn_e] at h3
      rw [e, upFn_e, upFn_e, upFn_e, upFn_e, upFn_e]
      exact hnew h3
    · rw [upFn_n e] at h3
      rw [upFn_n e, upFn_n e, upFn_n e, upFn_n e, upFn_n e]
      exact w1 k (by omega) h3
  · by_cases ek : k = n
    · by_cases el : l = n
      · omega
      · rw [ek, upFn_e, upFn_n el] at e
        rw [ek, upFn_e] at h3
        exact absurd (nu l (by omega) e.symm h3) id
    · by_cases el : l = n
      · rw [el, upFn_e, upFn_n ek] at e
        rw [upFn_n ek] at h3
        exact absurd (nu k (by omega) e (by omega)) id
      · rw [upFn_n ek, upFn_n el] at e
        rw [upFn_n ek] at h3
        exact w2 k l (by omega) (by omega) e h3
  · by_cases e : k = n
    · rw [e, upFn_e] at h3
      rw [e, upFn_e, upFn_e, upFn_e]
      exact hcode h3
    · rw [upFn_n e] at h3
      rw [upFn_n e, upFn_n e, upFn_n e]
      obtain ⟨a1, a2, a3, a4, a5⟩ := w3 k (by omega) h3
      refine ⟨a1, a2, by rw [List.length_append]; omega, ?_, fun i i1 i2 => ?_⟩
      · rw [tyI_ext (L := L) _ _ _ (fun j j1 j2 => itm_lt (by omega))]
        exact a4
      · rw [itm_lt (by omega)]
        exact a5 i i1 i2
theorem Rx.wh {T V : Nat → Nat} {n : Nat} {F : Nat → Nat → Nat} {L : Cd} {k f k1 n2 : Nat} {F2 : Nat → Nat → Nat} {L2 : Cd} (h : Rx T V n F L k f k1 n2 F2 L2) : f = 0 → WH n F L → WH n2 F2 L2 := by
  refine h (fun n F L k f k1 n2 F2 L2 => f = 0 → WH n F L → WH n2 F2 L2) ⟨fun _ _ _ _ _ _ h => h, fun _ _ _ _ f _ _ _ _ _ hf e => absurd e hf, fun n F L k k1 v c f k2 n2 F2 L2 _ hr ih e hw => ih e (hw.add hr rfl)⟩
/-- the text T says the same as n, F, L -/
def TV (n : Nat) (F : Nat → Nat → Nat) (L : Cd) (T : Nat → Nat) : Prop := T 0 = n ∧ (∀ i j, i < n → j ≤ 5 → (j ≤ 2 ∨ F i 0 = 3) → fl T i j = F i j) ∧ ∀ i, i < L.length → T (150 + 2 * i) = (itm L i).1 ∧ T (150 + 2 * i + 1) = (itm L i).2
theorem TV.wt {n : Nat} {F : Nat → Nat → Nat} {L : Cd} {T : Nat → Nat} (h : TV n F L T) (hw : WH n F L) (hn : n ≤ 16) (hL : L.length ≤ 300) (hT : ∀ j, T j < 65536) : WT T := by
  obtain ⟨t0, t1, t2⟩ := h
  obtain ⟨w1, w2, w3⟩ := hw
  have f0 : ∀ k, k < n → fl T k 0 = F k 0 := fun k hk => t1 k 0 hk (by decide) (Or.inl (by decide))
  have f1 : ∀ k, k < n → fl T k 1 = F k 1 := fun k hk => t1 k 1 hk (by decide) (Or.inl (by decide))
  have f2 : ∀ k, k < n → fl T k 2 = F k 2 := fun k hk => t1 k 2 hk (by decide) (Or.inl (by decide))
  refine ⟨⟨hT, by omega⟩, fun k hk h3 => ?_, fun k l hk hl e h3 => ?_, fun k hk h3 => ?_⟩
  · rw [t0] at hk
    rw [f0 k hk] at h3
    rw [f1 k hk, f2 k hk, t1 k 3 hk (by decide) (Or.inr h3), t1 k 4 hk (by decide) (Or.inr h3), t1 k 5 hk (by decide) (Or.inr h3)]
    exact w1 k hk h3
  · rw [t0] at hk hl
    rw [f0 k hk] at h3
    rw [f0 k hk, f0 l hl] at e
    exact w2 k l hk hl e h3
  · rw [t0] at hk
    rw [f0 k hk] at h3
    rw [f0 k hk, f1 k hk, f2 k hk]
    obtain ⟨a1, a2, a3, a4, a5⟩ := w3 k hk h3
    refine ⟨a1, a2, by omega, ?_, fun i i1 i2 => ?_⟩
    · rw [tyR_I (L := L) _ _ _ (fun j j1 j2 => (t2 j (by omega)).1)]
      exact a4
    · obtain ⟨b1, b2⟩ := t2 i (by omega)
      obtain ⟨c1, c2, c3⟩ := a5 i i1 i2
      rw [b1, b2]
      refine ⟨fun _ => c2, fun e => ?_⟩
      obtain ⟨d1, d2, d3⟩ := c3 e
      refine ⟨d1, fun e0 => d2 (by rw [if_pos e0]), fun e0 => d3 (by rw [if_neg e0]; decide)⟩
theorem TV.lw {n : Nat} {F : Nat → Nat → Nat} {L : Cd} {T : Nat → Nat} {I : Nat → Nat → Int32} (h : TV n F L T) (hw : WH n F L) (hn : n ≤ 16) (hb : LHb n F I) (hc : cod L I) : LW T 57 I := by
  obtain ⟨t0, t1, t2⟩ := h
  obtain ⟨w1, w2, w3⟩ := hw
  obtain ⟨l1, l2, l3, l4, l5, od, l6, o1, o2, o3⟩ := hb
  have f0 : ∀ k, k < n → fl T k 0 = F k 0 := fun k hk => t1 k 0 hk (by decide) (Or.inl (by decide))
  have f1 : ∀ k, k < n → fl T k 1 = F k 1 := fun k hk => t1 k 1 hk (by decide) (Or.inl (by decide))
  have f2 : ∀ k, k < n → fl T k 2 = F k 2 := fun k hk => t1 k 2 hk (by decide) (Or.inl (by decide))
  have eR : nR T = cnt n (isRF F) := by
    unfold nR
    rw [t0]
    refine cnt_ext (fun i hi => ?_)
    unfold isR isRF
    rw [f0 i hi]
  refine ⟨by rw [eR]; exact l1, fun k hk h3 => ?_, fun s hs hk => ?_, fun k hk h3 => ?_, fun k hk h3 => ?_, od, fun i hi => ?_, fun i j hij hj => ?_, fun k hk h3 => ?_⟩
  · rw [t0] at hk
    rw [f0 k hk] at h3
    rw [f0 k hk, f1 k hk, f2 k hk]
    have a := l2 k hk h3
    refine ⟨a.2.1, a.2.2, fun i i1 i2 => ?_⟩
    have b := w3 k hk (by omega)
    obtain ⟨b1, b2⟩ := t2 i (by omega)
    rw [b1, b2]
    exact hc.2.2.1 i (by omega)
  · exact l3 s hs (fun k hk2 => by rw [← f0 k hk2]; exact hk k (by omega))
  · rw [t0] at hk
    rw [f0 k hk] at h3
    rw [f1 k hk, f2 k hk, t1 k 3 hk (by decide) (Or.inr h3), t1 k 4 hk (by decide) (Or.inr h3), t1 k 5 hk (by decide) (Or.inr h3)]
    exact (l4 k hk h3).2
  · refine l5 k hk (fun z => h3 ⟨by omega, ?_⟩)
    rw [f0 k z.1]; exact z.2
  · rw [eR] at hi
    have a := o1 i hi
    exact ⟨l6 i hi, by omega, by rw [f0 _ a.1]; exact a.2⟩
  · rw [eR] at hj
    rw [f1 _ (o1 i (by omega)).1, f1 _ (o1 j hj).1]
    exact o2 i j hij hj
  · rw [t0] at hk
    rw [f0 k hk] at h3
    rw [eR]
    exact o3 k hk h3
/-- a law copied is the same law -/
theorem LW.copy {T : Nat → Nat} {r : Nat} {I I' : Nat → Nat → Int32} (h : LW T 57 I) (hT : WT T) (e0 : I' r 2 = I 57 2) (e1 : ∀ j, j < 300 → I' (r + 1) j = I 58 j) (e2 : ∀ j, j < 3 → I' (r + 2) j = I 59 j) (e3 : ∀ j, j < 3 → I' (r + 3) j = I 60 j) (e4 : ∀ j, j < 16 → I' (r + 4) j = I 61 j) (e5 : ∀ j, j < 16 → I' (r + 5) j = I 62 j) (e6 : ∀ j, j < 16 → I' (r + 6) j = I 63 j) (e7 : ∀ j, j < 16 → I' (r + 7) j = I 64 j) (e8 : ∀ j, j < 16 → I' (r + 8) j = I 65 j) (e9 : ∀ j, j < 16 → I' (r + 9) j = I 66 j) : LW T r I' := by
  obtain ⟨l1, l2, l3, l4, l5, od, l6, l7⟩ := h
  have hn := hT.1.2
  have hR := cnt_le (T 0) (isR T)
  refine ⟨e0.trans l1, fun k hk h3 => ?_, fun s hs hk => (e2 s hs).trans (l3 s hs hk), fun k hk h3 => ?_, fun k hk h3 => ?_, od, fun i hi => ?_, l7⟩
  · rw [e2 _ h3, e3 _ h3]
    obtain ⟨a1, a2, a3⟩ := l2 k hk h3
    refine ⟨a1, a2, fun i i1 i2 => ?_⟩
    have := (hT.2.2.2 k hk (by omega)).2.2.1
    rw [e1 i (by omega)]
    exact a3 i i1 i2
  · rw [e5 k (by omega), e6 k (by omega), e7 k (by omega), e8 k (by omega), e9 k (by omega)]
    exact l4 k hk h3
  · rw [e8 k hk, e9 k hk]
    exact l5 k hk h3
  · have hi2 : i < cnt (T 0) (isR T) := hi
    rw [e4 i (by omega)]
    exact l6 i hi
/-- texts that agree where it counts -/
theorem fl_c {T T' : Nat → Nat} (h : ∀ j, j < 750 → T' j = T j) {k j : Nat} (hk : k < 16) (hj : j ≤ 5) : fl T' k j = fl T k j := h _ (by omega)
theorem tyR_c {T T' : Nat → Nat} : ∀ n i t, (∀ j, i ≤ j → j < i + n → T' (150 + 2 * j) = T (150 + 2 * j)) → tyR T' n i t = tyR T n i t
  | 0, i, t, _ => rfl
  | n + 1, i, t, h => by
    show (match tyS (T' (150 + 2 * i)) t with
      | none => none
      | some t' => tyR T' n (i + 1) t') = (match tyS (T (150 + 2 * i)) t with
      | none => none
      | some t' => tyR T n (i + 1) t')
    rw [h i (Nat.le_refl _) (by omega)]
    cases tyS (T (150 + 2 * i)) t with
    | none => rfl
    | some t' => exact tyR_c n (i + 1) t' (fun j j1 j2 => h j (by omega) (by omega))
theorem WT.c {T T' : Nat → Nat} (hw : WT T) (h : ∀ j, j < 750 → T' j = T j) (hT : ∀ j, T' j < 65536) : WT T' := by
  obtain ⟨⟨_, w0⟩, w1, w2, w3⟩ := hw
  have e0 : T' 0 = T 0 := h 0 (by decide)
  refine ⟨⟨hT, by omega⟩, fun k hk h3 => ?_, fun k l hk hl e h3 => ?_, fun k hk h3 => ?_⟩
  · rw [e0] at hk
    rw [fl_c h (by omega) (by decide)] at h3
    rw [fl_c h (by omega) (by decide), fl_c h (by omega) (by decide), fl_c h (by omega) (by decide), fl_c h (by omega) (by decide), fl_c h (by omega) (by decide)]
    exact w1 k hk h3
  · rw [e0] at hk hl
    rw [fl_c h (by omega) (by decide)] at h3
    rw [fl_c h (by omega) (by decide), fl_c h (by omega) (by decide)] at e
    exact w2 k l hk hl e h3
  · rw [e0] at hk
    rw [fl_c h (by omega) (by decide)] at h3
    rw [fl_c h (by omega) (by decide), fl_c h (by omega) (by decide), fl_c h (by omega) (by decide)]
    obtain ⟨a1, a2, a3, a4, a5⟩ := w3 k hk h3
    refine ⟨a1, a2, a3, ?_, fun i i1 i2 => ?_⟩
    · rw [tyR_c (T := T) _ _ _ (fun j j1 j2 => h _ (by omega))]
      exact a4
    · rw [h _ (by omega), h _ (by omega)]
      exact a5 i i1 i2
theorem LW.c {T T' : Nat → Nat} {r : Nat} {I : Nat → Nat → Int32} (hl : LW T r I) (hw : WT T) (h : ∀ j, j < 750 → T' j = T j) : LW T' r I := by
  obtain ⟨l1, l2, l3, l4, l5, od, l6, l7, l8⟩ := hl
  have w0 := hw.1.2
  have e0 : T' 0 = T 0 := h 0 (by decide)
  have eR : nR T' = nR T := by
    unfold nR
    rw [e0]
    refine cnt_ext (fun i hi => ?_)
    unfold isR
    rw [fl_c h (by omega) (by decide)]
  refine ⟨by rw [eR]; exact l1, fun k hk h3 => ?_, fun s hs hk => ?_, fun k hk h3 => ?_, fun k hk h3 => ?_, od, fun i hi => ?_, fun i j hij hj => ?_, fun k hk h3 => ?_⟩
  · rw [e0] at hk
    rw [fl_c h (by omega) (by decide)] at h3
    rw [fl_c h (by omega) (by decide), fl_c h (by omega) (by decide), fl_c h (by omega) (by decide)]
    have a := l2 k hk h3
    have b := (hw.2.2.2 k hk (by omega)).2.2.1
    refine ⟨a.1, a.2.1, fun i i1 i2 => ?_⟩
    rw [h _ (by omega), h _ (by omega)]
    exact a.2.2 i i1 i2
  · refine l3 s hs (fun k hk2 => ?_)
    have := hk k (by omega)
    rw [fl_c h (by omega) (by decide)] at this
    exact this
  · rw [e0] at hk
    rw [fl_c h (by omega) (by decide)] at h3
    rw [fl_c h (by omega) (by decide), fl_c h (by omega) (by decide), fl_c h (by omega) (by decide), fl_c h (by omega) (by decide), fl_c h (by omega) (by decide)]
    exact l4 k hk h3
  · refine l5 k hk (fun z => h3 ⟨by omega, ?_⟩)
    rw [fl_c h (by omega) (by decide)]; exact z.2
  · rw [eR] at hi
    have a := l6 i hi
    refine ⟨a.1, by omega, ?_⟩
    rw [fl_c h (by omega) (by decide)]; exact a.2.2
  · rw [eR] at hj
    have a := l6 i (by omega)
    have b := l6 j hj
    rw [fl_c h (by omega) (by decide), fl_c h (by omega) (by decide)]
    exact l7 i j hij hj
  · rw [e0] at hk
    rw [fl_c h (by omega) (by decide)] at h3
    rw [eR]
    exact l8 k hk h3
end PI1
