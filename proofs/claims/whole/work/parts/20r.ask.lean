/-! what is asked; and, or: the rules, and the class -/
section RR
variable {T V : Nat → Nat} {fee : Nat}
def isC (t : Nat) : Prop := t = 60 ∨ t = 62 ∨ t = 61 ∨ t = 35 ∨ t = 130 ∨ t = 131
def cop (t : Nat) : Nat := if t = 60 then 10 else if t = 130 then 11 else if t = 62 then 12 else if t = 131 then 13 else if t = 61 then 14 else 15
theorem cop_b (t : Nat) : 10 ≤ cop t ∧ cop t ≤ 15 := by
  unfold cop
  repeat' split
  all_goals decide
theorem cit_cop {t : Nat} (h : isC t) : cit (cop t) 0 = 20000 + t := by
  unfold isC at h
  rcases h with e | e | e | e | e | e <;> subst e <;> rfl
def Rcm (T V : Nat → Nat) (fee d k f k1 : Nat) (c : Cd) : Prop := (∃ c1, Rd T V fee 1 0 0 d k f k1 c1 ∧ f ≠ 0) ∨ (∃ c1, Rd T V fee 1 0 0 d k 0 k1 c1 ∧ ¬ isC (T k1) ∧ f = 1) ∨ (∃ k2 c1 c2, Rd T V fee 1 0 0 d k 0 k2 c1 ∧ isC (T k2) ∧ Rd T V fee 1 0 0 d (k2 + 1) f k1 c2 ∧ c = c1 ++ c2 ++ [(cop (T k2), 0)])
/-- j levels are left -/
def Ra (T V : Nat → Nat) (fee : Nat) : Nat → Nat → Nat → Nat → Nat → Cd → Prop
  | 0, d, k, f, k1, c => (T k = 11 ∧ f = 3 ∧ k1 = k) ∨ (T k ≠ 11 ∧ Rcm T V fee d k f k1 c)
  | j + 1, d, k, f, k1, c => (T k = 11 ∧ ∃ c1, Ra T V fee j (d + 1) (k + 1) f k1 c1 ∧ c = c1 ++ [(20, 0)]) ∨ (T k ≠ 11 ∧ Rcm T V fee d k f k1 c)
theorem Rcm.len {d k f k1 : Nat} {c : Cd} (h : Rcm T V fee d k f k1 c) : f ≤ 6 ∧ k ≤ k1 ∧ (f = 0 → k < k1 ∧ c.length + k ≤ k1) := by
  rcases h with ⟨c1, h1, h2⟩ | ⟨c1, h1, h2, h3⟩ | ⟨k2, c1, c2, h1, h2, h3, h4⟩
  · obtain ⟨r1, r2, r3, r4⟩ := h1.len
    exact ⟨r1, r2, fun e => absurd e h2⟩
  · obtain ⟨r1, r2, r3, r4⟩ := h1.len
    exact ⟨by omega, r2, fun e => absurd e (by omega)⟩
  · obtain ⟨r1, r2, r3, r4⟩ := h1.len
    obtain ⟨s1, s2, s3, s4⟩ := h3.len
    have r3 := r3 (by decide) rfl
    have r4 := r4 rfl
    have e0 : ok1 0 = 0 := rfl
    rw [if_neg (by decide), if_pos rfl, e0] at r4
    refine ⟨s1, by omega, fun e => ?_⟩
    have s4 := s4 e
    rw [if_neg (by decide), if_pos rfl, e0] at s4
    subst h4
    rw [List.length_append, List.length_append]
    have : ([(cop (T k2), 0)] : Cd).length = 1 := rfl
    omega
theorem Ra.len : ∀ {j d k f k1 : Nat} {c : Cd}, Ra T V fee j d k f k1 c → f ≤ 6 ∧ k ≤ k1 ∧ (f = 0 → k < k1 ∧ c.length + k ≤ k1)
  | 0, d, k, f, k1, c, h => by
    rcases h with ⟨h1, h2, h3⟩ | ⟨h1, h2⟩
    · exact ⟨by omega, by omega, fun e => absurd e (by omega)⟩
    · exact h2.len
  | j + 1, d, k, f, k1, c, h => by
    rcases h with ⟨h1, c1, h2, h3⟩ | ⟨h1, h2⟩
    · obtain ⟨r1, r2, r3⟩ := Ra.len h2
      refine ⟨r1, by omega, fun e => ?_⟩
      have r3 := r3 e
      subst h3
      rw [List.length_append]
      have : ([(20, 0)] : Cd).length = 1 := rfl
      omega
    · exact h2.len
theorem Rcm.ok {d k f k1 : Nat} {c : Cd} (h : Rcm T V fee d k f k1 c) (hf : f = 0) : ∀ i ∈ c, okI fee i := by
  rcases h with ⟨c1, h1, h2⟩ | ⟨c1, h1, h2, h3⟩ | ⟨k2, c1, c2, h1, h2, h3, h4⟩
  · exact absurd hf h2
  · exact absurd hf (by omega)
  · subst h4
    intro i hi
    rw [List.mem_append, List.mem_append, List.mem_singleton] at hi
    rcases hi with (hi | hi) | hi
    · exact h1.ok i hi
    · exact h3.ok i hi
    · subst hi
      have := cop_b (T k2)
      exact okI_op (by omega) (by omega)
theorem Ra.ok : ∀ {j d k f k1 : Nat} {c : Cd}, Ra T V fee j d k f k1 c → f = 0 → ∀ i ∈ c, okI fee i
  | 0, d, k, f, k1, c, h, hf => by
    rcases h with ⟨h1, h2, h3⟩ | ⟨h1, h2⟩
    · exact absurd hf (by omega)
    · exact h2.ok hf
  | j + 1, d, k, f, k1, c, h, hf => by
    rcases h with ⟨h1, c1, h2, h3⟩ | ⟨h1, h2⟩
    · subst h3
      intro i hi
      rw [List.mem_append, List.mem_singleton] at hi
      rcases hi with hi | hi
      · exact Ra.ok h2 hf i hi
      · subst hi; exact okI_op (by decide) (by decide)
    · exact h2.ok hf
theorem tyS_cop (a : Nat) (t : List Bool) : tyS (cop a) (false :: false :: t) = some (true :: t) := by
  have : cop a = 10 ∨ cop a = 11 ∨ cop a = 12 ∨ cop a = 13 ∨ cop a = 14 ∨ cop a = 15 := by have := cop_b a; omega
  rcases this with e | e | e | e | e | e <;> rw [e] <;> rfl
theorem Rcm.ty {d k f k1 : Nat} {c : Cd} (h : Rcm T V fee d k f k1 c) (hd : d ≤ 8) (hf : f = 0) (t : List Bool) (ht : t.length ≤ 12) : tyL c t = some (true :: t) := by
  rcases h with ⟨c1, h1, h2⟩ | ⟨c1, h1, h2, h3⟩ | ⟨k2, c1, c2, h1, h2, h3, h4⟩
  · exact absurd hf h2
  · exact absurd hf (by omega)
  · subst h4
    have e1 : tyL c1 t = some (false :: t) := h1.ty hd rfl t (by rw [if_neg (by decide)]; omega)
    have e2 : tyL c2 (false :: t) = some (false :: false :: t) := h3.ty hd hf (false :: t) (by rw [if_neg (by decide)]; show t.length + 1 + _ + 2 ≤ 31; omega)
    have e3 : tyL (c1 ++ c2) t = some (false :: false :: t) := by rw [tyL_app _ _ _ _ e1]; exact e2
    rw [tyL_app _ _ _ _ e3]
    exact tyL_1 (tyS_cop (T k2) t)
theorem Ra.ty : ∀ {j d k f k1 : Nat} {c : Cd}, Ra T V fee j d k f k1 c → d + j ≤ 8 → f = 0 → ∀ t : List Bool, t.length ≤ 12 → tyL c t = some (true :: t)
  | 0, d, k, f, k1, c, h, hd, hf, t, ht => by
    rcases h with ⟨h1, h2, h3⟩ | ⟨h1, h2⟩
    · exact absurd hf (by omega)
    · exact h2.ty (by omega) hf t ht
  | j + 1, d, k, f, k1, c, h, hd, hf, t, ht => by
    rcases h with ⟨h1, c1, h2, h3⟩ | ⟨h1, h2⟩
    · subst h3
      rw [tyL_app _ _ _ _ (Ra.ty h2 (by omega) hf t ht)]
      exact tyL_1 rfl
    · exact h2.ty (by omega) hf t ht
def pb (a x : Nat) : Cd := if a = 0 then [] else [(x, 0)]
/-- q = 0: something asked is due, and (a), or (o) pending; 1: behind it -/
def ReC (T V : Nat → Nat) (fee : Nat) (P : Nat → Nat → Nat → Nat → Nat → Nat → Cd → Prop) : Prop :=
  (∀ a o k f k1 c, Ra T V fee 8 0 k f k1 c → f ≠ 0 → P 0 a o k f k1 []) ∧
  (∀ a o k k1 c f k2 c2, Ra T V fee 8 0 k 0 k1 c → P 1 0 o k1 f k2 c2 → P 0 a o k f k2 (c ++ pb a 21 ++ c2)) ∧
  (∀ o k f k1 c, T k = 10 → P 0 1 o (k + 1) f k1 c → P 1 0 o k f k1 c) ∧
  (∀ o k f k1 c, T k = 9 → P 0 0 1 (k + 1) f k1 c → P 1 0 o k f k1 (pb o 22 ++ c)) ∧
  (∀ o k, T k ≠ 10 → T k ≠ 9 → P 1 0 o k 0 k (pb o 22))
def Re (T V : Nat → Nat) (fee q a o k f k1 : Nat) (c : Cd) : Prop := ∀ P, ReC T V fee P → P q a o k f k1 c
theorem Re.rules : ReC T V fee (Re T V fee) := ⟨fun a o k f k1 c h1 h2 P h => h.1 a o k f k1 c h1 h2, fun a o k k1 c f k2 c2 h1 h2 P h => h.2.1 a o k k1 c f k2 c2 h1 (h2 P h), fun o k f k1 c h1 h2 P h => h.2.2.1 o k f k1 c h1 (h2 P h), fun o k f k1 c h1 h2 P h => h.2.2.2.1 o k f k1 c h1 (h2 P h), fun o k h1 h2 P h => h.2.2.2.2 o k h1 h2⟩
theorem pb_l {a x : Nat} : (pb a x).length = ok1 a := by
  unfold pb ok1
  split <;> rfl
theorem Re.len {q a o k f k1 : Nat} {c : Cd} (h : Re T V fee q a o k f k1 c) : f ≤ 6 ∧ k ≤ k1 ∧ (f = 0 → c.length + k ≤ k1 + (if q = 0 then ok1 a + ok1 o else ok1 o)) := by
  refine h (fun q a o k f k1 c => f ≤ 6 ∧ k ≤ k1 ∧ (f = 0 → c.length + k ≤ k1 + (if q = 0 then ok1 a + ok1 o else ok1 o))) ⟨?_, ?_, ?_, ?_, ?_⟩
  · intro a o k f k1 c h hf
    have := h.len
    exact ⟨this.1, this.2.1, fun e => absurd e hf⟩
  · intro a o k k1 c f k2 c2 h ⟨g1, g2, g3⟩
    obtain ⟨r1, r2, r3⟩ := h.len
    have r3 := r3 rfl
    refine ⟨g1, by omega, fun e => ?_⟩
    have g3 := g3 e
    rw [if_neg (by decide)] at g3
    rw [if_pos rfl, List.length_append, List.length_append, pb_l]
    omega
  · intro o k f k1 c hk ⟨g1, g2, g3⟩
    refine ⟨g1, by omega, fun e => ?_⟩
    have g3 := g3 e
    rw [if_pos rfl] at g3
    rw [if_neg (by decide)]
    have := ok1_le 1
    omega
  · intro o k f k1 c hk ⟨g1, g2, g3⟩
    refine ⟨g1, by omega, fun e => ?_⟩
    have g3 := g3 e
    rw [if_pos rfl] at g3
    rw [if_neg (by decide), List.length_append, pb_l]
    have := ok1_le 1
    have : ok1 0 = 0 := rfl
    omega
  · intro o k _ _
    refine ⟨by decide, Nat.le_refl _, fun _ => ?_⟩
    rw [if_neg (by decide), pb_l]
    omega
theorem pb_ok {a x : Nat} (h1 : 2 ≤ x) (h2 : x ≤ 22) : ∀ i ∈ pb a x, okI fee i := by
  intro i hi
  unfold pb at hi
  split at hi
  · cases hi
  · rw [List.mem_singleton] at hi; subst hi; exact okI_op h1 h2
theorem Re.ok {q a o k f k1 : Nat} {c : Cd} (h : Re T V fee q a o k f k1 c) : f = 0 → ∀ i ∈ c, okI fee i := by
  refine h (fun q a o k f k1 c => f = 0 → ∀ i ∈ c, okI fee i) ⟨?_, ?_, ?_, ?_, ?_⟩
  · intro a o k f k1 c h hf e; exact absurd e hf
  · intro a o k k1 c f k2 c2 h g e i hi
    rw [List.mem_append, List.mem_append] at hi
    rcases hi with (hi | hi) | hi
    · exact h.ok rfl i hi
    · exact pb_ok (by decide) (by decide) i hi
    · exact g e i hi
  · intro o k f k1 c hk g; exact g
  · intro o k f k1 c hk g e i hi
    rw [List.mem_append] at hi
    rcases hi with hi | hi
    · exact pb_ok (by decide) (by decide) i hi
    · exact g e i hi
  · intro o k _ _ _; exact pb_ok (by decide) (by decide)
def pbt (a : Nat) (t : List Bool) : List Bool := if a = 0 then t else true :: t
theorem tyL_pb {x : Nat} (hx : x = 21 ∨ x = 22) (a : Nat) (t : List Bool) : tyL (pb a x) (true :: pbt a t) = some (true :: t) := by
  unfold pb pbt
  split
  · rfl
  · rcases hx with e | e <;> subst e <;> rfl
theorem pbt_len (a : Nat) (t : List Bool) : (pbt a t).length ≤ t.length + 1 := by
  unfold pbt
  split
  · omega
  · show t.length + 1 ≤ _; omega
theorem Re.ty {q a o k f k1 : Nat} {c : Cd} (h : Re T V fee q a o k f k1 c) : f = 0 → ∀ t : List Bool, t.length ≤ 8 → tyL c (if q = 0 then pbt a (pbt o t) else true :: pbt o t) = some (true :: t) := by
  refine h (fun q a o k f k1 c => f = 0 → ∀ t : List Bool, t.length ≤ 8 → tyL c (if q = 0 then pbt a (pbt o t) else true :: pbt o t) = some (true :: t)) ⟨?_, ?_, ?_, ?_, ?_⟩
  · intro a o k f k1 c h hf e; exact absurd e hf
  · intro a o k k1 c f k2 c2 h g e t ht
    have l1 := pbt_len o t
    have l2 := pbt_len a (pbt o t)
    rw [if_pos rfl]
    have e1 := h.ty (by decide) rfl (pbt a (pbt o t)) (by omega)
    have e2 : tyL (c ++ pb a 21) (pbt a (pbt o t)) = some (true :: pbt o t) := by
      rw [tyL_app _ _ _ _ e1]
      exact tyL_pb (Or.inl rfl) a _
    rw [tyL_app _ _ _ _ e2]
    exact g e t ht
  · intro o k f k1 c hk g e t ht
    exact g e t ht
  · intro o k f k1 c hk g e t ht
    rw [if_neg (by decide), tyL_app _ _ _ _ (tyL_pb (Or.inr rfl) o t)]
    exact g e t ht
  · intro o k _ _ _ t _
    exact tyL_pb (Or.inr rfl) o t
end RR
section CR
variable {N : Nat} {bt : Nat → Nat} {tn m : Nat}
def C3 (N : Nat) (bt : Nat → Nat) (tn m fee j d l : Nat) : Prop := ∀ (μ : Me) (Φ : Me → Prop) k L, CKt bt tn m k L μ.1 → L.length ≤ k → μ.1 51 6 = nI fee → Rdg bt tn m (Ra (kT bt tn) (kV bt tn) fee j d k) L μ Φ → VU N l mX6_ask [.ref 51, .int (nI d)] μ Φ
theorem c_askS {fee j d l l2 : Nat} (hf : fee ≤ 1) (hd : d + j = 8) (h12 : 14 + 2 * j ≤ l) (hl : l2 + 1 = l) (ask : ∀ j', j = j' + 1 → C3 N bt tn m fee j' (d + 1) l2) : C3 N bt tn m fee j d l := by
  have sum : C2 N bt tn m fee d l2 := c_sum0 hf (by omega) (by omega)
  intro μ Φ k L h hL h6 K
  have hm := h.1.1
  have hkm := h.2.1
  have hb := kT_lt h.1.2.2.1 k
  have h5 := h.2.2.1
  have fr0 : CFr μ.1 (up2 μ.1 51 5 (nI (k + 1))) := CFr.at (by omega)
  refine tX6_ask_0 (d2 := l2) (by omega) (by omega) (c_sort h ?_)
  rw [h5]
  simp (disch := omega) only [lit, Nat.add_sub_cancel, Nat.not_lt_zero, ↓m1_mI, nI_add, pk_mul, nx_and, nx_or, and31, sh_r, sh_1, nx_nand, Nat.and_one_is_mod, nI_clamp, nI_leI, nI_ltI, nI_eq, tb_1, vp_t, up2_a, up2_b, up2_c, br_1, br_0, true_and, and_true, mI_ne, mI_ne', mI_lt, mI_le, mI_nle, mI_nlt, pk_sub, mI_sub]
  refine ⟨fun g => ⟨fun g8 => ?_, fun g8 => ?_⟩, fun g => ?_⟩
  · obtain ⟨j', hj⟩ : ∃ j', j = j' + 1 := ⟨j - 1, by omega⟩
    subst hj
    refine ask j' rfl (up2 μ.1 51 5 (nI (k + 1)), μ.2) _ (k + 1) L (h.nx (by omega)) (by omega) ((fr0.2.1 6 (by decide) (by decide) (by decide)).trans h6) (fun f k1 c I hr fr hok hno => ?_)
    by_cases ef : f = 0
    · subst ef
      obtain ⟨r1, r2, r3⟩ := hr.len
      have r3 := r3 rfl
      have hm1 := (hok rfl).2.1
      refine c_emit (o := 20) (v := 0) (μ := (I, μ.2)) (hok rfl) (by rw [List.length_append]; omega) (fun I1 fr1 hk1 => ?_)
      exact K.ok (c := c ++ [(20, 0)]) (Or.inl ⟨g, c, hr, rfl⟩) ((fr0.tr fr).tr fr1) (by rw [← List.append_assoc]; exact hk1)
    · refine c_emitF (μ := (I, μ.2)) (hno ef) (fun I1 fr1 hk1 => ?_)
      exact K.no (c := c ++ [(20, 0)]) (Or.inl ⟨g, c, hr, rfl⟩) ef ((fr0.tr fr).tr fr1) hk1
  · have : j = 0 := by omega
    subst this
    exact c_fail (f := 3) h (by decide) (by decide) (fun I fr hk => K.no (c := []) (Or.inl ⟨g, rfl, rfl⟩) (by decide) fr hk)
  · have K2 : Rdg bt tn m (Rcm (kT bt tn) (kV bt tn) fee d k) L μ Φ := by
      intro f k1 c I hr fr hok hno
      refine K f k1 c I ?_ fr hok hno
      match j with
      | 0 => exact Or.inr ⟨g, hr⟩
      | j + 1 => exact Or.inr ⟨g, hr⟩
    refine sum μ _ k L h hL h6 (fun f k1 c I hr fr hok hno => ?_)
    by_cases ef : f = 0
    · subst ef
      have hk1 := hok rfl
      have hb1 := kT_lt h.1.2.2.1 k1
      obtain ⟨r1, r2, r3, r4⟩ := hr.len
      have r3 := r3 (by decide) rfl
      have r4 := r4 rfl
      have e0 : ok1 0 = 0 := rfl
      rw [if_neg (by decide), if_pos rfl, e0] at r4
      refine c_sort (μ := (I, μ.2)) hk1 ?_
      refine vi_b (fun Ψ => c_comp (x := kT bt tn k1) (by omega)) (fun gc => ?_) (fun gc => ?_)
      · have e5 : I 51 5 = nI k1 := hk1.2.2.1
        simp (disch := omega) only [lit, Nat.add_sub_cancel, Nat.not_lt_zero, ↓m1_mI, nI_add, pk_mul, nx_and, nx_or, and31, sh_r, sh_1, nx_nand, Nat.and_one_is_mod, nI_clamp, nI_leI, nI_ltI, nI_eq, tb_1, vp_t, up2_a, up2_b, up2_c, br_1, br_0, true_and, and_true, mI_ne, mI_ne', mI_lt, mI_le, mI_nle, mI_nlt, pk_sub, mI_sub, e5]
        have fr1 : CFr I (up2 I 51 5 (nI (k1 + 1))) := CFr.at (by omega)
        have fr2 := fr.tr fr1
        refine sum (up2 I 51 5 (nI (k1 + 1)), μ.2) _ (k1 + 1) (L ++ c) (hk1.nx (by omega)) (by rw [List.length_append]; omega) ((fr2.2.1 6 (by decide) (by decide) (by decide)).trans h6) (fun f k2 c2 I2 hr2 fr3 hok2 hno2 => ?_)
        by_cases ef : f = 0
        · subst ef
          have hk2 := hok2 rfl
          have hm2 := hk2.2.1
          obtain ⟨s1, s2, s3, s4⟩ := hr2.len
          have s4 := s4 rfl
          rw [if_neg (by decide), if_pos rfl, e0] at s4
          rw [← cit_cop gc]
          refine c_emit (μ := (I2, μ.2)) hk2 (by rw [List.length_append, List.length_append]; omega) (fun I3 fr4 hk3 => ?_)
          exact K2.ok (c := c ++ c2 ++ [(cop (kT bt tn k1), 0)]) (Or.inr (Or.inr ⟨k1, c, c2, hr, gc, hr2, rfl⟩)) ((fr2.tr fr3).tr fr4) (by rw [← List.append_assoc, ← List.append_assoc]; exact hk3)
        · refine c_emitF (μ := (I2, μ.2)) (hno2 ef) (fun I3 fr4 hk3 => ?_)
          exact K2.no (c := c ++ c2 ++ [(cop (kT bt tn k1), 0)]) (Or.inr (Or.inr ⟨k1, c, c2, hr, gc, hr2, rfl⟩)) ef ((fr2.tr fr3).tr fr4) hk3
      · exact c_fail (f := 1) (μ := (I, μ.2)) hk1 (by decide) (by decide) (fun I1 fr1 hk2 => K2.no (c := []) (Or.inr (Or.inl ⟨c, hr, gc, rfl⟩)) (by decide) (fr.tr fr1) hk2)
    · refine c_sortF (μ := (I, μ.2)) (hno ef) ?_
      refine vi_b (fun Ψ => c_comp (x := 21) (by decide)) (fun gc => absurd gc (by decide)) (fun gc => ?_)
      exact c_failF (μ := (I, μ.2)) (hno ef) (K2.no (c := []) (Or.inl ⟨c, hr, ef⟩) ef fr (hno ef))
theorem c_ask {fee : Nat} (hf : fee ≤ 1) : ∀ j d l, d + j = 8 → 14 + 2 * j ≤ l → C3 N bt tn m fee j d l := by
  intro j
  induction j with
  | zero => intro d l hd hl; exact c_askS (l2 := l - 1) hf hd hl (by omega) (fun j' e => absurd e (by omega))
  | succ j ih =>
    intro d l hd hl
    refine c_askS (l2 := l - 1) hf hd hl (by omega) (fun j' e => ?_)
    have : j' = j := by omega
    subst this
    exact ih (d + 1) (l - 1) (by omega) (by omega)
end CR
