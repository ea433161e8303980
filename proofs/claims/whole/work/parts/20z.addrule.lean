/-! the class adds a rule -/
section CZ
variable {N : Nat} {bt : Nat → Nat} {tn m : Nat} {L : Cd}
def isRF (F : Nat → Nat → Nat) (k : Nat) : Bool := decide (F k 0 = 3)
def upFn (F : Nat → Nat → Nat) (n : Nat) (v : Nat → Nat) : Nat → Nat → Nat := fun k j => if k = n then v j else F k j
theorem upFn_e {F : Nat → Nat → Nat} {n : Nat} {v : Nat → Nat} {j : Nat} : upFn F n v n j = v j := if_pos rfl
theorem upFn_n {F : Nat → Nat → Nat} {n k : Nat} {v : Nat → Nat} {j : Nat} (h : k ≠ n) : upFn F n v k j = F k j := if_neg h
/-- the order of the rules: by facts, then as they stand -/
def ord (n r : Nat) (F : Nat → Nat → Nat) (od : Nat → Nat) : Prop := (∀ i, i < r → od i < n ∧ F (od i) 0 = 3) ∧ (∀ i j, i < j → j < r → F (od i) 1 < F (od j) 1 ∨ (F (od i) 1 = F (od j) 1 ∧ od i < od j)) ∧ ∀ k, k < n → F k 0 = 3 → ∃ i, i < r ∧ od i = k
/-- the class's law, of n clauses -/
def LHb (n : Nat) (F : Nat → Nat → Nat) (I : Nat → Nat → Int32) : Prop :=
  I 57 2 = nI (cnt n (isRF F)) ∧
  (∀ k, k < n → F k 0 < 3 → F k 1 ≤ 300 ∧ I 59 (F k 0) = nI (F k 1) ∧ I 60 (F k 0) = nI (F k 2)) ∧
  (∀ s, s < 3 → (∀ k, k < n → F k 0 ≠ s) → I 59 s = mI) ∧
  (∀ k, k < n → F k 0 = 3 → F k 1 < 16 ∧ I 62 k = nI (F k 1) ∧ I 63 k = nI (F k 2) ∧ I 64 k = nI (F k 3) ∧ I 65 k = nI (F k 4) ∧ I 66 k = nI (F k 5)) ∧
  (∀ k, k < 16 → ¬ (k < n ∧ F k 0 = 3) → I 65 k = nI 0 ∧ I 66 k = nI 0) ∧
  ∃ od : Nat → Nat, (∀ i, i < cnt n (isRF F) → I 61 i = nI (od i)) ∧ ord n (cnt n (isRF F)) F od
theorem cnt_leN (n : Nat) (p : Nat → Bool) : cnt n p ≤ n := by
  induction n with
  | zero => exact Nat.le_refl _
  | succ n ih =>
    show cnt n p + (if p n = true then 1 else 0) ≤ n + 1
    split <;> omega
theorem cnt_up {n : Nat} {F : Nat → Nat → Nat} {v : Nat → Nat} : cnt n (isRF (upFn F n v)) = cnt n (isRF F) := by
  have : ∀ j, j ≤ n → cnt j (isRF (upFn F n v)) = cnt j (isRF F) := by
    intro j
    induction j with
    | zero => intro _; rfl
    | succ j ih =>
      intro hj
      show cnt j _ + _ = cnt j _ + _
      rw [ih (by omega)]
      have : isRF (upFn F n v) j = isRF F j := by unfold isRF; rw [upFn_n (by omega)]
      rw [this]
  exact this n (Nat.le_refl _)
/-- where the new one goes -/
def odI (od : Nat → Nat) (q n : Nat) : Nat → Nat := fun i => if i < q then od i else if i = q then n else od (i - 1)
theorem ord_ins {n r q : Nat} {F : Nat → Nat → Nat} {od v : Nat → Nat} (h : ord n r F od) (hq : q ≤ r) (h0 : v 0 = 3) (h1 : ∀ i, i < q → F (od i) 1 ≤ v 1) (h2 : ∀ i, q ≤ i → i < r → v 1 < F (od i) 1) : ord (n + 1) (r + 1) (upFn F n v) (odI od q n) := by
  obtain ⟨o1, o2, o3⟩ := h
  have ne : ∀ i, i < r → od i ≠ n := fun i hi => by have := (o1 i hi).1; omega
  have lo : ∀ i, i < q → odI od q n i = od i := fun i hi => if_pos hi
  have eq : odI od q n q = n := by unfold odI; rw [if_neg (Nat.lt_irrefl q), if_pos rfl]
  have hi : ∀ i, q < i → odI od q n i = od (i - 1) := fun i h => by unfold odI; rw [if_neg (by omega), if_neg (by omega)]
  refine ⟨fun i hi' => ?_, fun i j hij hj => ?_, fun k hk h3 => ?_⟩
  · rcases Nat.lt_trichotomy i q with g | g | g
    · rw [lo i g, upFn_n (ne i (by omega))]
      have := o1 i (by omega)
      exact ⟨by omega, this.2⟩
    · rw [g, eq, upFn_e]
      exact ⟨by omega, h0⟩
    · rw [hi i g, upFn_n (ne (i - 1) (by omega))]
      have := o1 (i - 1) (by omega)
      exact ⟨by omega, this.2⟩
  · rcases Nat.lt_trichotomy i q with g | g | g
    · rw [lo i g, upFn_n (ne i (by omega))]
      rcases Nat.lt_trichotomy j q with g2 | g2 | g2
      · rw [lo j g2, upFn_n (ne j (by omega))]
        exact o2 i j hij (by omega)
      · rw [g2, eq, upFn_e]
        have a1 := h1 i g
        have a2 := (o1 i (by omega)).1
        omega
      · rw [hi j g2, upFn_n (ne (j - 1) (by omega))]
        exact o2 i (j - 1) (by omega) (by omega)
    · rw [g, eq, upFn_e, hi j (by omega), upFn_n (ne (j - 1) (by omega))]
      exact Or.inl (h2 (j - 1) (by omega) (by omega))
    · rw [hi i g, hi j (by omega), upFn_n (ne (i - 1) (by omega)), upFn_n (ne (j - 1) (by omega))]
      exact o2 (i - 1) (j - 1) (by omega) (by omega)
  · by_cases e : k = n
    · exact ⟨q, by omega, by rw [eq, e]⟩
    · rw [upFn_n e] at h3
      obtain ⟨i, i1, i2⟩ := o3 k (by omega) h3
      by_cases g : i < q
      · exact ⟨i, by omega, by rw [lo i g, i2]⟩
      · exact ⟨i + 1, by omega, by rw [hi (i + 1) (by omega)]; exact i2⟩
/-- the loop that finds its place -/
theorem c_add91 {n r a : Nat} {F : Nat → Nat → Nat} {od : Nat → Nat} {I0 : Nat → Nat → Int32} {lg : Nat → Nat → Int64} {Φ : Me → Prop} (hn : n < 16) (hr : r ≤ n) (ha : a < 16) (ho : ord n r F od) (hF : ∀ i, i < r → F (od i) 1 < 16 ∧ I0 62 (od i) = nI (F (od i) 1)) (h1 : I0 57 1 = nI n) (h2 : I0 57 2 = nI r) (K : ∀ q I, q ≤ r → (∀ i, i < q → F (od i) 1 ≤ a) → (∀ i, q ≤ i → i < r → a < F (od i) 1) → (∀ c, c ≠ 61 → c ≠ 57 → I c = I0 c) → (∀ b, b ≠ 2 → I 57 b = I0 57 b) → I 57 2 = nI (r + 1) → (∀ i, i ≤ r → I 61 i = nI (odI od q n i)) → Φ (I, lg)) : ∀ q I, q ≤ r → (∀ i, q ≤ i → i < r → a < F (od i) 1) → (∀ c, c ≠ 61 → I c = I0 c) → (∀ i, i < q → I 61 i = nI (od i)) → (∀ i, q < i → i ≤ r → I 61 i = nI (od (i - 1))) → VB N 1 mX5_addRule 91 [.ref 57, .int (nI a), .null, .null, .null, .null, .int (nI q)] [] (I, lg) (fun r μ' => r = none ∧ Φ μ') := by
  intro q
  have fin : ∀ q I, q ≤ r → (∀ i, i < q → F (od i) 1 ≤ a) → (∀ i, q ≤ i → i < r → a < F (od i) 1) → (∀ c, c ≠ 61 → I c = I0 c) → (∀ i, i < q → I 61 i = nI (od i)) → (∀ i, q < i → i ≤ r → I 61 i = nI (od (i - 1))) → Φ (up2 (up2 I 61 q (nI n)) 57 2 (nI (r + 1)), lg) := by
    intro q I hq hlo hhi hc hl hh
    refine K q _ hq hlo hhi (fun c c1 c2 => by rw [up2_ne c2, up2_ne c1]; exact hc c c1) (fun b hb => by rw [up2_b hb, up2_a (by decide), hc 57 (by decide)]) up2_c (fun i hi => ?_)
    rw [up2_a (by decide)]
    unfold odI
    rcases Nat.lt_trichotomy i q with g | g | g
    · rw [if_pos g, up2_b (by omega)]; exact hl i g
    · rw [if_neg (by omega), if_pos g, g, up2_c]
    · rw [if_neg (by omega), if_neg (by omega), up2_b (by omega)]; exact hh i g hi
  induction q with
  | zero =>
    intro I hq hhi hc hl hh
    have f0 := fin 0 I hq (fun i hi => absurd hi (by omega)) hhi hc hl hh
    have e1 : I 57 1 = nI n := by rw [hc 57 (by decide)]; exact h1
    have e2 : I 57 2 = nI r := by rw [hc 57 (by decide)]; exact h2
    refine tX5_addRule_91 ?_
    simp (disch := omega) only [lit, Nat.add_sub_cancel, Nat.not_lt_zero, ↓m1_mI, nI_add, pk_mul, nx_and, nx_or, and31, sh_r, sh_1, nx_nand, Nat.and_one_is_mod, nI_clamp, nI_leI, nI_ltI, nI_eq, tb_1, vp_t, up2_a, up2_b, up2_c, br_1, br_0, true_and, and_true, mI_ne, mI_ne', mI_lt, mI_le, mI_nle, mI_nlt, pk_sub, mI_sub, eq_true (Nat.le_refl 0), e1, e2]
    exact f0
  | succ q ih =>
    intro I hq hhi hc hl hh
    have e1 : I 57 1 = nI n := by rw [hc 57 (by decide)]; exact h1
    have e2 : I 57 2 = nI r := by rw [hc 57 (by decide)]; exact h2
    have e61 : I 61 q = nI (od q) := hl q (by omega)
    have oq := (ho.1 q (by omega)).1
    have fq := hF q (by omega)
    have e62 : I 62 (od q) = nI (F (od q) 1) := by rw [hc 62 (by decide)]; exact fq.2
    refine tX5_addRule_91 ?_
    simp (disch := omega) only [lit, Nat.add_sub_cancel, Nat.not_lt_zero, ↓m1_mI, nI_add, pk_mul, nx_and, nx_or, and31, sh_r, sh_1, nx_nand, Nat.and_one_is_mod, nI_clamp, nI_leI, nI_ltI, nI_eq, tb_1, vp_t, up2_a, up2_b, up2_c, br_1, br_0, true_and, and_true, mI_ne, mI_ne', mI_lt, mI_le, mI_nle, mI_nlt, pk_sub, mI_sub, eq_false (show ¬ q + 1 ≤ 0 by omega), e1, e2, e61, e62]
    refine ⟨fun g => ?_, fun g => ?_⟩
    · refine fin (q + 1) I hq (fun i hi => ?_) hhi hc hl hh
      by_cases e : i = q
      · rw [e]; exact g
      · have := ho.2.1 i q (by omega) (by omega)
        omega
    · refine ih (up2 I 61 (q + 1) (nI (od q))) (by omega) (fun i i1 i2 => ?_) (fun c c1 => by rw [up2_ne c1]; exact hc c c1) (fun i hi => by rw [up2_b (by omega)]; exact hl i (by omega)) (fun i i1 i2 => ?_)
      · by_cases e : i = q
        · rw [e]; omega
        · exact hhi i (by omega) i2
      · by_cases e : i = q + 1
        · rw [e, up2_c, Nat.add_sub_cancel]
        · rw [up2_b e]; exact hh i (by omega) i2
theorem c_addRule {n : Nat} {F : Nat → Nat → Nat} {v : Nat → Nat} {μ : Me} {Φ : Me → Prop} (hn : n < 16) (h : LHb n F μ.1) (h1 : μ.1 57 1 = nI n) (h0 : v 0 = 3) (hv : v 1 < 16) (K : ∀ I, (∀ c, c ≠ 57 → c < 61 ∨ 66 < c → I c = μ.1 c) → (∀ b, b ≠ 2 → I 57 b = μ.1 57 b) → LHb (n + 1) (upFn F n v) I → Φ (I, μ.2)) : VU N 1 mX5_addRule [.ref 57, .int (nI (v 1)), .int (nI (v 2)), .int (nI (v 3)), .int (nI (v 4)), .int (nI (v 5))] μ Φ := by
  obtain ⟨l1, l2, l3, l4, l5, od, l6, l7⟩ := h
  have hr := cnt_leN n (isRF F)
  refine tX5_addRule_0 ?_
  rw [h1, l1]
  simp (disch := omega) only [lit, Nat.add_sub_cancel, Nat.not_lt_zero, ↓m1_mI, nI_add, pk_mul, nx_and, nx_or, and31, sh_r, sh_1, nx_nand, Nat.and_one_is_mod, nI_clamp, nI_leI, nI_ltI, nI_eq, tb_1, vp_t, up2_a, up2_b, up2_c, br_1, br_0, true_and, and_true, mI_ne, mI_ne', mI_lt, mI_le, mI_nle, mI_nlt, pk_sub, mI_sub, eq_false (show ¬ 16 ≤ n by omega), eq_true (show cnt n (isRF F) < 16 by omega)]
  have ec : ∀ c, c ≠ 62 → c ≠ 63 → c ≠ 64 → c ≠ 65 → c ≠ 66 → (up2 (up2 (up2 (up2 (up2 μ.1 62 n (nI (v 1))) 63 n (nI (v 2))) 64 n (nI (v 3))) 65 n (nI (v 4))) 66 n (nI (v 5))) c = μ.1 c := fun c a1 a2 a3 a4 a5 => by rw [up2_ne a5, up2_ne a4, up2_ne a3, up2_ne a2, up2_ne a1]
  have e62 : ∀ k, (up2 (up2 (up2 (up2 (up2 μ.1 62 n (nI (v 1))) 63 n (nI (v 2))) 64 n (nI (v 3))) 65 n (nI (v 4))) 66 n (nI (v 5))) 62 k = (if k = n then nI (v 1) else μ.1 62 k) := fun k => by
    rw [up2_a (by decide), up2_a (by decide), up2_a (by decide), up2_a (by decide)]
    by_cases e : k = n
    · rw [if_pos e, e, up2_c]
    · rw [if_neg e, up2_b e]
  have e63 : ∀ k, (up2 (up2 (up2 (up2 (up2 μ.1 62 n (nI (v 1))) 63 n (nI (v 2))) 64 n (nI (v 3))) 65 n (nI (v 4))) 66 n (nI (v 5))) 63 k = (if k = n then nI (v 2) else μ.1 63 k) := fun k => by
    rw [up2_a (by decide), up2_a (by decide), up2_a (by decide)]
    by_cases e : k = n
    · rw [if_pos e, e, up2_c]
    · rw [if_neg e, up2_b e, up2_a (by decide)]
  have e64 : ∀ k, (up2 (up2 (up2 (up2 (up2 μ.1 62 n (nI (v 1))) 63 n (nI (v 2))) 64 n (nI (v 3))) 65 n (nI (v 4))) 66 n (nI (v 5))) 64 k = (if k = n then nI (v 3) else μ.1 64 k) := fun k => by
    rw [up2_a (by decide), up2_a (by decide)]
    by_cases e : k = n
    · rw [if_pos e, e, up2_c]
    · rw [if_neg e, up2_b e, up2_a (by decide), up2_a (by decide)]
  have e65 : ∀ k, (up2 (up2 (up2 (up2 (up2 μ.1 62 n (nI (v 1))) 63 n (nI (v 2))) 64 n (nI (v 3))) 65 n (nI (v 4))) 66 n (nI (v 5))) 65 k = (if k = n then nI (v 4) else μ.1 65 k) := fun k => by
    rw [up2_a (by decide)]
    by_cases e : k = n
    · rw [if_pos e, e, up2_c]
    · rw [if_neg e, up2_b e, up2_a (by decide), up2_a (by decide), up2_a (by decide)]
  have e66 : ∀ k, (up2 (up2 (up2 (up2 (up2 μ.1 62 n (nI (v 1))) 63 n (nI (v 2))) 64 n (nI (v 3))) 65 n (nI (v 4))) 66 n (nI (v 5))) 66 k = (if k = n then nI (v 5) else μ.1 66 k) := fun k => by
    by_cases e : k = n
    · rw [if_pos e, e, up2_c]
    · rw [if_neg e, up2_b e, up2_a (by decide), up2_a (by decide), up2_a (by decide), up2_a (by decide)]
  generalize (up2 (up2 (up2 (up2 (up2 μ.1 62 n (nI (v 1))) 63 n (nI (v 2))) 64 n (nI (v 3))) 65 n (nI (v 4))) 66 n (nI (v 5))) = J at *
  have j61 := ec 61 (by decide) (by decide) (by decide) (by decide) (by decide)
  have j57 := ec 57 (by decide) (by decide) (by decide) (by decide) (by decide)
  have hR : isRF (upFn F n v) n = true := by unfold isRF; rw [upFn_e, h0]; rfl
  have ecn : cnt (n + 1) (isRF (upFn F n v)) = cnt n (isRF F) + 1 := by
    show cnt n _ + (if isRF (upFn F n v) n = true then 1 else 0) = _
    rw [if_pos hR, cnt_up]
  refine c_add91 (n := n) (r := cnt n (isRF F)) (F := F) (od := od) (I0 := J) hn hr hv l7 (fun i hi => ?_) (by rw [j57]; exact h1) (by rw [j57]; exact l1) (fun q I hq hlo hhi hc hb h2 h61 => K I (fun c c1 c2 => ?_) (fun b hb1 => ?_) ?_) _ J (Nat.le_refl _) (fun i i1 i2 => absurd i2 (by omega)) (fun _ _ => rfl) (fun i hi => by rw [j61]; exact l6 i hi) (fun i i1 i2 => absurd i2 (by omega))
  · have q1 := l7.1 i hi
    have q2 := l4 (od i) q1.1 q1.2
    exact ⟨q2.1, by rw [e62, if_neg (by omega)]; exact q2.2.1⟩
  · rw [hc c (by omega) c1]; exact ec c (by omega) (by omega) (by omega) (by omega) (by omega)
  · rw [hb b hb1, j57]
  · refine ⟨by rw [ecn]; exact h2, fun k hk hs => ?_, fun s hs hk => ?_, fun k hk hs => ?_, fun k hk hs => ?_, odI od q n, fun i hi => ?_, ?_⟩
    · have e : k ≠ n := fun e => by rw [e, upFn_e] at hs; omega
      rw [upFn_n e] at hs ⊢
      rw [upFn_n e, upFn_n e, hc 59 (by decide) (by decide), hc 60 (by decide) (by decide), ec 59 (by decide) (by decide) (by decide) (by decide) (by decide), ec 60 (by decide) (by decide) (by decide) (by decide) (by decide)]
      exact l2 k (by omega) hs
    · rw [hc 59 (by decide) (by decide), ec 59 (by decide) (by decide) (by decide) (by decide) (by decide)]
      refine l3 s hs (fun k hk2 => ?_)
      have := hk k (by omega)
      rw [upFn_n (by omega)] at this
      exact this
    · rw [hc 62 (by decide) (by decide), hc 63 (by decide) (by decide), hc 64 (by decide) (by decide), hc 65 (by decide) (by decide), hc 66 (by decide) (by decide), e62, e63, e64, e65, e66]
      by_cases e : k = n
      · rw [e, upFn_e, upFn_e, upFn_e, upFn_e, upFn_e, if_pos rfl, if_pos rfl, if_pos rfl, if_pos rfl, if_pos rfl]
        exact ⟨hv, rfl, rfl, rfl, rfl, rfl⟩
      · rw [upFn_n e] at hs
        rw [upFn_n e, upFn_n e, upFn_n e, upFn_n e, upFn_n e, if_neg e, if_neg e, if_neg e, if_neg e, if_neg e]
        exact l4 k (by omega) hs
    · have e : k ≠ n := fun e => hs ⟨by omega, by rw [e, upFn_e]; exact h0⟩
      rw [hc 65 (by decide) (by decide), hc 66 (by decide) (by decide), e65, e66, if_neg e, if_neg e]
      refine l5 k hk (fun z => hs ⟨by omega, ?_⟩)
      rw [upFn_n e]; exact z.2
    · rw [ecn] at hi
      exact h61 i (by omega)
    · rw [ecn]
      exact ord_ins l7 hq h0 hlo hhi
end CZ
