/-! a code reckoned by the reference -/
section EW
variable {N : Nat} {μ : Me} {B T : Nat → Nat} {nm : Nat → Int}
def nF (t : List Bool) : Nat := match t with
  | [] => 0
  | b :: t => if b = true then nF t else nF t + 1
def nT (t : List Bool) : Nat := match t with
  | [] => 0
  | b :: t => if b = true then nT t + 1 else nT t
theorem nFT (t : List Bool) : nF t + nT t = t.length := by
  induction t with
  | nil => rfl
  | cons b t ih =>
    cases b
    · show nF t + 1 + nT t = t.length + 1
      omega
    · show nF t + (nT t + 1) = t.length + 1
      omega
def z32 (x : Int) : Int32 := if x = 0 then 0 else 1
def mt (V : Nat → Int64) (R : Nat → Int32) (t : List Bool) (s : List Int) : Prop := match t, s with
  | [], [] => True
  | b :: t, x :: s => (if b = true then R (nT t) = z32 x else (V (nF t)).toInt = x) ∧ mt V R t s
  | _, _ => False
theorem mt_fr {V V' : Nat → Int64} {R R' : Nat → Int32} : ∀ {t : List Bool} {s : List Int}, mt V R t s → (∀ j, j < nF t → V' j = V j) → (∀ j, j < nT t → R' j = R j) → mt V' R' t s := by
  intro t
  induction t with
  | nil => intro s h _ _; cases s with
    | nil => trivial
    | cons x s => exact h.elim
  | cons b t ih =>
    intro s h hV hR
    cases s with
    | nil => exact h.elim
    | cons x s =>
      cases b
      · refine ⟨?_, ih h.2 (fun j hj => hV j (Nat.lt_succ_of_lt hj)) (fun j hj => hR j hj)⟩
        have h1 : (V (nF t)).toInt = x := h.1
        show (V' (nF t)).toInt = x
        rw [hV (nF t) (Nat.lt_succ_self _)]
        exact h1
      · refine ⟨?_, ih h.2 (fun j hj => hV j hj) (fun j hj => hR j (Nat.lt_succ_of_lt hj))⟩
        have h1 : R (nT t) = z32 x := h.1
        show R' (nT t) = z32 x
        rw [hR (nT t) (Nat.lt_succ_self _)]
        exact h1
theorem z32_0 {x : Int} : z32 x = 0 ↔ x = 0 := by
  unfold z32
  by_cases h : x = 0
  · rw [if_pos h]; exact ⟨fun _ => h, fun _ => rfl⟩
  · rw [if_neg h]; exact ⟨fun e => absurd e (by decide), fun e => absurd e h⟩
theorem b32_z (b : Bool) : b32 b = z32 (b2 b) := by cases b <;> decide
theorem r_work {k : Nat} {Ψ : Me → Prop} (hB : rowB B (μ.1 131)) (hW : WB B) (hT : RuL B T μ.1) (wT : WT T) (hk : k < T 0) (h3 : fl T k 0 ≠ 3) (hnm : ∀ i, fl T k 1 ≤ i → i < fl T k 2 → T (150 + 2 * i) = 1 → (μ.1 136 (T (150 + 2 * i + 1))).toInt = nm (T (150 + 2 * i + 1)) ∧ smI (nm (T (150 + 2 * i + 1)))) (K : ∀ μ' : Me, Ag [138] μ.1 μ'.1 → (fl T k 0 = 0 → (μ'.2 137 0).toInt = valP T nm k ∧ smI (valP T nm k)) → (fl T k 0 ≠ 0 → μ'.1 138 0 = z32 (valP T nm k)) → Ψ μ') : VU N 3 mX12_work [.ref 130, .int (nI k)] μ Ψ := by
  obtain ⟨h3', f12, f300, hty0, hit⟩ := wT.2.2.2 k hk h3
  have hn := hW.n
  have h4 := hT.pos hk
  have h16 := wT.1.2
  have hca := ca_lt hW (show k < 16 by omega)
  have hfl := hT.f h4
  have h40 : 0 < B 4 := by omega
  have b1 : fl T k 1 < 65536 := wT.1.1 _
  refine tX12_work_0 (r_clauseAt hB hW h4 ?_)
  rw [hB.2, n1_eq h40]
  simp (disch := omega) only [lit, Nat.add_sub_cancel, Nat.not_lt_zero, ↓m1_mI, nI_add, pk_mul, nx_and, nx_or, and31, sh_r, sh_1, nx_nand, Nat.and_one_is_mod, nI_clamp, nI_leI, nI_ltI, nI_eq, tb_1, vp_t, up2_a, up2_b, up2_c, br_1, br_0, true_and, and_true, mI_ne, mI_ne', mI_lt, mI_le, mI_nle, mI_nlt, pk_sub, mI_sub, hfl]
  have Z := vb_wf (N := N) (d := 3) (M := mX12_work) (hd := 37) (Ψ := fun r μ' => r = none ∧ Ψ μ') (τ := Nat × List Bool × List Int × Me) (fun x => [.ref 130, .null, .int (nI (ca B k)), .int (nI (750 * (B 4 - 1) + 150)), .int (nI (nF x.2.1)), .int (nI (nT x.2.1)), .int (nI x.1)]) (fun x => x.2.2.2) (fun x => fl T k 2 - x.1) (fun x => fl T k 1 ≤ x.1 ∧ x.1 ≤ fl T k 2 ∧ tyR T (fl T k 2 - x.1) x.1 x.2.1 = some [decide (fl T k 0 ≠ 0)] ∧ okE x.2.1 x.2.2.1 ∧ mt (x.2.2.2.2 137) (x.2.2.2.1 138) x.2.1 x.2.2.1 ∧ Ag [138] μ.1 x.2.2.2.1 ∧ evR T nm (fl T k 2 - x.1) x.1 x.2.2.1 = evR T nm (fl T k 2 - fl T k 1) (fl T k 1) [] ∧ x.2.1.length ≤ 32) ?_ (fl T k 1, [], [], μ) ⟨Nat.le_refl _, f12, hty0, trivial, trivial, Ag.rf, rfl, Nat.zero_le 32⟩
  · exact Z
  · rintro ⟨i, t, s, ν⟩ ⟨hi1, hi2, hty, hok, hmt, hA, hev, h32⟩ K'
    dsimp only at hi1 hi2 hty hok hmt hA hev h32 K' ⊢
    have hft := nFT t
    have hfl' : ∀ k j, ν.1 133 (ca B k + j) = nI (fl T k j) := by rw [hA 133 (by decide)]; exact hfl
    refine tX12_work_37 ?_
    by_cases he : i = fl T k 2
    · subst he
      rw [Nat.sub_self] at hty hev
      cases hty
      match s, hok with
      | [x], hok =>
        simp (disch := omega) only [lit, Nat.add_sub_cancel, Nat.not_lt_zero, ↓m1_mI, nI_add, pk_mul, nx_and, nx_or, and31, sh_r, sh_1, nx_nand, Nat.and_one_is_mod, nI_clamp, nI_leI, nI_ltI, nI_eq, tb_1, vp_t, up2_a, up2_b, up2_c, br_1, br_0, true_and, and_true, mI_ne, mI_ne', mI_lt, mI_le, mI_nle, mI_nlt, pk_sub, mI_sub, hfl', Nat.le_refl]
        have hvx : valP T nm k = x := by unfold valP; rw [← hev]; rfl
        refine K _ hA (fun e => ?_) (fun e => ?_)
        · have e2 : decide (fl T k 0 ≠ 0) = false := by simp [e]
          rw [e2] at hmt
          rw [hvx]
          exact ⟨hmt.1, hok.1.1, hok.1.2.1⟩
        · have e2 : decide (fl T k 0 ≠ 0) = true := by simp [e]
          rw [e2] at hmt
          rw [hvx]
          exact hmt.1
    · have hlt : i < fl T k 2 := by omega
      have g1 : ¬ fl T k 2 ≤ i := by omega
      have hc0 : ν.1 133 (750 * (B 4 - 1) + 150 + 2 * i) = nI (T (150 + 2 * i)) := by
        rw [hA 133 (by decide), ← hT.2 h4 (150 + 2 * i), Nat.add_assoc]
      have hc1 : ν.1 133 (750 * (B 4 - 1) + 150 + 2 * i + 1) = nI (T (150 + 2 * i + 1)) := by
        rw [hA 133 (by decide), show 750 * (B 4 - 1) + 150 + 2 * i + 1 = 750 * (B 4 - 1) + (150 + 2 * i + 1) by omega]
        exact hT.2 h4 _
      obtain ⟨n, hn⟩ : ∃ n, fl T k 2 - i = n + 1 := ⟨fl T k 2 - i - 1, by omega⟩
      have hn' : fl T k 2 - (i + 1) = n := by omega
      rw [hn] at hty hev
      obtain ⟨t', ht', hty'⟩ := tyR_s hty
      have hit' := hit i hi1 hlt
      have hnm' := hnm i hi1 hlt
      have hok' := okE_step (nm := nm) (v := T (150 + 2 * i + 1)) ht' hok hit'.1 (fun h => (hnm' h).2)
      have fin : ∀ ν' : Me, mt (ν'.2 137) (ν'.1 138) t' (evS nm (T (150 + 2 * i)) (T (150 + 2 * i + 1)) s) → Ag [138] μ.1 ν'.1 → VB N 3 mX12_work 37 [.ref 130, .null, .int (nI (ca B k)), .int (nI (750 * (B 4 - 1) + 150)), .int (nI (nF t')), .int (nI (nT t')), .int (nI (i + 1))] [] ν' (fun r μ' => r = none ∧ Ψ μ') := by
        intro ν' q1 q2
        exact K' (i + 1, t', evS nm (T (150 + 2 * i)) (T (150 + 2 * i + 1)) s, ν') ⟨by omega, by omega, by rw [hn']; exact hty', hok', q1, q2, by rw [hn']; exact hev, tyS_len ht' h32⟩ (by omega)
      have hb1 : T (150 + 2 * i + 1) < 65536 := wT.1.1 _
      clear K' hev hty hty' hok'
      generalize hoe : T (150 + 2 * i) = o at *
      generalize hve : T (150 + 2 * i + 1) = v at *
      rcases tyS_c ht' with ⟨ho, hl32, rfl⟩ | ⟨rfl, q, rfl, rfl⟩ | ⟨rfl, q, rfl, rfl⟩ | ⟨ho, q, rfl, rfl⟩ | ⟨ho, q, rfl, rfl⟩ | ⟨ho, q, rfl, rfl⟩
      · rcases ho with rfl | rfl
        · simp (disch := omega) only [lit, Nat.add_sub_cancel, Nat.not_lt_zero, ↓m1_mI, nI_add, pk_mul, nx_and, nx_or, and31, sh_r, sh_1, nx_nand, Nat.and_one_is_mod, nI_clamp, nI_leI, nI_ltI, nI_eq, tb_1, vp_t, up2_a, up2_b, up2_c, br_1, br_0, true_and, and_true, mI_ne, mI_ne', mI_lt, mI_le, mI_nle, mI_nlt, pk_sub, mI_sub, hfl', hc0, hc1, eq_false g1, show (1 < 0) = False from eq_false (by decide)]
          refine fin _ ⟨?_, mt_fr hmt (fun j hj => ?_) (fun j _ => rfl)⟩ hA
          · show (up2 ν.2 137 (nF t) (Int32.toInt64 (nI v)) 137 (nF t)).toInt = _
            rw [up2_c, Int32.toInt_toInt64, nI_toInt (by omega)]
          · simp (disch := omega) only [up2_b]
        · have g7 := hit'.2 rfl
          simp (disch := omega) only [lit, Nat.add_sub_cancel, Nat.not_lt_zero, ↓m1_mI, nI_add, pk_mul, nx_and, nx_or, and31, sh_r, sh_1, nx_nand, Nat.and_one_is_mod, nI_clamp, nI_leI, nI_ltI, nI_eq, tb_1, vp_t, up2_a, up2_b, up2_c, br_1, br_0, true_and, and_true, mI_ne, mI_ne', mI_lt, mI_le, mI_nle, mI_nlt, pk_sub, mI_sub, hfl', hc0, hc1, eq_false g1, show (1 < 1) = False from eq_false (by decide), show (1 = 0) = False from eq_false (by decide)]
          refine fin _ ⟨?_, mt_fr hmt (fun j hj => ?_) (fun j _ => rfl)⟩ hA
          · show (up2 ν.2 137 (nF t) (Int32.toInt64 (ν.1 136 v)) 137 (nF t)).toInt = _
            rw [up2_c, Int32.toInt_toInt64, hA 136 (by decide)]
            exact (hnm' rfl).1
          · simp (disch := omega) only [up2_b]
      · match s, hok with
        | x :: s, hok =>
          have hVx : (ν.2 137 (nF q)).toInt = x := hmt.1
          have eF : nF (false :: q) = nF q + 1 := rfl
          have eT : nT (false :: q) = nT q := rfl
          simp only [List.length_cons] at h32
          rw [eF, eT] at hft fin ⊢
          simp only [List.length_cons] at hft
          simp (disch := omega) only [lit, Nat.add_sub_cancel, Nat.not_lt_zero, ↓m1_mI, nI_add, pk_mul, nx_and, nx_or, and31, sh_r, sh_1, nx_nand, Nat.and_one_is_mod, nI_clamp, nI_leI, nI_ltI, nI_eq, tb_1, vp_t, up2_a, up2_b, up2_c, br_1, br_0, true_and, and_true, mI_ne, mI_ne', mI_lt, mI_le, mI_nle, mI_nlt, pk_sub, mI_sub, hfl', hc0, hc1, eq_false g1, show (1 < 2) = True from eq_true (by decide)]
          refine fin _ ⟨?_, mt_fr hmt.2 (fun j hj => ?_) (fun j _ => rfl)⟩ hA
          · show (up2 ν.2 137 (nF q) (-(ν.2 137 (nF q))) 137 (nF q)).toInt = -x
            rw [up2_c, ne_L (by rw [hVx]; exact ⟨hok.1.1, hok.1.2.1⟩), hVx]
          · simp (disch := omega) only [up2_b]
      · match s, hok with
        | x :: s, hok =>
          have hVx : ν.1 138 (nT q) = z32 x := hmt.1
          have eF : nF (true :: q) = nF q := rfl
          have eT : nT (true :: q) = nT q + 1 := rfl
          simp only [List.length_cons] at h32
          rw [eF, eT] at hft fin ⊢
          simp only [List.length_cons] at hft
          simp (disch := omega) only [lit, Nat.add_sub_cancel, Nat.not_lt_zero, ↓m1_mI, nI_add, pk_mul, nx_and, nx_or, and31, sh_r, sh_1, nx_nand, Nat.and_one_is_mod, nI_clamp, nI_leI, nI_ltI, nI_eq, tb_1, vp_t, up2_a, up2_b, up2_c, br_1, br_0, true_and, and_true, mI_ne, mI_ne', mI_lt, mI_le, mI_nle, mI_nlt, pk_sub, mI_sub, hfl', hc0, hc1, eq_false g1, show (1 < 20) = True from eq_true (by decide), show (20 = 2) = False from eq_false (by decide), show (10 ≤ 20) = True from eq_true (by decide), Nat.le_refl]
          rw [hVx]
          refine ⟨fun e => fin _ ⟨?_, mt_fr hmt.2 (fun j _ => rfl) (fun j hj => ?_)⟩ (hA.up (by decide)), fun e => fin _ ⟨?_, mt_fr hmt.2 (fun j _ => rfl) (fun j hj => ?_)⟩ (hA.up (by decide))⟩
          · have e0 := z32_0.mp e
            show up2 ν.1 138 (nT q) (nI 1) 138 (nT q) = z32 (if x = 0 then 1 else 0)
            rw [up2_c, if_pos e0]; rfl
          · simp (disch := omega) only [up2_b]
          · have e0 : ¬ x = 0 := fun h => e (z32_0.mpr h)
            show up2 ν.1 138 (nT q) (nI 0) 138 (nT q) = z32 (if x = 0 then 1 else 0)
            rw [up2_c, if_neg e0]; rfl
          · simp (disch := omega) only [up2_b]
      · match s, hok with
        | x :: z :: s, hok =>
          have hVx : (ν.2 137 (nF q + 1)).toInt = x := hmt.1
          have hVz : (ν.2 137 (nF q)).toInt = z := hmt.2.1
          have eF : nF (false :: false :: q) = nF q + 1 + 1 := rfl
          have eT : nT (false :: false :: q) = nT q := rfl
          have eF' : nF (false :: q) = nF q + 1 := rfl
          have eT' : nT (false :: q) = nT q := rfl
          have o' : o ≠ 0 ∧ o ≠ 1 ∧ o ≠ 2 ∧ o ≠ 20 ∧ o < 10 ∧ 1 < o := by omega
          have o6 : o ≤ 6 := by omega
          simp only [List.length_cons] at h32
          rw [eF, eT] at hft ⊢
          rw [eF', eT', evS_b o'.1 o'.2.1 o'.2.2.1 o'.2.2.2.1] at fin
          simp only [List.length_cons] at hft
          have q1 : ¬ 10 ≤ o := by omega
          simp (disch := omega) only [lit, Nat.add_sub_cancel, Nat.not_lt_zero, ↓m1_mI, nI_add, pk_mul, nx_and, nx_or, and31, sh_r, sh_1, nx_nand, Nat.and_one_is_mod, nI_clamp, nI_leI, nI_ltI, nI_eq, tb_1, vp_t, up2_a, up2_b, up2_c, br_1, br_0, true_and, and_true, mI_ne, mI_ne', mI_lt, mI_le, mI_nle, mI_nlt, pk_sub, mI_sub, hfl', hc0, hc1, eq_false g1, eq_true o'.2.2.2.2.2, eq_false o'.2.2.1, eq_false q1]
          refine r_two ho (by rw [hVz]; exact ⟨hok.2.1.1, hok.2.1.2.1⟩) (by rw [hVx]; exact ⟨hok.1.1, hok.1.2.1⟩) (fun w hw => ?_)
          refine fin _ ⟨?_, mt_fr hmt.2.2 (fun j hj => ?_) (fun j _ => rfl)⟩ hA
          · show (up2 ν.2 137 (nF q) w 137 (nF q)).toInt = bnO o z x
            rw [up2_c, hw, hVz, hVx]
            unfold bnO
            rw [if_pos o6]
          · simp (disch := omega) only [up2_b]
      · match s, hok with
        | x :: z :: s, hok =>
          have hVx : (ν.2 137 (nF q + 1)).toInt = x := hmt.1
          have hVz : (ν.2 137 (nF q)).toInt = z := hmt.2.1
          have eF : nF (false :: false :: q) = nF q + 1 + 1 := rfl
          have eT : nT (false :: false :: q) = nT q := rfl
          have eF' : nF (true :: q) = nF q := rfl
          have eT' : nT (true :: q) = nT q + 1 := rfl
          have o' : o ≠ 0 ∧ o ≠ 1 ∧ o ≠ 2 ∧ o ≠ 20 ∧ 10 ≤ o ∧ 1 < o := by omega
          simp only [List.length_cons] at h32
          rw [eF, eT] at hft ⊢
          rw [eF', eT', evS_b o'.1 o'.2.1 o'.2.2.1 o'.2.2.2.1] at fin
          simp only [List.length_cons] at hft
          have q1 : ¬ 20 ≤ o := by omega
          have d2 : nF q + 1 + 1 - 2 = nF q := by omega
          simp (disch := omega) only [lit, Nat.add_sub_cancel, Nat.not_lt_zero, ↓m1_mI, nI_add, pk_mul, nx_and, nx_or, and31, sh_r, sh_1, nx_nand, Nat.and_one_is_mod, nI_clamp, nI_leI, nI_ltI, nI_eq, tb_1, vp_t, up2_a, up2_b, up2_c, br_1, br_0, true_and, and_true, mI_ne, mI_ne', mI_lt, mI_le, mI_nle, mI_nlt, pk_sub, mI_sub, hfl', hc0, hc1, eq_false g1, eq_true o'.2.2.2.2.2, eq_false o'.2.2.1, eq_true o'.2.2.2.2.1, eq_false q1, nI_neg, d2]
          refine r_asked ho ⟨?_, ?_⟩
          · cases (bnC o (ν.2 137 (nF q)).toInt (ν.2 137 (nF q + 1)).toInt)
            · exact Or.inl rfl
            · exact Or.inr rfl
          refine fin _ ⟨?_, mt_fr hmt.2.2 (fun j hj => rfl) (fun j hj => ?_)⟩ (hA.up (by decide))
          · show up2 ν.1 138 (nT q) (b32 (bnC o (ν.2 137 (nF q)).toInt (ν.2 137 (nF q + 1)).toInt)) 138 (nT q) = z32 (bnO o z x)
            rw [up2_c, hVz, hVx, b32_z]
            unfold bnO
            rw [if_neg (by omega), if_pos (by omega)]
          · simp (disch := omega) only [up2_b]
      · match s, hok with
        | x :: z :: s, hok =>
          have hVx : ν.1 138 (nT q + 1) = z32 x := hmt.1
          have hVz : ν.1 138 (nT q) = z32 z := hmt.2.1
          have eF : nF (true :: true :: q) = nF q := rfl
          have eT : nT (true :: true :: q) = nT q + 1 + 1 := rfl
          have eF' : nF (true :: q) = nF q := rfl
          have eT' : nT (true :: q) = nT q + 1 := rfl
          have o' : o ≠ 0 ∧ o ≠ 1 ∧ o ≠ 2 ∧ o ≠ 20 ∧ 10 ≤ o ∧ 1 < o ∧ 20 ≤ o := by omega
          simp only [List.length_cons] at h32
          rw [eF, eT] at hft ⊢
          rw [eF', eT', evS_b o'.1 o'.2.1 o'.2.2.1 o'.2.2.2.1] at fin
          simp only [List.length_cons] at hft
          have fin2 : ∀ b : Bool, (b = true ↔ bnO o z x ≠ 0) → VB N 3 mX12_work 37 [.ref 130, .null, .int (nI (ca B k)), .int (nI (750 * (B 4 - 1) + 150)), .int (nI (nF q)), .int (nI (nT q + 1)), .int (nI (i + 1))] [] (up2 ν.1 138 (nT q) (b32 b), ν.2) (fun r μ' => r = none ∧ Ψ μ') := by
            intro b hb
            refine fin _ ⟨?_, mt_fr hmt.2.2 (fun j hj => rfl) (fun j hj => ?_)⟩ (hA.up (by decide))
            · show up2 ν.1 138 (nT q) (b32 b) 138 (nT q) = z32 (bnO o z x)
              rw [up2_c]
              unfold b32 z32
              by_cases hz : bnO o z x = 0
              · rw [if_pos hz, if_neg (fun h => hb.mp h hz)]
              · rw [if_neg hz, if_pos (hb.mpr hz)]
            · simp (disch := omega) only [up2_b]
          rcases ho with rfl | rfl
          · have hbn : bnO 21 z x = b2 (decide (z ≠ 0 ∧ x ≠ 0)) := rfl
            simp (disch := omega) only [lit, Nat.add_sub_cancel, Nat.not_lt_zero, ↓m1_mI, nI_add, pk_mul, nx_and, nx_or, and31, sh_r, sh_1, nx_nand, Nat.and_one_is_mod, nI_clamp, nI_leI, nI_ltI, nI_eq, tb_1, vp_t, up2_a, up2_b, up2_c, br_1, br_0, true_and, and_true, mI_ne, mI_ne', mI_lt, mI_le, mI_nle, mI_nlt, pk_sub, mI_sub, hfl', hc0, hc1, eq_false g1, show (1 < 21) = True from eq_true (by decide), show (21 = 2) = False from eq_false (by decide), show (10 ≤ 21) = True from eq_true (by decide), show (20 ≤ 21) = True from eq_true (by decide), show (21 = 20) = False from eq_false (by decide)]
            rw [hVz, hVx]
            refine ⟨fun e => ?_, fun e => ⟨fun e2 => ?_, fun e2 => ?_⟩⟩
            · refine tX12_work_311 ?_
              have e0 := z32_0.mp e
              simp (disch := omega) only [lit, Nat.add_sub_cancel, Nat.not_lt_zero, ↓m1_mI, nI_add, pk_mul, nx_and, nx_or, and31, sh_r, sh_1, nx_nand, Nat.and_one_is_mod, nI_clamp, nI_leI, nI_ltI, nI_eq, tb_1, vp_t, up2_a, up2_b, up2_c, br_1, br_0, true_and, and_true, mI_ne, mI_ne', mI_lt, mI_le, mI_nle, mI_nlt, pk_sub, mI_sub]
              exact fin2 false (by rw [hbn]; simp [e0, b2])
            · refine tX12_work_311 ?_
              have e0 := z32_0.mp e2
              simp (disch := omega) only [lit, Nat.add_sub_cancel, Nat.not_lt_zero, ↓m1_mI, nI_add, pk_mul, nx_and, nx_or, and31, sh_r, sh_1, nx_nand, Nat.and_one_is_mod, nI_clamp, nI_leI, nI_ltI, nI_eq, tb_1, vp_t, up2_a, up2_b, up2_c, br_1, br_0, true_and, and_true, mI_ne, mI_ne', mI_lt, mI_le, mI_nle, mI_nlt, pk_sub, mI_sub]
              exact fin2 false (by rw [hbn]; simp [e0, b2])
            · have e0 : z ≠ 0 := fun h => e (z32_0.mpr h)
              have e1 : x ≠ 0 := fun h => e2 (z32_0.mpr h)
              exact fin2 true (by rw [hbn]; simp [e0, e1, b2])
          · have hbn : bnO 22 z x = b2 (decide (z ≠ 0 ∨ x ≠ 0)) := rfl
            simp (disch := omega) only [lit, Nat.add_sub_cancel, Nat.not_lt_zero, ↓m1_mI, nI_add, pk_mul, nx_and, nx_or, and31, sh_r, sh_1, nx_nand, Nat.and_one_is_mod, nI_clamp, nI_leI, nI_ltI, nI_eq, tb_1, vp_t, up2_a, up2_b, up2_c, br_1, br_0, true_and, and_true, mI_ne, mI_ne', mI_lt, mI_le, mI_nle, mI_nlt, pk_sub, mI_sub, hfl', hc0, hc1, eq_false g1, show (1 < 22) = True from eq_true (by decide), show (22 = 2) = False from eq_false (by decide), show (10 ≤ 22) = True from eq_true (by decide), show (20 ≤ 22) = True from eq_true (by decide), show (22 = 20) = False from eq_false (by decide), show (22 = 21) = False from eq_false (by decide)]
            rw [hVz, hVx]
            refine ⟨fun e => ⟨fun e2 => ?_, fun e2 => ?_⟩, fun e => ?_⟩
            · have e0 := z32_0.mp e
              have e1 := z32_0.mp e2
              exact fin2 false (by rw [hbn]; simp [e0, e1, b2])
            · refine tX12_work_337 ?_
              have e1 : x ≠ 0 := fun h => e2 (z32_0.mpr h)
              simp (disch := omega) only [lit, Nat.add_sub_cancel, Nat.not_lt_zero, ↓m1_mI, nI_add, pk_mul, nx_and, nx_or, and31, sh_r, sh_1, nx_nand, Nat.and_one_is_mod, nI_clamp, nI_leI, nI_ltI, nI_eq, tb_1, vp_t, up2_a, up2_b, up2_c, br_1, br_0, true_and, and_true, mI_ne, mI_ne', mI_lt, mI_le, mI_nle, mI_nlt, pk_sub, mI_sub]
              exact fin2 true (by rw [hbn]; simp [e1, b2])
            · refine tX12_work_337 ?_
              have e0 : z ≠ 0 := fun h => e (z32_0.mpr h)
              simp (disch := omega) only [lit, Nat.add_sub_cancel, Nat.not_lt_zero, ↓m1_mI, nI_add, pk_mul, nx_and, nx_or, and31, sh_r, sh_1, nx_nand, Nat.and_one_is_mod, nI_clamp, nI_leI, nI_ltI, nI_eq, tb_1, vp_t, up2_a, up2_b, up2_c, br_1, br_0, true_and, and_true, mI_ne, mI_ne', mI_lt, mI_le, mI_nle, mI_nlt, pk_sub, mI_sub]
              exact fin2 true (by rw [hbn]; simp [e0, b2])
end EW
