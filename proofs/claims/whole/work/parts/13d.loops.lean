/-! a code reckoned by the class, and by the reference -/
section EL
variable {N : Nat} {μ : Me} {B T : Nat → Nat} {nm : Nat → Int}
theorem nI_neg {n m : Nat} (h : m ≤ n) : nI n + -(nI m) = nI (n - m) := by
  rw [← pk_sub h]
  exact (Int32.sub_eq_add_neg _ _).symm
def cm (st : Nat → Int32) (s : List Int) : Prop := match s with
  | [] => True
  | x :: s => (st s.length).toInt = x ∧ cm st s
theorem cm_up {I : Nat → Nat → Int32} {c k : Nat} {v : Int32} : ∀ {s : List Int}, cm (I c) s → s.length ≤ k → cm (up2 I c k v c) s := by
  intro s
  induction s with
  | nil => intro _ _; trivial
  | cons x s ih =>
    intro h hk
    rw [List.length_cons] at hk
    refine ⟨?_, ih h.2 (by omega)⟩
    rw [up2_b (by omega)]
    exact h.1
theorem tyR_s {n i : Nat} {t f : List Bool} (h : tyR T (n + 1) i t = some f) : ∃ t', tyS (T (150 + 2 * i)) t = some t' ∧ tyR T n (i + 1) t' = some f := by
  unfold tyR at h
  cases e : tyS (T (150 + 2 * i)) t with
  | none => rw [e] at h; cases h
  | some t' => rw [e] at h; exact ⟨t', rfl, h⟩
theorem tyS_len {o : Nat} {t t' : List Bool} (h : tyS o t = some t') (hl : t.length ≤ 32) : t'.length ≤ 32 := by
  rcases tyS_c h with ⟨_, h2, rfl⟩ | ⟨_, r, rfl, rfl⟩ | ⟨_, r, rfl, rfl⟩ | ⟨_, q, rfl, rfl⟩ | ⟨_, q, rfl, rfl⟩ | ⟨_, q, rfl, rfl⟩
  all_goals (simp only [List.length_cons] at *; omega)
theorem evS_b {o v : Nat} {x z : Int} {s : List Int} (h0 : o ≠ 0) (h1 : o ≠ 1) (h2 : o ≠ 2) (h3 : o ≠ 20) : evS nm o v (x :: z :: s) = bnO o z x :: s := by
  unfold evS
  rw [if_neg h0, if_neg h1]
  show (if o = 2 ∨ o = 20 then unO o x :: z :: s else bnO o z x :: s) = _
  rw [if_neg (by omega)]
theorem i_0 : (0 : Int32).toInt = 0 := by decide
theorem c_turned {o : Nat} {x : Int32} {Ψ : Int32 → Me → Prop} (ho : o = 2 ∨ o = 20) (hx : smI x.toInt) (h : ∀ y : Int32, y.toInt = unO o x.toInt → Ψ y μ) : VI N 1 mX5_turned [.int (nI (sgn o)), .int x] μ Ψ := by
  rcases ho with rfl | rfl
  · exact tX5_turned_0 ⟨fun e => absurd e (by decide), fun _ => ⟨_, rfl, h _ (ne_I hx)⟩⟩
  · refine tX5_turned_0 ⟨fun _ => ⟨fun e => ⟨_, rfl, h _ ?_⟩, fun e => ⟨_, rfl, h _ ?_⟩⟩, fun e => absurd (by decide) e⟩
    · rw [e]; decide
    · have : ¬ x.toInt = 0 := fun g => e (i_eq.mpr (g.trans i_0.symm))
      show (0 : Int32).toInt = if x.toInt = 0 then 1 else 0
      rw [if_neg this]; exact i_0
theorem c_value {r k : Nat} {Ψ : Int32 → Me → Prop} (h5 : isL5 r) (hL : LW T r μ.1) (wT : WT T) (hk : k < T 0) (h3 : fl T k 0 ≠ 3) (hnm : ∀ i, fl T k 1 ≤ i → i < fl T k 2 → T (150 + 2 * i) = 1 → (μ.1 82 (T (150 + 2 * i + 1))).toInt = nm (T (150 + 2 * i + 1)) ∧ smI (nm (T (150 + 2 * i + 1)))) (K : ∀ (y : Int32) (μ' : Me), y.toInt = valP T nm k → smI y.toInt → Ag [r + 10] μ.1 μ'.1 → Ψ y μ') : VI N 2 mX5_valueOf [.ref r, .int (nI (fl T k 0)), .ref 82] μ Ψ := by
  obtain ⟨h3', f12, f300, hty0, hit⟩ := wT.2.2.2 k hk h3
  obtain ⟨e1, e2, ecode⟩ := hL.2.1 k hk h3'
  have hr82 : 82 ∉ [r + 10] := by simp; omega
  refine tX5_valueOf_0 h5 ?_
  simp (disch := omega) only [lit, Nat.add_sub_cancel, Nat.not_lt_zero, ↓m1_mI, nI_add, pk_mul, nx_and, nx_or, and31, sh_r, sh_1, nx_nand, Nat.and_one_is_mod, nI_clamp, nI_leI, nI_ltI, nI_eq, tb_1, vp_t, up2_a, up2_b, up2_c, br_1, br_0, true_and, and_true, mI_ne, mI_ne', mI_lt, mI_le, mI_nle, mI_nlt, pk_sub, mI_sub, e1]
  have Z := vb_wf (N := N) (d := 2) (M := mX5_valueOf) (hd := 10) (Ψ := fun r μ' => ∃ v, r = some (.int v) ∧ Ψ v μ') (τ := Nat × List Bool × List Int × Me) (fun x => [.ref r, .int (nI (fl T k 0)), .ref 82, .int (nI x.2.2.1.length), .int (nI x.1)]) (fun x => x.2.2.2) (fun x => fl T k 2 - x.1) (fun x => fl T k 1 ≤ x.1 ∧ x.1 ≤ fl T k 2 ∧ tyR T (fl T k 2 - x.1) x.1 x.2.1 = some [decide (fl T k 0 ≠ 0)] ∧ okE x.2.1 x.2.2.1 ∧ cm (x.2.2.2.1 (r + 10)) x.2.2.1 ∧ Ag [r + 10] μ.1 x.2.2.2.1 ∧ evR T nm (fl T k 2 - x.1) x.1 x.2.2.1 = evR T nm (fl T k 2 - fl T k 1) (fl T k 1) [] ∧ x.2.1.length ≤ 32) ?_ (fl T k 1, [], [], μ) ⟨Nat.le_refl _, f12, hty0, trivial, trivial, Ag.rf, rfl, Nat.zero_le 32⟩
  · exact Z
  · rintro ⟨i, t, s, ν⟩ ⟨hi1, hi2, hty, hok, hcm, hA, hev, h32⟩ K'
    dsimp only at hi1 hi2 hty hok hcm hA hev h32 K' ⊢
    have hlen := okE_len hok
    have hr3 : ν.1 (r + 3) (fl T k 0) = nI (fl T k 2) := by rw [hA (r + 3) (by simp)]; exact e2
    refine tX5_valueOf_10 h5 ?_
    by_cases he : i = fl T k 2
    · subst he
      rw [Nat.sub_self] at hty hev
      cases hty
      match s, hok with
      | [x], hok =>
        simp (disch := omega) only [lit, Nat.add_sub_cancel, Nat.not_lt_zero, ↓m1_mI, nI_add, pk_mul, nx_and, nx_or, and31, sh_r, sh_1, nx_nand, Nat.and_one_is_mod, nI_clamp, nI_leI, nI_ltI, nI_eq, tb_1, vp_t, up2_a, up2_b, up2_c, br_1, br_0, true_and, and_true, mI_ne, mI_ne', mI_lt, mI_le, mI_nle, mI_nlt, pk_sub, mI_sub, hr3, Nat.le_refl]
        refine tX5_valueOf_192 h5 ⟨fun e => absurd e (nI_nle (n := 1) (by decide) (by decide)), fun _ => ⟨_, rfl, K _ _ ?_ ?_ hA⟩⟩
        · unfold valP
          rw [← hev]
          exact hcm.1
        · rw [show (ν.1 (r + 10) 0).toInt = x from hcm.1]
          exact ⟨hok.1.1, hok.1.2.1⟩
    · have hlt : i < fl T k 2 := by omega
      have hr1 : ν.1 (r + 1) i = nI (cit (T (150 + 2 * i)) (T (150 + 2 * i + 1))) := by rw [hA (r + 1) (by simp)]; exact ecode i hi1 hlt
      obtain ⟨n, hn⟩ : ∃ n, fl T k 2 - i = n + 1 := ⟨fl T k 2 - i - 1, by omega⟩
      have hn' : fl T k 2 - (i + 1) = n := by omega
      rw [hn] at hty hev
      obtain ⟨t', ht', hty'⟩ := tyR_s hty
      have hit' := hit i hi1 hlt
      have hnm' := hnm i hi1 hlt
      have hok' := okE_step (nm := nm) (v := T (150 + 2 * i + 1)) ht' hok hit'.1 (fun h => (hnm' h).2)
      have g1 : ¬ fl T k 2 ≤ i := by omega
      have g2 : ¬ 300 ≤ i := by omega
      have fin : ∀ ν' : Me, cm (ν'.1 (r + 10)) (evS nm (T (150 + 2 * i)) (T (150 + 2 * i + 1)) s) → Ag [r + 10] μ.1 ν'.1 → VB N 2 mX5_valueOf 10 [.ref r, .int (nI (fl T k 0)), .ref 82, .int (nI (evS nm (T (150 + 2 * i)) (T (150 + 2 * i + 1)) s).length), .int (nI (i + 1))] [] ν' (fun r μ' => ∃ v, r = some (.int v) ∧ Ψ v μ') := by
        intro ν' q1 q2
        exact K' (i + 1, t', evS nm (T (150 + 2 * i)) (T (150 + 2 * i + 1)) s, ν') ⟨by omega, by omega, by rw [hn']; exact hty', hok', q1, q2, by rw [hn']; exact hev, tyS_len ht' h32⟩ (by omega)
      clear K' hev hty hty' hok'
      generalize hoe : T (150 + 2 * i) = o at *
      generalize hve : T (150 + 2 * i + 1) = v at *
      rcases tyS_c ht' with ⟨ho, hl32, -⟩ | ⟨rfl, q, rfl, -⟩ | ⟨rfl, q, rfl, -⟩ | D
      · rcases ho with rfl | rfl
        · have g3 := hit'.1 rfl
          have g4 : ¬ 20000 ≤ v := by omega
          have g5 : ¬ 32 ≤ s.length := by omega
          have g6 : ¬ 10000 ≤ v := by omega
          rw [show cit 0 v = v from rfl] at hr1
          simp (disch := omega) only [lit, Nat.add_sub_cancel, Nat.not_lt_zero, ↓m1_mI, nI_add, pk_mul, nx_and, nx_or, and31, sh_r, sh_1, nx_nand, Nat.and_one_is_mod, nI_clamp, nI_leI, nI_ltI, nI_eq, tb_1, vp_t, up2_a, up2_b, up2_c, br_1, br_0, true_and, and_true, mI_ne, mI_ne', mI_lt, mI_le, mI_nle, mI_nlt, pk_sub, mI_sub, hr3, hr1, eq_false g1, eq_false g2, eq_false g4, eq_false g5, eq_false g6]
          exact fin _ ⟨by simp only [up2_c]; exact nI_toInt (by omega), cm_up hcm (Nat.le_refl _)⟩ (hA.up (by simp))
        · have g3 := hit'.2 rfl
          have g4 : ¬ 20000 ≤ 10000 + v := by omega
          have g5 : ¬ 32 ≤ s.length := by omega
          have g6 : 10000 ≤ 10000 + v := by omega
          have g7 : ¬ 7 ≤ v := by omega
          rw [show cit 1 v = 10000 + v from rfl] at hr1
          simp (disch := omega) only [lit, Nat.add_sub_cancel, Nat.not_lt_zero, ↓m1_mI, nI_add, pk_mul, nx_and, nx_or, and31, sh_r, sh_1, nx_nand, Nat.and_one_is_mod, nI_clamp, nI_leI, nI_ltI, nI_eq, tb_1, vp_t, up2_a, up2_b, up2_c, br_1, br_0, true_and, and_true, mI_ne, mI_ne', mI_lt, mI_le, mI_nle, mI_nlt, pk_sub, mI_sub, hr3, hr1, eq_false g1, eq_false g2, eq_false g4, eq_false g5, eq_true g6, Nat.add_sub_cancel_left]
          refine tX5_named_0 ?_
          simp (disch := omega) only [lit, Nat.add_sub_cancel, Nat.not_lt_zero, ↓m1_mI, nI_add, pk_mul, nx_and, nx_or, and31, sh_r, sh_1, nx_nand, Nat.and_one_is_mod, nI_clamp, nI_leI, nI_ltI, nI_eq, tb_1, vp_t, up2_a, up2_b, up2_c, br_1, br_0, true_and, and_true, mI_ne, mI_ne', mI_lt, mI_le, mI_nle, mI_nlt, pk_sub, mI_sub, eq_false g7]
          refine ⟨_, rfl, fin _ ⟨?_, cm_up hcm (Nat.le_refl _)⟩ (hA.up (by simp))⟩
          simp only [up2_c, hA 82 hr82]
          exact (hnm' rfl).1
      · match s, hok with
        | x :: s, hok =>
          rw [show cit 2 v = 20022 from rfl] at hr1
          simp (disch := omega) only [lit, Nat.add_sub_cancel, Nat.not_lt_zero, ↓m1_mI, nI_add, pk_mul, nx_and, nx_or, and31, sh_r, sh_1, nx_nand, Nat.and_one_is_mod, nI_clamp, nI_leI, nI_ltI, nI_eq, tb_1, vp_t, up2_a, up2_b, up2_c, br_1, br_0, true_and, and_true, mI_ne, mI_ne', mI_lt, mI_le, mI_nle, mI_nlt, pk_sub, mI_sub, hr3, hr1, eq_false g1, eq_false g2]
          simp only [show (20000 ≤ 20022) = True from eq_true (by decide), show (20022 = 20011) = False from eq_false (by decide), br_1, br_0]
          refine tX5_valueOf_108 h5 ?_
          simp only [List.length_cons]
          have g5 : ¬ s.length + 1 ≤ 0 := by omega
          simp only [List.length_cons] at hlen h32
          simp (disch := omega) only [lit, Nat.add_sub_cancel, Nat.not_lt_zero, ↓m1_mI, nI_add, pk_mul, nx_and, nx_or, and31, sh_r, sh_1, nx_nand, Nat.and_one_is_mod, nI_clamp, nI_leI, nI_ltI, nI_eq, tb_1, vp_t, up2_a, up2_b, up2_c, br_1, br_0, true_and, and_true, mI_ne, mI_ne', mI_lt, mI_le, mI_nle, mI_nlt, pk_sub, mI_sub, eq_false g5, show 20022 - 20000 = 22 from rfl]
          have hcx : (ν.1 (r + 10) s.length).toInt = x := hcm.1
          refine c_turned (o := 2) (Or.inl rfl) (by rw [hcx]; exact ⟨hok.1.1, hok.1.2.1⟩) (fun y hy => ?_)
          refine fin _ ⟨?_, cm_up hcm.2 (Nat.le_refl _)⟩ (hA.up (by simp))
          simp only [up2_c]
          rw [hy, hcx]
      · match s, hok with
        | x :: s, hok =>
          rw [show cit 20 v = 20011 from rfl] at hr1
          simp (disch := omega) only [lit, Nat.add_sub_cancel, Nat.not_lt_zero, ↓m1_mI, nI_add, pk_mul, nx_and, nx_or, and31, sh_r, sh_1, nx_nand, Nat.and_one_is_mod, nI_clamp, nI_leI, nI_ltI, nI_eq, tb_1, vp_t, up2_a, up2_b, up2_c, br_1, br_0, true_and, and_true, mI_ne, mI_ne', mI_lt, mI_le, mI_nle, mI_nlt, pk_sub, mI_sub, hr3, hr1, eq_false g1, eq_false g2]
          simp only [show (20000 ≤ 20011) = True from eq_true (by decide), br_1, br_0]
          refine tX5_valueOf_108 h5 ?_
          simp only [List.length_cons]
          have g5 : ¬ s.length + 1 ≤ 0 := by omega
          simp only [List.length_cons] at hlen h32
          simp (disch := omega) only [lit, Nat.add_sub_cancel, Nat.not_lt_zero, ↓m1_mI, nI_add, pk_mul, nx_and, nx_or, and31, sh_r, sh_1, nx_nand, Nat.and_one_is_mod, nI_clamp, nI_leI, nI_ltI, nI_eq, tb_1, vp_t, up2_a, up2_b, up2_c, br_1, br_0, true_and, and_true, mI_ne, mI_ne', mI_lt, mI_le, mI_nle, mI_nlt, pk_sub, mI_sub, eq_false g5, show 20011 - 20000 = 11 from rfl]
          have hcx : (ν.1 (r + 10) s.length).toInt = x := hcm.1
          refine c_turned (o := 20) (Or.inr rfl) (by rw [hcx]; exact ⟨hok.1.1, hok.1.2.1⟩) (fun y hy => ?_)
          refine fin _ ⟨?_, cm_up hcm.2 (Nat.le_refl _)⟩ (hA.up (by simp))
          simp only [up2_c]
          rw [hy, hcx]
      · have D' : ∃ (x z : Int) (s' : List Int), s = x :: z :: s' ∧ smI x ∧ smI z ∧ ((o = 3 ∨ o = 4 ∨ o = 5 ∨ o = 6) ∨ (o = 10 ∨ o = 11 ∨ o = 12 ∨ o = 13 ∨ o = 14 ∨ o = 15) ∨ ((o = 21 ∨ o = 22) ∧ (z = 0 ∨ z = 1) ∧ (x = 0 ∨ x = 1))) := by
          rcases D with ⟨ho, q, rfl, -⟩ | ⟨ho, q, rfl, -⟩ | ⟨ho, q, rfl, -⟩
          · match s, hok with
            | x :: z :: s, hok => exact ⟨x, z, s, rfl, ⟨hok.1.1, hok.1.2.1⟩, ⟨hok.2.1.1, hok.2.1.2.1⟩, Or.inl ho⟩
          · match s, hok with
            | x :: z :: s, hok => exact ⟨x, z, s, rfl, ⟨hok.1.1, hok.1.2.1⟩, ⟨hok.2.1.1, hok.2.1.2.1⟩, Or.inr (Or.inl ho)⟩
          · match s, hok with
            | x :: z :: s, hok => exact ⟨x, z, s, rfl, ⟨hok.1.1, hok.1.2.1⟩, ⟨hok.2.1.1, hok.2.1.2.1⟩, Or.inr (Or.inr ⟨ho, hok.2.1.2.2 rfl, hok.1.2.2 rfl⟩)⟩
        obtain ⟨x, z, s', rfl, sx, sz, ho⟩ := D'
        have hsg : sgn o ≠ 11 ∧ sgn o ≠ 22 ∧ sgn o < 200 ∧ o ≠ 0 ∧ o ≠ 1 ∧ o ≠ 2 ∧ o ≠ 20 := by
          rcases ho with (rfl | rfl | rfl | rfl) | (rfl | rfl | rfl | rfl | rfl | rfl) | ⟨(rfl | rfl), -, -⟩ <;> decide
        obtain ⟨s1, s2, s3, o0, o1, o2, o20⟩ := hsg
        rw [evS_b o0 o1 o2 o20] at fin
        have hci : cit o v = 20000 + sgn o := by unfold cit; rw [if_neg o0, if_neg o1]
        rw [hci] at hr1
        simp only [List.length_cons] at hlen fin ⊢
        have g4 : 20000 ≤ 20000 + sgn o := by omega
        have g5 : ¬ 20000 + sgn o = 20011 := by omega
        have g6 : ¬ 20000 + sgn o = 20022 := by omega
        have g7 : ¬ s'.length + 1 + 1 ≤ 1 := by omega
        have d2 : s'.length + 1 + 1 - 2 = s'.length := by omega
        have hl2 : s'.length + 1 + 1 ≤ 32 := by omega
        simp (disch := omega) only [lit, Nat.add_sub_cancel, Nat.not_lt_zero, ↓m1_mI, nI_add, pk_mul, nx_and, nx_or, and31, sh_r, sh_1, nx_nand, Nat.and_one_is_mod, nI_clamp, nI_leI, nI_ltI, nI_eq, tb_1, vp_t, up2_a, up2_b, up2_c, br_1, br_0, true_and, and_true, mI_ne, mI_ne', mI_lt, mI_le, mI_nle, mI_nlt, pk_sub, mI_sub, hr3, hr1, eq_false g1, eq_false g2, eq_true g4, eq_false g5, eq_false g6, eq_false g7, d2, Nat.add_sub_cancel_left]
        have hcx : (ν.1 (r + 10) (s'.length + 1)).toInt = x := hcm.1
        have hcz : (ν.1 (r + 10) s'.length).toInt = z := hcm.2.1
        refine c_reck (o := o) ?_ (by rw [Int32.toInt_toInt64, hcz]; exact sz) (by rw [Int32.toInt_toInt64, hcx]; exact sx) (fun w hw => c_bounded (fun y hy => ?_))
        · rw [Int32.toInt_toInt64, Int32.toInt_toInt64, hcz, hcx]
          exact ho
        · refine fin _ ⟨?_, cm_up hcm.2.2 (Nat.le_refl _)⟩ (hA.up (by simp))
          simp only [up2_c]
          rw [hy, hw, Int32.toInt_toInt64, Int32.toInt_toInt64, hcz, hcx]
end EL
