/-! the day: the search -/
section DZ
variable {N : Nat} {μ : Me} {B T : Nat → Nat} {v H : Nat} {I0 : Nat → Nat → Int32}
theorem nd_back {h m : Nat} (hb : ¬ h.testBit m = true) : ndN (h ||| 2 ^ m) (2 ^ m) = h := by
  apply Nat.eq_of_testBit_eq
  intro i
  rw [ndN_tb, Nat.testBit_or, Nat.testBit_two_pow]
  by_cases e : m = i
  · subst e
    simp at hb
    simp [hb]
  · simp [e]
theorem r_takeBack {l h t k p m : Nat} {Ψ : Me → Prop} (hW : WB B) (hl : l < 12) (hm : m ≤ 10) (hh : h < 1024) (ht : t < 1024) (hk : k ≤ 2) (hok : okM B T l h t k p m) (hd : dS I0 (mH l h m) (mT l t m) (mK l k m) μ.1) (r145 : μ.1 145 l = nI m) (K : ∀ μ' : Me, dS I0 h t k μ'.1 → μ'.1 145 = μ.1 145 → μ'.1 146 = μ.1 146 → Ψ μ') : VU N 1 mX12_takeBack [.ref 130, .int (nI l)] μ Ψ := by
  have hn := hW.n
  refine tX12_takeBack_0 ?_
  by_cases em : m = 10
  · unfold mH mT mK at hd
    rw [if_pos (Or.inl em), if_pos (Or.inl em), if_pos (Or.inl em)] at hd
    simp (disch := omega) only [lit, Nat.add_sub_cancel, Nat.not_lt_zero, ↓m1_mI, nI_add, pk_mul, nx_and, nx_or, and31, sh_r, sh_1, nx_nand, Nat.and_one_is_mod, nI_clamp, nI_leI, nI_ltI, nI_eq, tb_1, vp_t, up2_a, up2_b, up2_c, br_1, br_0, true_and, and_true, mI_ne, mI_ne', mI_lt, mI_le, mI_nle, mI_nlt, pk_sub, mI_sub, r145, em]
    exact K μ hd rfl rfl
  · have hl2 : l / 2 * 2 ≤ l := Nat.div_mul_le_self _ _
    have el : l - l / 2 * 2 = l % 2 := by omega
    obtain ⟨⟨f1, f2, f3⟩, f4, f5⟩ := hok.resolve_left em
    rw [Nat.testBit_or, Bool.or_eq_true] at f3
    have fh : ¬ h.testBit m = true := fun q => f3 (Or.inl q)
    have ft : ¬ t.testBit m = true := fun q => f3 (Or.inr q)
    unfold mH mT mK at hd
    by_cases ev : l % 2 = 0
    · rw [if_neg (by omega), if_pos (Or.inr ev), if_pos (Or.inr ev)] at hd
      obtain ⟨d1, d2, d3, d4, d5⟩ := hd
      simp (disch := omega) only [lit, Nat.add_sub_cancel, Nat.not_lt_zero, ↓m1_mI, nI_add, pk_mul, nx_and, nx_or, and31, sh_r, sh_1, nx_nand, Nat.and_one_is_mod, nI_clamp, nI_leI, nI_ltI, nI_eq, tb_1, vp_t, up2_a, up2_b, up2_c, br_1, br_0, true_and, and_true, mI_ne, mI_ne', mI_lt, mI_le, mI_nle, mI_nlt, pk_sub, mI_sub, r145, eq_false em, pk_div, el, eq_true ev, d3]
      rw [nd_back fh]
      refine K _ ⟨d1.up (by decide), ?_, ?_, ?_, ?_⟩ ?_ ?_
      · intro b b1 b2 b3
        simp only [up2_b b1]
        exact d2 b b1 b2 b3
      · simp only [up2_c]
      · simp (disch := omega) only [up2_b]
        exact d4
      · simp (disch := omega) only [up2_b]
        exact d5
      · simp (disch := omega) only [up2_ne]
      · simp (disch := omega) only [up2_ne]
    · have od : l % 2 = 1 := by omega
      have hk0 := f5 od
      rw [if_pos (Or.inr od), if_neg (by omega), if_neg (by omega)] at hd
      obtain ⟨d1, d2, d3, d4, d5⟩ := hd
      have ek : k - 1 + 1 = k := by omega
      simp (disch := omega) only [lit, Nat.add_sub_cancel, Nat.not_lt_zero, ↓m1_mI, nI_add, pk_mul, nx_and, nx_or, and31, sh_r, sh_1, nx_nand, Nat.and_one_is_mod, nI_clamp, nI_leI, nI_ltI, nI_eq, tb_1, vp_t, up2_a, up2_b, up2_c, br_1, br_0, true_and, and_true, mI_ne, mI_ne', mI_lt, mI_le, mI_nle, mI_nlt, pk_sub, mI_sub, r145, eq_false em, pk_div, el, eq_false ev, d4, d5, ek]
      rw [nd_back ft]
      refine K _ ⟨(d1.up (by decide)).up (by decide), ?_, ?_, ?_, ?_⟩ ?_ ?_
      · intro b b1 b2 b3
        simp only [up2_b b2, up2_b b3]
        exact d2 b b1 b2 b3
      · simp (disch := omega) only [up2_b]
        exact d3
      · simp (disch := omega) only [up2_b, up2_c]
      · simp only [up2_c]
      · simp (disch := omega) only [up2_ne]
      · simp (disch := omega) only [up2_ne]
def win (B T : Nat → Nat) (v H l h t k p : Nat) : Prop := if l % 2 = 0 then gC B T v ((2 * H - l) / 2) h t k p else gA B T v ((2 * H - l - 1) / 2) h t k p
def stl (B T : Nat → Nat) (v H l h t k p m : Nat) : Prop := okM B T l h t k p m ∧ (l % 2 = 0 → win B T v H (l + 1) (mH l h m) (mT l t m) (mK l k m) (mP B T l h p m)) ∧ (l % 2 = 1 → ¬ win B T v H (l + 1) (mH l h m) (mT l t m) (mK l k m) (mP B T l h p m))
theorem win_e {l h t k p : Nat} (hW : WB B) (hl : l < 2 * H) (ev : l % 2 = 0) : win B T v H l h t k p ↔ ∃ m, m ≤ 10 ∧ stl B T v H l h t k p m := by
  have hn := hW.n
  have e1 : (2 * H - l) / 2 = (2 * H - (l + 1) - 1) / 2 + 1 := by omega
  have od : ¬ (l + 1) % 2 = 0 := by omega
  unfold win
  rw [if_pos ev, e1, gC_s]
  constructor
  · rintro (⟨w, q1, q2, q3⟩ | q)
    · have hw := q1.1
      refine ⟨w, by omega, Or.inr ⟨q1, fun _ => q2, fun z => by omega⟩, fun _ => ?_, fun z => by omega⟩
      unfold win mH mT mK mP
      rw [if_neg od, if_neg (by omega), if_pos (Or.inr ev), if_pos (Or.inr ev), if_neg (by omega)]
      exact q3
    · refine ⟨10, by omega, Or.inl rfl, fun _ => ?_, fun z => by omega⟩
      unfold win mH mT mK mP
      rw [if_neg od, if_pos (Or.inl rfl), if_pos (Or.inl rfl), if_pos (Or.inl rfl), if_pos (Or.inl rfl)]
      exact q
  · rintro ⟨m, hm, q1, q2, _⟩
    have q2 := q2 ev
    unfold win mH mT mK mP at q2
    rw [if_neg od] at q2
    by_cases em : m = 10
    · rw [if_pos (Or.inl em), if_pos (Or.inl em), if_pos (Or.inl em), if_pos (Or.inl em)] at q2
      exact Or.inr q2
    · rw [if_neg (by omega), if_pos (Or.inr ev), if_pos (Or.inr ev), if_neg (by omega)] at q2
      obtain ⟨z1, z2, _⟩ := q1.resolve_left em
      exact Or.inl ⟨m, z1, z2 ev, q2⟩
theorem win_o {l h t k p : Nat} (hW : WB B) (hl : l < 2 * H) (od : l % 2 = 1) : win B T v H l h t k p ↔ ¬ ∃ m, m ≤ 10 ∧ stl B T v H l h t k p m := by
  have hn := hW.n
  have e1 : (2 * H - l - 1) / 2 = (2 * H - (l + 1)) / 2 := by omega
  have ev : (l + 1) % 2 = 0 := by omega
  unfold win
  rw [if_neg (by omega), e1]
  constructor
  · rintro ⟨q1, q2⟩ ⟨m, hm, z1, _, z3⟩
    have z3 := z3 od
    unfold win mH mT mK mP at z3
    rw [if_pos ev] at z3
    by_cases em : m = 10
    · rw [if_pos (Or.inl em), if_pos (Or.inl em), if_pos (Or.inl em), if_pos (Or.inl em)] at z3
      exact z3 q2
    · rw [if_pos (Or.inr od), if_neg (by omega), if_neg (by omega), if_pos (Or.inr od)] at z3
      obtain ⟨y1, _, y3⟩ := z1.resolve_left em
      exact z3 (q1 m y1 (y3 od))
  · intro q
    refine ⟨fun u hu hk => ?_, ?_⟩
    · apply Classical.byContradiction
      intro z
      have hul := hu.1
      refine q ⟨u, by omega, Or.inr ⟨hu, fun y => by omega, fun _ => hk⟩, fun y => by omega, fun _ => ?_⟩
      unfold win mH mT mK mP
      rw [if_pos ev, if_pos (Or.inr od), if_neg (by omega), if_neg (by omega), if_pos (Or.inr od)]
      exact z
    · apply Classical.byContradiction
      intro z
      refine q ⟨10, by omega, Or.inl rfl, fun y => by omega, fun _ => ?_⟩
      unfold win mH mT mK mP
      rw [if_pos ev, if_pos (Or.inl rfl), if_pos (Or.inl rfl), if_pos (Or.inl rfl), if_pos (Or.inl rfl)]
      exact z
def SR (N : Nat) (B T : Nat → Nat) (v H : Nat) (I0 : Nat → Nat → Int32) (Ψ : Option Value → Me → Prop) (l : Nat) : Prop := ∀ (h t k p : Nat) (ν : Me), h < 2 ^ B 0 → t < 1024 → k ≤ 2 → p ≤ 999 → dS I0 h t k ν.1 → ν.1 145 l = mI → ν.1 146 l = nI p → (∀ (c : Nat) (ν' : Me), ((c = 1 ∧ win B T v H l h t k p) ∨ (c = 2 ∧ ¬ win B T v H l h t k p)) → dS I0 h t k ν'.1 → (∀ j, j < l → ν'.1 145 j = ν.1 145 j) → (∀ j, j ≤ l → ν'.1 146 j = ν.1 146 j) → VB N 7 mX12_findBest 157 [.ref 130, .int (nI v), .int (nI H), .null, .null, .int (nI l), .int (nI c)] [] ν' Ψ) → VB N 7 mX12_findBest 37 [.ref 130, .int (nI v), .int (nI H), .null, .null, .int (nI l)] [] ν Ψ
theorem mH_lt (hW : WB B) {l h t k p m : Nat} (hh : h < 2 ^ B 0) (hok : okM B T l h t k p m) : mH l h m < 2 ^ B 0 := by
  unfold mH
  split
  · exact hh
  · rename_i q
    have := (hok.resolve_left (fun z => q (Or.inl z))).1.1
    exact Nat.or_lt_two_pow hh (p2_lt this)
theorem mT_lt (hW : WB B) {l h t k p m : Nat} (ht : t < 1024) (hok : okM B T l h t k p m) : mT l t m < 1024 := by
  have hn := hW.n
  unfold mT
  split
  · exact ht
  · rename_i q
    have := (hok.resolve_left (fun z => q (Or.inl z))).1.1
    exact Nat.or_lt_two_pow (n := 10) ht (p2_lt (by omega))
theorem mK_le {l k m : Nat} (hk : k ≤ 2) : mK l k m ≤ 2 := by unfold mK; split <;> omega
theorem mP_le {l h p m : Nat} (hp : p ≤ 999) : mP B T l h p m ≤ 999 := by unfold mP; split <;> omega
/-- the moves of one level, from m on -/
theorem srch_in {Ψ : Option Value → Me → Prop} {l h t k p : Nat} (hB : rowB B (I0 131)) (hW : WB B) (hT : RuL B T I0) (wT : WT T) (hH : H ≤ 6) (hv : v < B 1) (hl : l < 2 * H) (IH : SR N B T v H I0 Ψ (l + 1)) (hh : h < 2 ^ B 0) (ht : t < 1024) (hk : k ≤ 2) (hp : p ≤ 999) (ν0 : Me)
    (hS : ∀ (m : Nat) (ν' : Me), m ≤ 10 → stl B T v H l h t k p m → (∀ m', m' < m → ¬ stl B T v H l h t k p m') → dS I0 h t k ν'.1 → (∀ j, j < l → ν'.1 145 j = ν0.1 145 j) → (∀ j, j ≤ l → ν'.1 146 j = ν0.1 146 j) → ν'.1 145 l = nI m → VB N 7 mX12_findBest 198 [.ref 130, .int (nI v), .int (nI H), .null, .null, .int (nI l), .int (nI (if l % 2 = 0 then 1 else 2))] [.int 1] ν' Ψ)
    (hN : (∀ m, m ≤ 10 → ¬ stl B T v H l h t k p m) → ∀ ν' : Me, dS I0 h t k ν'.1 → (∀ j, j < l → ν'.1 145 j = ν0.1 145 j) → (∀ j, j ≤ l → ν'.1 146 j = ν0.1 146 j) → (l ≠ 0 → VB N 7 mX12_findBest 157 [.ref 130, .int (nI v), .int (nI H), .null, .null, .int (nI l), .int (nI (if l % 2 = 0 then 2 else 1))] [] ν' Ψ) ∧ (l = 0 → Ψ (some (.int (-1))) ν')) :
    ∀ (d m : Nat) (ν : Me), m + d = 11 → (l = 0 → m ≤ 10) → (∀ m', m' < m → ¬ stl B T v H l h t k p m') → dS I0 h t k ν.1 → (∀ j, j < l → ν.1 145 j = ν0.1 145 j) → (∀ j, j ≤ l → ν.1 146 j = ν0.1 146 j) → ν.1 145 l = nI m → ν.1 146 l = nI p → VB N 7 mX12_findBest 82 [.ref 130, .int (nI v), .int (nI H), .null, .null, .int (nI l), .int 0] [] ν Ψ := by
  have hn := hW.n
  have hh10 : h < 1024 := Nat.lt_of_lt_of_le hh (show 2 ^ B 0 ≤ 2 ^ 10 from Nat.pow_le_pow_right (by decide) (by omega))
  have hl2 : l / 2 * 2 ≤ l := Nat.div_mul_le_self _ _
  have el : l - l / 2 * 2 = l % 2 := by omega
  intro d
  induction d with
  | zero =>
    intro m ν hmd h0 hno hd f145 f146 r145 r146
    have em : m = 11 := by omega
    subst em
    have hl0 : l ≠ 0 := fun q => by have := h0 q; omega
    have Kn := (hN (fun m hm => hno m (by omega)) ν hd f145 f146).1 hl0
    refine tX12_findBest_82 ?_
    simp (disch := omega) only [lit, Nat.add_sub_cancel, Nat.not_lt_zero, ↓m1_mI, nI_add, pk_mul, nx_and, nx_or, and31, sh_r, sh_1, nx_nand, Nat.and_one_is_mod, nI_clamp, nI_leI, nI_ltI, nI_eq, tb_1, vp_t, up2_a, up2_b, up2_c, br_1, br_0, true_and, and_true, mI_ne, mI_ne', mI_lt, mI_le, mI_nle, mI_nlt, pk_sub, mI_sub, r145, show (10 < 11) = True from eq_true (by decide)]
    refine tX12_findBest_117 ?_
    simp (disch := omega) only [lit, Nat.add_sub_cancel, Nat.not_lt_zero, ↓m1_mI, nI_add, pk_mul, nx_and, nx_or, and31, sh_r, sh_1, nx_nand, Nat.and_one_is_mod, nI_clamp, nI_leI, nI_ltI, nI_eq, tb_1, vp_t, up2_a, up2_b, up2_c, br_1, br_0, true_and, and_true, mI_ne, mI_ne', mI_lt, mI_le, mI_nle, mI_nlt, pk_sub, mI_sub, r145, show (11 ≤ 10) = False from eq_false (by decide), pk_div, el]
    refine ⟨fun ev => ?_, fun od => ?_⟩
    · rw [if_pos ev] at Kn; exact Kn
    · rw [if_neg od] at Kn; exact Kn
  | succ d ih =>
    intro m ν hmd h0 hno hd f145 f146 r145 r146
    have hm : m ≤ 10 := by omega
    have g10 : ¬ 10 < m := by omega
    refine tX12_findBest_82 ?_
    simp (disch := omega) only [lit, Nat.add_sub_cancel, Nat.not_lt_zero, ↓m1_mI, nI_add, pk_mul, nx_and, nx_or, and31, sh_r, sh_1, nx_nand, Nat.and_one_is_mod, nI_clamp, nI_leI, nI_ltI, nI_eq, tb_1, vp_t, up2_a, up2_b, up2_c, br_1, br_0, true_and, and_true, mI_ne, mI_ne', mI_lt, mI_le, mI_nle, mI_nlt, pk_sub, mI_sub, r145, eq_false g10]
    refine r_canMove hB hW hT wT (by omega) hm hh10 ht hk hp hd r145 r146 (fun hok μ1 e1 e145 e146 ep => ?_) (fun hok μ1 e1 e145 e146 => ?_)
    · refine ⟨fun q => absurd q (by decide), fun _ => ?_⟩
      have r145' : μ1.1 145 l = nI m := by rw [e145]; exact r145
      refine tX12_findBest_117 ?_
      simp (disch := omega) only [lit, Nat.add_sub_cancel, Nat.not_lt_zero, ↓m1_mI, nI_add, pk_mul, nx_and, nx_or, and31, sh_r, sh_1, nx_nand, Nat.and_one_is_mod, nI_clamp, nI_leI, nI_ltI, nI_eq, tb_1, vp_t, up2_a, up2_b, up2_c, br_1, br_0, true_and, and_true, mI_ne, mI_ne', mI_lt, mI_le, mI_nle, mI_nlt, pk_sub, mI_sub, r145', eq_true hm]
      refine tX12_findBest_157 ⟨fun _ => ?_, fun q => absurd (by decide) q⟩
      refine tX12_findBest_228 ⟨fun _ => ?_, fun q => absurd (by decide) q⟩
      have hd1 : dS I0 (mH l h m) (mT l t m) (mK l k m) (((up2 μ1.1 145 (l + 1) mI, μ1.2) : Me).1) := e1.fr (Ag.rf.up (by decide))
      refine IH (mH l h m) (mT l t m) (mK l k m) (mP B T l h p m) _ (mH_lt hW hh hok) (mT_lt hW ht hok) (mK_le hk) (mP_le hp) hd1 (by simp only [up2_c]) (by simp (disch := omega) only [up2_a]; exact ep) (fun c ν' hc hd2 g145 g146 => ?_)
      have hc0 : 0 < c := by omega
      have hc2 : c ≤ 2 := by omega
      have q145 : ν'.1 145 l = nI m := by
        rw [g145 l (by omega)]
        simp (disch := omega) only [up2_b]
        exact r145'
      have q145' : ∀ j, j < l → ν'.1 145 j = ν0.1 145 j := by
        intro j hj
        rw [g145 j (by omega)]
        simp (disch := omega) only [up2_b]
        rw [e145]
        exact f145 j hj
      have q146' : ∀ j, j ≤ l → ν'.1 146 j = ν0.1 146 j := by
        intro j hj
        rw [g146 j (by omega)]
        simp (disch := omega) only [up2_a]
        rw [e146 j (by omega)]
        exact f146 j hj
      have g1 : ¬ c ≤ 0 := by omega
      have g2 : ¬ l + 1 ≤ 0 := by omega
      refine tX12_findBest_157 ?_
      simp (disch := omega) only [lit, Nat.add_sub_cancel, Nat.not_lt_zero, ↓m1_mI, nI_add, pk_mul, nx_and, nx_or, and31, sh_r, sh_1, nx_nand, Nat.and_one_is_mod, nI_clamp, nI_leI, nI_ltI, nI_eq, tb_1, vp_t, up2_a, up2_b, up2_c, br_1, br_0, true_and, and_true, mI_ne, mI_ne', mI_lt, mI_le, mI_nle, mI_nlt, pk_sub, mI_sub, eq_false g1, eq_false g2]
      refine r_takeBack hW (by omega) hm hh10 ht hk hok hd2 q145 (fun ν2 hd3 s145 s146 => ?_)
      have t145 : ν2.1 145 l = nI m := by rw [s145]; exact q145
      have t145' : ∀ j, j < l → ν2.1 145 j = ν0.1 145 j := fun j hj => by rw [s145]; exact q145' j hj
      have t146' : ∀ j, j ≤ l → ν2.1 146 j = ν0.1 146 j := fun j hj => by rw [s146]; exact q146' j hj
      have t146 : ν2.1 146 l = nI p := by rw [t146' l (Nat.le_refl _), ← f146 l (Nat.le_refl _)]; exact r146
      -- the move does not settle it: the next one
      have nx : ¬ stl B T v H l h t k p m → VB N 7 mX12_findBest 228 [.ref 130, .int (nI v), .int (nI H), .null, .null, .int (nI l), .int (nI c)] [] ν2 Ψ := by
        intro hst
        have hno' : ∀ m', m' < m + 1 → ¬ stl B T v H l h t k p m' := by
          intro m' hm'
          by_cases e : m' = m
          · subst e; exact hst
          · exact hno m' (by omega)
        have again : (l = 0 → m ≤ 9) → VB N 7 mX12_findBest 37 [.ref 130, .int (nI v), .int (nI H), .null, .null, .int (nI l)] [] ν2 Ψ := by
          intro hl9
          have gl : ¬ l = 2 * H := by omega
          refine tX12_findBest_37 ?_
          simp (disch := omega) only [lit, Nat.add_sub_cancel, Nat.not_lt_zero, ↓m1_mI, nI_add, pk_mul, nx_and, nx_or, and31, sh_r, sh_1, nx_nand, Nat.and_one_is_mod, nI_clamp, nI_leI, nI_ltI, nI_eq, tb_1, vp_t, up2_a, up2_b, up2_c, br_1, br_0, true_and, and_true, mI_ne, mI_ne', mI_lt, mI_le, mI_nle, mI_nlt, pk_sub, mI_sub, eq_false gl, t145]
          refine ih (m + 1) _ (by omega) (fun q => by have := hl9 q; omega) hno' (hd3.fr (Ag.rf.up (by decide))) (fun j hj => ?_) (fun j hj => ?_) (by simp only [up2_c]) ?_
          · simp (disch := omega) only [up2_b]
            exact t145' j hj
          · simp (disch := omega) only [up2_a]
            exact t146' j hj
          · simp (disch := omega) only [up2_a]
            exact t146
        refine tX12_findBest_228 ?_
        simp (disch := omega) only [lit, Nat.add_sub_cancel, Nat.not_lt_zero, ↓m1_mI, nI_add, pk_mul, nx_and, nx_or, and31, sh_r, sh_1, nx_nand, Nat.and_one_is_mod, nI_clamp, nI_leI, nI_ltI, nI_eq, tb_1, vp_t, up2_a, up2_b, up2_c, br_1, br_0, true_and, and_true, mI_ne, mI_ne', mI_lt, mI_le, mI_nle, mI_nlt, pk_sub, mI_sub, eq_false g1]
        refine ⟨fun q0 => ?_, fun q0 => again (fun q => absurd q q0)⟩
        have u0 : ν2.1 145 0 = nI m := by rw [q0] at t145; exact t145
        simp (disch := omega) only [lit, Nat.add_sub_cancel, Nat.not_lt_zero, ↓m1_mI, nI_add, pk_mul, nx_and, nx_or, and31, sh_r, sh_1, nx_nand, Nat.and_one_is_mod, nI_clamp, nI_leI, nI_ltI, nI_eq, tb_1, vp_t, up2_a, up2_b, up2_c, br_1, br_0, true_and, and_true, mI_ne, mI_ne', mI_lt, mI_le, mI_nle, mI_nlt, pk_sub, mI_sub, u0]
        refine ⟨fun q => again (fun _ => by omega), fun q => ?_⟩
        exact (hN (fun m' hm' => hno' m' (by omega)) ν2 hd3 t145' t146').2 q0
      have hl2' : (l + 1 - 1) = l := by omega
      simp (disch := omega) only [lit, Nat.add_sub_cancel, Nat.not_lt_zero, ↓m1_mI, nI_add, pk_mul, nx_and, nx_or, and31, sh_r, sh_1, nx_nand, Nat.and_one_is_mod, nI_clamp, nI_leI, nI_ltI, nI_eq, tb_1, vp_t, up2_a, up2_b, up2_c, br_1, br_0, true_and, and_true, mI_ne, mI_ne', mI_lt, mI_le, mI_nle, mI_nlt, pk_sub, mI_sub, pk_div, el]
      refine ⟨fun ev => tX12_findBest_190 ?_, fun od => tX12_findBest_190 ?_⟩
      · have e1 : (if l % 2 = 0 then (1 : Nat) else 2) = 1 := if_pos ev
        simp (disch := omega) only [lit, Nat.add_sub_cancel, Nat.not_lt_zero, ↓m1_mI, nI_add, pk_mul, nx_and, nx_or, and31, sh_r, sh_1, nx_nand, Nat.and_one_is_mod, nI_clamp, nI_leI, nI_ltI, nI_eq, tb_1, vp_t, up2_a, up2_b, up2_c, br_1, br_0, true_and, and_true, mI_ne, mI_ne', mI_lt, mI_le, mI_nle, mI_nlt, pk_sub, mI_sub]
        refine ⟨fun q => ?_, fun q => ?_⟩
        · subst q
          have hw : win B T v H (l + 1) (mH l h m) (mT l t m) (mK l k m) (mP B T l h p m) := by
            rcases hc with z | z
            · exact z.2
            · omega
          have := hS m ν2 hm ⟨hok, fun _ => hw, fun z => by omega⟩ hno hd3 t145' t146' t145
          rw [e1] at this
          exact this
        · refine tX12_findBest_198 ⟨fun _ => tX12_findBest_217 ⟨fun _ => nx (fun z => ?_), fun y => absurd rfl y⟩, fun y => absurd rfl y⟩
          rcases hc with y | y
          · omega
          · exact y.2 (z.2.1 ev)
      · have e1 : (if l % 2 = 0 then (1 : Nat) else 2) = 2 := if_neg od
        have od1 : l % 2 = 1 := by omega
        simp (disch := omega) only [lit, Nat.add_sub_cancel, Nat.not_lt_zero, ↓m1_mI, nI_add, pk_mul, nx_and, nx_or, and31, sh_r, sh_1, nx_nand, Nat.and_one_is_mod, nI_clamp, nI_leI, nI_ltI, nI_eq, tb_1, vp_t, up2_a, up2_b, up2_c, br_1, br_0, true_and, and_true, mI_ne, mI_ne', mI_lt, mI_le, mI_nle, mI_nlt, pk_sub, mI_sub]
        refine ⟨fun q => ?_, fun q => ?_⟩
        · subst q
          have hw : ¬ win B T v H (l + 1) (mH l h m) (mT l t m) (mK l k m) (mP B T l h p m) := by
            rcases hc with z | z
            · omega
            · exact z.2
          have := hS m ν2 hm ⟨hok, fun z => by omega, fun _ => hw⟩ hno hd3 t145' t146' t145
          rw [e1] at this
          exact this
        · refine tX12_findBest_198 ⟨fun _ => tX12_findBest_217 ⟨fun _ => nx (fun z => ?_), fun y => absurd rfl y⟩, fun y => absurd rfl y⟩
          rcases hc with y | y
          · exact z.2.2 od1 y.2
          · omega
    · refine ⟨fun _ => ?_, fun q => absurd rfl q⟩
      have hst : ¬ stl B T v H l h t k p m := fun z => hok z.1
      have r145' : μ1.1 145 l = nI m := by rw [e145]; exact r145
      have h10 : m ≠ 10 := fun q => hok (Or.inl q)
      simp (disch := omega) only [lit, Nat.add_sub_cancel, Nat.not_lt_zero, ↓m1_mI, nI_add, pk_mul, nx_and, nx_or, and31, sh_r, sh_1, nx_nand, Nat.and_one_is_mod, nI_clamp, nI_leI, nI_ltI, nI_eq, tb_1, vp_t, up2_a, up2_b, up2_c, br_1, br_0, true_and, and_true, mI_ne, mI_ne', mI_lt, mI_le, mI_nle, mI_nlt, pk_sub, mI_sub, r145']
      refine ih (m + 1) _ (by omega) (fun q => by omega) (fun m' hm' => ?_) (e1.fr (Ag.rf.up (by decide))) (fun j hj => ?_) (fun j hj => ?_) (by simp only [up2_c]) ?_
      · by_cases e : m' = m
        · subst e; exact hst
        · exact hno m' (by omega)
      · simp (disch := omega) only [up2_b]
        rw [e145]
        exact f145 j hj
      · simp (disch := omega) only [up2_a]
        rw [e146 j (by omega)]
        exact f146 j hj
      · simp (disch := omega) only [up2_a]
        rw [e146 l (by omega)]
        exact r146
end DZ
