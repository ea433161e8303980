/-! the state of both sides, over one picture B of the court -/
section ST
variable {N : Nat} {μ : Me} {B : Nat → Nat} {I : Nat → Nat → Int32}
def rgI (lo hi : Nat) (x : Int32) : Prop := ∃ n, lo ≤ n ∧ n ≤ hi ∧ x = nI n
theorem rgI_iff {lo hi : Nat} {x : Int32} (hl : lo < 2 ^ 31) (hh : hi < 2 ^ 31) : rgI lo hi x ↔ nI lo ≤ x ∧ x ≤ nI hi := by
  constructor
  · rintro ⟨n, h1, h2, rfl⟩
    exact ⟨nI_le h1 (by omega), nI_le h2 hh⟩
  · intro ⟨h1, h2⟩
    have h3 := i_le.mp h1
    rw [nI_toInt hl] at h3
    obtain ⟨n, hn, rfl⟩ := rng hh (fun h => by have h4 := i_lt.mp h; rw [nI_toInt (by decide)] at h4; omega) h2
    rw [nI_toInt (by omega)] at h3
    exact ⟨n, by omega, hn, rfl⟩
theorem r_in (lo hi : Nat) (hl : lo < 2 ^ 31) (hh : hi < 2 ^ 31) {v : Int32} {Ψ : Int32 → Me → Prop} (h1 : rgI lo hi v → Ψ 1 μ) (h0 : ¬ rgI lo hi v → Ψ 0 μ) : VI N 1 mX12_isIn [.int v, .int (nI lo), .int (nI hi)] μ Ψ :=
  c_isIn (fun a b => h1 ((rgI_iff hl hh).mpr ⟨a, b⟩)) (fun h => h0 (fun k => h ((rgI_iff hl hh).mp k)))
theorem rg_lt {lo hi : Nat} {x : Int32} (hl : lo < 2 ^ 31) (hh : hi < 2 ^ 31) (h : x < nI lo) : ¬ rgI lo hi x := by
  intro k
  have := ((rgI_iff hl hh).mp k).1
  exact absurd h (i_nlt.mpr this)
theorem rg_gt {lo hi : Nat} {x : Int32} (hl : lo < 2 ^ 31) (hh : hi < 2 ^ 31) (h : nI hi < x) : ¬ rgI lo hi x := by
  intro k
  have := ((rgI_iff hl hh).mp k).2
  exact absurd h (i_nlt.mpr this)
theorem rg_ge {lo hi : Nat} {x : Int32} (hh : hi + 1 < 2 ^ 31) (h : nI (hi + 1) ≤ x) : ¬ rgI lo hi x := by
  rintro ⟨n, h1, h2, rfl⟩
  exact nI_ge (show n < hi + 1 by omega) hh h
theorem rg_mk {lo hi : Nat} {x : Int32} (hl : lo < 2 ^ 31) (hh : hi < 2 ^ 31) (h1 : ¬ x < nI lo) (h2 : ¬ nI hi < x) : rgI lo hi x := (rgI_iff hl hh).mpr ⟨i_nlt.mp h1, i_nlt.mp h2⟩
theorem rg_mk' {lo hi : Nat} {x : Int32} (hl : lo < 2 ^ 31) (hh : hi + 1 < 2 ^ 31) (h1 : ¬ x < nI lo) (h2 : ¬ nI (hi + 1) ≤ x) : rgI lo hi x := by
  have h3 := i_nle.mp h2
  rw [i_lt, nI_toInt hh] at h3
  exact (rgI_iff hl (by omega)).mpr ⟨i_nlt.mp h1, by rw [i_le, nI_toInt (by omega)]; omega⟩
/-! the reference's rows -/
def rowB (B : Nat → Nat) (r : Nat → Int32) : Prop := (∀ k, k ≠ 4 → r k = nI (B k)) ∧ r 4 = nI (B 4) - nI 1
theorem rowB_up {p n : Nat} (h : rowB B (I 131)) (hp : p ≠ 4) : rowB (ub B p n) (up2 I 131 p (nI n) 131) := by
  refine ⟨fun k hk => ?_, ?_⟩
  · by_cases e : k = p
    · subst e; rw [up2_c, ub_e]
    · rw [up2_b e, ub_n e]; exact h.1 k hk
  · rw [up2_b (Ne.symm hp), ub_n (Ne.symm hp)]; exact h.2
theorem rowB_4 {n : Nat} {v : Int32} (h : rowB B (I 131)) (hv : v = nI n - nI 1) : rowB (ub B 4 n) (up2 I 131 4 v 131) := by
  refine ⟨fun k hk => ?_, ?_⟩
  · rw [up2_b hk, ub_n hk]; exact h.1 k hk
  · rw [up2_c, ub_e]; exact hv
/-! the class's courts -/
def sb (B : Nat → Nat) : Nat := bits (B 0) (fun i => decide (B (10 + 5 * i + 4) = 1))
def cHd (B : Nat → Nat) (r : Nat → Int32) : Prop := r 4 = nI (B 2) ∧ r 5 = nI (B 3) ∧ r 6 = nI (B 4) - nI 1
def cRoll (B : Nat → Nat) (r r1 r2 r3 r4 : Nat → Int32) : Prop := r 0 = nI (B 0) ∧ r 1 = nI (sb B) ∧ ∀ i, i < B 0 → r1 i = nI (B (10 + 5 * i)) ∧ r2 i = nI (B (10 + 5 * i + 1)) ∧ r3 i = nI (B (10 + 5 * i + 2)) ∧ r4 i = nI (B (10 + 5 * i + 3))
def cRow (B : Nat → Nat) (n s : Nat) (r r1 r2 r3 : Nat → Int32) : Prop := r 0 = nI (B n) ∧ ∀ i, i < B n → r1 i = nI (B (s + 3 * i)) ∧ r2 i = nI (B (s + 3 * i + 1)) ∧ r3 i = nI (B (s + 3 * i + 2))
def CB (B : Nat → Nat) (c : Nat) (I : Nat → Nat → Int32) : Prop := cHd B (I c) ∧ cRoll B (I (c + 1)) (I (c + 2)) (I (c + 3)) (I (c + 4)) (I (c + 5)) ∧ cRow B 1 60 (I (c + 6)) (I (c + 7)) (I (c + 8)) (I (c + 9)) ∧ cRow B 5 80 (I (c + 10)) (I (c + 11)) (I (c + 12)) (I (c + 13)) ∧ cRow B 6 110 (I (c + 14)) (I (c + 15)) (I (c + 16)) (I (c + 17))
theorem CB.t0 (h : CB B 3 I) : I 3 4 = nI (B 2) := h.1.1
theorem CB.t1 (h : CB B 3 I) : I 3 5 = nI (B 3) := h.1.2.1
theorem CB.t2 (h : CB B 3 I) : I 3 6 = nI (B 4) - nI 1 := h.1.2.2
theorem CB.k0 (h : CB B 3 I) : I 4 0 = nI (B 0) := h.2.1.1
theorem CB.k1 (h : CB B 3 I) : I 4 1 = nI (sb B) := h.2.1.2.1
theorem CB.k2 (h : CB B 3 I) {i : Nat} (hi : i < B 0) : I 5 i = nI (B (10 + 5 * i)) := (h.2.1.2.2 i hi).1
theorem CB.k3 (h : CB B 3 I) {i : Nat} (hi : i < B 0) : I 6 i = nI (B (10 + 5 * i + 1)) := (h.2.1.2.2 i hi).2.1
theorem CB.k4 (h : CB B 3 I) {i : Nat} (hi : i < B 0) : I 7 i = nI (B (10 + 5 * i + 2)) := (h.2.1.2.2 i hi).2.2.1
theorem CB.k5 (h : CB B 3 I) {i : Nat} (hi : i < B 0) : I 8 i = nI (B (10 + 5 * i + 3)) := (h.2.1.2.2 i hi).2.2.2
theorem CB.k6 (h : CB B 3 I) : I 9 0 = nI (B 1) := h.2.2.1.1
theorem CB.k7 (h : CB B 3 I) {i : Nat} (hi : i < B 1) : I 10 i = nI (B (60 + 3 * i)) := (h.2.2.1.2 i hi).1
theorem CB.k8 (h : CB B 3 I) {i : Nat} (hi : i < B 1) : I 11 i = nI (B (60 + 3 * i + 1)) := (h.2.2.1.2 i hi).2.1
theorem CB.k9 (h : CB B 3 I) {i : Nat} (hi : i < B 1) : I 12 i = nI (B (60 + 3 * i + 2)) := (h.2.2.1.2 i hi).2.2
theorem CB.k10 (h : CB B 3 I) : I 13 0 = nI (B 5) := h.2.2.2.1.1
theorem CB.k11 (h : CB B 3 I) {i : Nat} (hi : i < B 5) : I 14 i = nI (B (80 + 3 * i)) := (h.2.2.2.1.2 i hi).1
theorem CB.k12 (h : CB B 3 I) {i : Nat} (hi : i < B 5) : I 15 i = nI (B (80 + 3 * i + 1)) := (h.2.2.2.1.2 i hi).2.1
theorem CB.k13 (h : CB B 3 I) {i : Nat} (hi : i < B 5) : I 16 i = nI (B (80 + 3 * i + 2)) := (h.2.2.2.1.2 i hi).2.2
theorem CB.k14 (h : CB B 3 I) : I 17 0 = nI (B 6) := h.2.2.2.2.1
theorem CB.k15 (h : CB B 3 I) {i : Nat} (hi : i < B 6) : I 18 i = nI (B (110 + 3 * i)) := (h.2.2.2.2.2 i hi).1
theorem CB.k16 (h : CB B 3 I) {i : Nat} (hi : i < B 6) : I 19 i = nI (B (110 + 3 * i + 1)) := (h.2.2.2.2.2 i hi).2.1
theorem CB.k17 (h : CB B 3 I) {i : Nat} (hi : i < B 6) : I 20 i = nI (B (110 + 3 * i + 2)) := (h.2.2.2.2.2 i hi).2.2
/-- rows that stay keep the court -/
theorem CB.fr {c : Nat} {I' : Nat → Nat → Int32} (h : CB B c I) (he : ∀ a, c ≤ a → a ≤ c + 17 → I' a = I a) : CB B c I' := by
  unfold CB at *
  rw [he c (by omega) (by omega), he (c + 1) (by omega) (by omega), he (c + 2) (by omega) (by omega), he (c + 3) (by omega) (by omega), he (c + 4) (by omega) (by omega), he (c + 5) (by omega) (by omega), he (c + 6) (by omega) (by omega), he (c + 7) (by omega) (by omega), he (c + 8) (by omega) (by omega), he (c + 9) (by omega) (by omega), he (c + 10) (by omega) (by omega), he (c + 11) (by omega) (by omega), he (c + 12) (by omega) (by omega), he (c + 13) (by omega) (by omega), he (c + 14) (by omega) (by omega), he (c + 15) (by omega) (by omega), he (c + 16) (by omega) (by omega), he (c + 17) (by omega) (by omega)]
  exact h
/-! what is always so of a court -/
def WB (B : Nat → Nat) : Prop :=
  ((∀ k, B k < 65536 ∧ (175 ≤ k → B k = 0)) ∧ B 0 ≤ 10 ∧ B 1 ≤ 6 ∧ B 2 < 24 ∧ B 3 ≤ 4 ∧ B 4 ≤ B 3 ∧ B 5 ≤ 10 ∧ B 6 ≤ 20) ∧
  (∀ i, i < B 0 → B (10 + 5 * i + 1) < 4 ∧ 1 ≤ B (10 + 5 * i + 2) ∧ B (10 + 5 * i + 2) ≤ 9 ∧ B (10 + 5 * i + 3) ≤ 99 ∧ B (10 + 5 * i + 4) ≤ 1) ∧
  (∀ i, i < B 1 → B (60 + 3 * i) < 16 ∧ 1 ≤ B (60 + 3 * i + 1) ∧ B (60 + 3 * i + 1) ≤ 9 ∧ B (60 + 3 * i + 2) ≤ 99) ∧
  (∀ i, i < B 5 → B (80 + 3 * i) < B 0 ∧ B (80 + 3 * i + 2) ≤ 9999) ∧
  (∀ i j, i < B 5 → j < B 5 → B (80 + 3 * i) = B (80 + 3 * j) → i = j) ∧
  (∀ i, i < B 6 → B (110 + 3 * i) < B 0 ∧ B (110 + 3 * i + 1) < 16 ∧ B (110 + 3 * i + 2) ≤ 1)
theorem WB.all (h : WB B) : ∀ k, B k < 65536 := fun k => (h.1.1 k).1
theorem WB.big (h : WB B) {k : Nat} (hk : 175 ≤ k) : B k = 0 := (h.1.1 k).2 hk
theorem WB.n (h : WB B) : B 0 ≤ 10 ∧ B 1 ≤ 6 ∧ B 2 < 24 ∧ B 3 ≤ 4 ∧ B 4 ≤ B 3 ∧ B 5 ≤ 10 ∧ B 6 ≤ 20 := h.1.2
theorem WB.w (h : WB B) {i : Nat} (hi : i < B 0) : B (10 + 5 * i) < 65536 ∧ B (10 + 5 * i + 1) < 4 ∧ 1 ≤ B (10 + 5 * i + 2) ∧ B (10 + 5 * i + 2) ≤ 9 ∧ B (10 + 5 * i + 3) ≤ 99 ∧ B (10 + 5 * i + 4) ≤ 1 := ⟨(h.1.1 _).1, h.2.1 i hi⟩
theorem WB.v (h : WB B) {i : Nat} (hi : i < B 1) : B (60 + 3 * i) < 16 ∧ 1 ≤ B (60 + 3 * i + 1) ∧ B (60 + 3 * i + 1) ≤ 9 ∧ B (60 + 3 * i + 2) ≤ 99 := h.2.2.1 i hi
theorem WB.h (h : WB B) {i : Nat} (hi : i < B 5) : B (80 + 3 * i) < B 0 ∧ B (80 + 3 * i + 1) < 65536 ∧ B (80 + 3 * i + 2) ≤ 9999 := ⟨(h.2.2.2.1 i hi).1, (h.1.1 _).1, (h.2.2.2.1 i hi).2⟩
theorem WB.s (h : WB B) {i : Nat} (hi : i < B 6) : B (110 + 3 * i) < B 0 ∧ B (110 + 3 * i + 1) < 16 ∧ B (110 + 3 * i + 2) ≤ 1 := h.2.2.2.2.2 i hi
theorem sb_lt (h : WB B) : sb B < 2 ^ 10 := Nat.lt_of_lt_of_le (bits_lt _ _) (Nat.pow_le_pow_right (by decide) h.n.1)
theorem sb_tb (B : Nat → Nat) {i : Nat} (hi : i < B 0) : (sb B).testBit i = decide (B (10 + 5 * i + 4) = 1) := by
  unfold sb; rw [bits_tb]; simp [hi]
/-! boolean questions of the class -/
section
variable {x : Int32} {Ψ : Int32 → Me → Prop}
theorem c_isW (hC : CB B 3 μ.1) (hW : WB B) (h1 : (∃ w, w < B 0 ∧ x = nI w) → Ψ 1 μ) (h0 : ¬ (∃ w, w < B 0 ∧ x = nI w) → Ψ 0 μ) : VI N 1 mX11_isWitness [.ref 2, .int x] μ Ψ := by
  have h := hW.n
  refine tX11_isWitness_0 ?_
  rw [hC.k0]
  rcases pk_ix x (show B 0 < 2 ^ 31 by omega) with g | g | ⟨j, hj, rfl⟩
  · refine ⟨fun _ => ⟨_, rfl, h0 ?_⟩, fun e => absurd g e⟩
    rintro ⟨w, hw, rfl⟩
    exact nI_pos (by omega) g
  · refine ⟨fun _ => ⟨_, rfl, h0 ?_⟩, fun _ => ⟨fun _ => ⟨_, rfl, h0 ?_⟩, fun e => absurd g e⟩⟩ <;>
    · rintro ⟨w, hw, rfl⟩
      exact nI_ge hw (by omega) g
  · refine ⟨fun e => absurd e (nI_pos (by omega)), fun _ => ⟨fun e => absurd e (nI_ge hj (by omega)), fun _ => ⟨_, rfl, h1 ⟨j, hj, rfl⟩⟩⟩⟩
theorem c_isV (hC : CB B 3 μ.1) (hW : WB B) (h1 : (∃ w, w < B 1 ∧ x = nI w) → Ψ 1 μ) (h0 : ¬ (∃ w, w < B 1 ∧ x = nI w) → Ψ 0 μ) : VI N 1 mX11_isVerdict [.ref 2, .int x] μ Ψ := by
  have h := hW.n
  refine tX11_isVerdict_0 ?_
  rw [hC.k6]
  rcases pk_ix x (show B 1 < 2 ^ 31 by omega) with g | g | ⟨j, hj, rfl⟩
  · refine ⟨fun _ => ⟨_, rfl, h0 ?_⟩, fun e => absurd g e⟩
    rintro ⟨w, hw, rfl⟩
    exact nI_pos (by omega) g
  · refine ⟨fun _ => ⟨_, rfl, h0 ?_⟩, fun _ => ⟨fun _ => ⟨_, rfl, h0 ?_⟩, fun e => absurd g e⟩⟩ <;>
    · rintro ⟨w, hw, rfl⟩
      exact nI_ge hw (by omega) g
  · refine ⟨fun e => absurd e (nI_pos (by omega)), fun _ => ⟨fun e => absurd e (nI_ge hj (by omega)), fun _ => ⟨_, rfl, h1 ⟨j, hj, rfl⟩⟩⟩⟩
theorem c_isF (h1 : (∃ w, w < 16 ∧ x = nI w) → Ψ 1 μ) (h0 : ¬ (∃ w, w < 16 ∧ x = nI w) → Ψ 0 μ) : VI N 1 mX11_isFact [.int x] μ Ψ := by
  refine tX11_isFact_0 ?_
  rcases pk_ix x (show 16 < 2 ^ 31 by omega) with g | g | ⟨j, hj, rfl⟩
  · refine ⟨fun _ => ⟨_, rfl, h0 ?_⟩, fun e => absurd g e⟩
    rintro ⟨w, hw, rfl⟩
    exact nI_pos (by omega) g
  · refine ⟨fun _ => ⟨_, rfl, h0 ?_⟩, fun _ => ⟨fun _ => ⟨_, rfl, h0 ?_⟩, fun e => absurd g e⟩⟩ <;>
    · rintro ⟨w, hw, rfl⟩
      exact nI_ge hw (by omega) g
  · refine ⟨fun e => absurd e (nI_pos (by omega)), fun _ => ⟨fun e => absurd e (nI_ge (b := 16) hj (by omega)), fun _ => ⟨_, rfl, h1 ⟨j, hj, rfl⟩⟩⟩⟩
theorem c_isS (hC : CB B 3 μ.1) (hW : WB B) (h1 : (∃ w, w < 2 ^ B 0 ∧ x = nI w) → Ψ 1 μ) (h0 : ¬ (∃ w, w < 2 ^ B 0 ∧ x = nI w) → Ψ 0 μ) : VI N 1 mX11_isSet [.ref 2, .int x] μ Ψ := by
  have h := hW.n
  have h2 : 2 ^ B 0 < 2 ^ 31 := p2_31 (by omega)
  refine tX11_isSet_0 ?_
  rw [hC.k0]
  simp (disch := omega) only [lit, Nat.add_sub_cancel, Nat.not_lt_zero, ↓m1_mI, nI_add, pk_mul, nx_and, nx_or, and31, sh_r, sh_1, nx_nand, Nat.and_one_is_mod, nI_clamp, nI_leI, nI_ltI, nI_eq, tb_1, vp_t, up2_a, up2_b, up2_c, br_1, br_0, true_and, and_true, mI_ne, mI_ne', mI_lt, mI_le, mI_nle, mI_nlt, pk_sub, mI_sub]
  rcases pk_ix x h2 with g | g | ⟨j, hj, rfl⟩
  · refine ⟨fun _ => ⟨_, rfl, h0 ?_⟩, fun e => absurd g e⟩
    rintro ⟨w, hw, rfl⟩
    exact nI_pos (by omega) g
  · refine ⟨fun _ => ⟨_, rfl, h0 ?_⟩, fun _ => ⟨fun _ => ⟨_, rfl, h0 ?_⟩, fun e => absurd g e⟩⟩ <;>
    · rintro ⟨w, hw, rfl⟩
      exact nI_ge hw (by omega) g
  · refine ⟨fun e => absurd e (nI_pos (by omega)), fun _ => ⟨fun e => absurd e (nI_ge hj (by omega)), fun _ => ⟨_, rfl, h1 ⟨j, hj, rfl⟩⟩⟩⟩
theorem c_isHC (hC : CB B 3 μ.1) (hW : WB B) (h1 : (∃ w, w ≤ B 5 ∧ x = nI w) → Ψ 1 μ) (h0 : ¬ (∃ w, w ≤ B 5 ∧ x = nI w) → Ψ 0 μ) : VI N 1 mX11_isHeardCount [.ref 2, .int x] μ Ψ := by
  have h := hW.n
  refine tX11_isHeardCount_0 ?_
  rw [hC.k10]
  rcases pk_ix x (show B 5 + 1 < 2 ^ 31 by omega) with g | g | ⟨j, hj, rfl⟩
  · refine ⟨fun _ => ⟨_, rfl, h0 ?_⟩, fun e => absurd g e⟩
    rintro ⟨w, hw, rfl⟩
    exact nI_pos (by omega) g
  · have g2 : nI (B 5) < x := by
      have g3 := i_le.mp g
      rw [nI_toInt (by omega)] at g3
      rw [i_lt, nI_toInt (by omega)]
      omega
    refine ⟨fun _ => ⟨_, rfl, h0 ?_⟩, fun _ => ⟨fun _ => ⟨_, rfl, h0 ?_⟩, fun e => absurd g2 e⟩⟩ <;>
    · rintro ⟨w, hw, rfl⟩
      exact nI_nlt hw (by omega) g2
  · refine ⟨fun e => absurd e (nI_pos (by omega)), fun _ => ⟨fun e => absurd e (nI_nlt (by omega) (by omega)), fun _ => ⟨_, rfl, h1 ⟨j, by omega, rfl⟩⟩⟩⟩
theorem c_isX (hC : CB B 3 μ.1) (hW : WB B) {w : Nat} (hw : w < B 0) (h1 : B (10 + 5 * w + 4) = 1 → Ψ 1 μ) (h0 : ¬ B (10 + 5 * w + 4) = 1 → Ψ 0 μ) : VI N 1 mX11_isStruck [.ref 2, .int (nI w)] μ Ψ := by
  have h := hW.n
  have h2 := sb_lt hW
  refine tX11_isStruck_0 ?_
  rw [hC.k1]
  simp (disch := omega) only [lit, Nat.add_sub_cancel, Nat.not_lt_zero, ↓m1_mI, nI_add, pk_mul, nx_and, nx_or, and31, sh_r, sh_1, nx_nand, Nat.and_one_is_mod, nI_clamp, nI_leI, nI_ltI, nI_eq, tb_1, vp_t, up2_a, up2_b, up2_c, br_1, br_0, true_and, and_true, mI_ne, mI_ne', mI_lt, mI_le, mI_nle, mI_nlt, pk_sub, mI_sub, sb_tb B hw, decide_eq_true_eq]
  exact ⟨fun e => ⟨_, rfl, h1 e⟩, fun e => ⟨_, rfl, h0 e⟩⟩
end
/-! boolean questions of the reference -/
section
variable {x : Int32} {Ψ : Int32 → Me → Prop}
theorem ix_1 {n : Nat} (hn : n < 2 ^ 31) : (nI 0 ≤ x ∧ x ≤ nI n - nI 1) ↔ ∃ w, w < n ∧ x = nI w := by
  constructor
  · intro ⟨h1, h2⟩
    rcases pk_ix x hn with g | g | g
    · exact absurd g (i_nlt.mpr h1)
    · exfalso
      rw [i_le] at h2 g
      rw [nI_toInt hn] at g
      rw [i_le, nI_toInt (by decide)] at h1
      rcases Nat.eq_zero_or_pos n with rfl | h0
      · have h3 : (nI 0 - nI 1).toInt = -1 := by decide
        omega
      · rw [pk_sub h0, nI_toInt (by omega)] at h2
        omega
    · exact g
  · rintro ⟨w, hw, rfl⟩
    refine ⟨nI_le (by omega) (by omega), ?_⟩
    rw [pk_sub (by omega)]
    exact nI_le (by omega) (by omega)
theorem r_isW (hB : rowB B (μ.1 131)) (hW : WB B) (h1 : (∃ w, w < B 0 ∧ x = nI w) → Ψ 1 μ) (h0 : ¬ (∃ w, w < B 0 ∧ x = nI w) → Ψ 0 μ) : VI N 2 mX12_isWitness [.ref 130, .int x] μ Ψ := by
  have h := hW.n
  have e := ix_1 (x := x) (show B 0 < 2 ^ 31 by omega)
  refine c_isWitness ?_ ?_
  · intro g1 g2
    rw [hB.1 0 (by decide)] at g2
    exact h1 (e.mp ⟨g1, g2⟩)
  · intro g
    rw [hB.1 0 (by decide)] at g
    exact h0 (fun k => g (e.mpr k))
theorem r_isV (hB : rowB B (μ.1 131)) (hW : WB B) (h1 : (∃ w, w < B 1 ∧ x = nI w) → Ψ 1 μ) (h0 : ¬ (∃ w, w < B 1 ∧ x = nI w) → Ψ 0 μ) : VI N 2 mX12_isVerdict [.ref 130, .int x] μ Ψ := by
  have h := hW.n
  have e := ix_1 (x := x) (show B 1 < 2 ^ 31 by omega)
  refine c_isVerdict ?_ ?_
  · intro g1 g2
    rw [hB.1 1 (by decide)] at g2
    exact h1 (e.mp ⟨g1, g2⟩)
  · intro g
    rw [hB.1 1 (by decide)] at g
    exact h0 (fun k => g (e.mpr k))
theorem r_isS (hB : rowB B (μ.1 131)) (hW : WB B) (h1 : (∃ w, w < 2 ^ B 0 ∧ x = nI w) → Ψ 1 μ) (h0 : ¬ (∃ w, w < 2 ^ B 0 ∧ x = nI w) → Ψ 0 μ) : VI N 2 mX12_isSet [.ref 130, .int x] μ Ψ := by
  have h := hW.n
  have h2 : 2 ^ B 0 < 2 ^ 31 := p2_31 (by omega)
  have e := ix_1 (x := x) h2
  refine tX12_isSet_0 ?_
  rw [hB.1 0 (by decide)]
  have e2 : (1 : Int32) <<< (nI (B 0) &&& 31) - 1 = nI (2 ^ B 0) - nI 1 := by
    show nI 1 <<< (nI (B 0) &&& nI 31) - nI 1 = _
    rw [nx_and, and31 (by omega), sh_1 (by omega)]
  rw [e2]
  refine c_isIn ?_ ?_
  · intro g1 g2
    exact ⟨Or.inr rfl, _, rfl, h1 (e.mp ⟨g1, g2⟩)⟩
  · intro g
    exact ⟨Or.inl rfl, _, rfl, h0 (fun k => g (e.mpr k))⟩
theorem r_isF (h1 : (∃ w, w < 16 ∧ x = nI w) → Ψ 1 μ) (h0 : ¬ (∃ w, w < 16 ∧ x = nI w) → Ψ 0 μ) : VI N 1 mX12_isIn [.int x, .int 0, .int 15] μ Ψ :=
  r_in 0 15 (by decide) (by decide) (fun ⟨n, _, h2, h3⟩ => h1 ⟨n, by omega, h3⟩) (fun g => h0 (fun ⟨n, h2, h3⟩ => g ⟨n, by omega, by omega, h3⟩))
theorem r_isHC (hB : rowB B (μ.1 131)) (hW : WB B) (h1 : (∃ w, w ≤ B 5 ∧ x = nI w) → Ψ 1 μ) (h0 : ¬ (∃ w, w ≤ B 5 ∧ x = nI w) → Ψ 0 μ) : VI N 1 mX12_isIn [.int x, .int 0, .int (μ.1 131 5)] μ Ψ := by
  have h := hW.n
  rw [hB.1 5 (by decide)]
  exact r_in 0 (B 5) (by decide) (by omega) (fun ⟨n, _, h2, h3⟩ => h1 ⟨n, h2, h3⟩) (fun g => h0 (fun ⟨n, h2, h3⟩ => g ⟨n, by omega, by omega, h3⟩))
theorem r_isX (hB : rowB B (μ.1 131)) (hW : WB B) {w : Nat} (hw : w < B 0) (h1 : B (10 + 5 * w + 4) = 1 → Ψ 1 μ) (h0 : ¬ B (10 + 5 * w + 4) = 1 → Ψ 0 μ) : VI N 1 mX12_isStruck [.ref 130, .int (nI w)] μ Ψ := by
  have h := hW.n
  have h2 := hW.w hw
  have rB := hB.1
  refine tX12_isStruck_0 ?_
  simp (disch := omega) only [lit, Nat.add_sub_cancel, Nat.not_lt_zero, ↓m1_mI, nI_add, pk_mul, nx_and, nx_or, and31, sh_r, sh_1, nx_nand, Nat.and_one_is_mod, nI_clamp, nI_leI, nI_ltI, nI_eq, tb_1, vp_t, up2_a, up2_b, up2_c, br_1, br_0, true_and, and_true, mI_ne, mI_ne', mI_lt, mI_le, mI_nle, mI_nlt, pk_sub, mI_sub, rB]
  exact ⟨fun e => ⟨_, rfl, h1 e⟩, fun e => ⟨_, rfl, h0 e⟩⟩
end
end ST
