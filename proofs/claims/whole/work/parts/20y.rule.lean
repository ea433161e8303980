/-! rules: the rules of reading, the class, the reference -/
section RY
variable {T V : Nat → Nat}
def numk (T V : Nat → Nat) (lo hi k : Nat) : Prop := T k = 20 ∧ lo ≤ V k ∧ V k ≤ hi
def nbad (T V : Nat → Nat) (lo hi k f : Nat) : Prop := (T k ≠ 20 ∧ f = 1) ∨ (T k = 20 ∧ ¬ (lo ≤ V k ∧ V k ≤ hi) ∧ f = 2)
/-- facts behind by or unless: x so far, all below b -/
def RfC (T V : Nat → Nat) (b : Nat) (P : Nat → Nat → Nat → Nat → Nat → Prop) : Prop :=
  (∀ k x y, T k ≠ 20 → P k x 1 k y) ∧
  (∀ k x y, T k = 20 → ¬ V k < b → P k x 2 k y) ∧
  (∀ k x f k1 y, T k = 20 → V k < b → T (k + 1) = 44 → P (k + 2) (x ||| 2 ^ V k) f k1 y → P k x f k1 y) ∧
  (∀ k x, T k = 20 → V k < b → T (k + 1) ≠ 44 → P k x 0 (k + 1) (x ||| 2 ^ V k))
def Rf (T V : Nat → Nat) (b k x f k1 y : Nat) : Prop := ∀ P, RfC T V b P → P k x f k1 y
theorem Rf.rules {b : Nat} : RfC T V b (Rf T V b) := ⟨fun k x y h1 P h => h.1 k x y h1, fun k x y h1 h2 P h => h.2.1 k x y h1 h2, fun k x f k1 y h1 h2 h3 h4 P h => h.2.2.1 k x f k1 y h1 h2 h3 (h4 P h), fun k x h1 h2 h3 P h => h.2.2.2 k x h1 h2 h3⟩
def Rfb (T V : Nat → Nat) (b w k f k1 y : Nat) : Prop := (T k ≠ w ∧ f = 0 ∧ k1 = k ∧ y = 0) ∨ (T k = w ∧ Rf T V b (k + 1) 0 f k1 y)
theorem Rf.lt {b k x f k1 y : Nat} (h : Rf T V b k x f k1 y) : f ≤ 2 ∧ k ≤ k1 ∧ (f = 0 → x < 2 ^ b → y < 2 ^ b) := by
  refine h (fun k x f k1 y => f ≤ 2 ∧ k ≤ k1 ∧ (f = 0 → x < 2 ^ b → y < 2 ^ b)) ⟨?_, ?_, ?_, ?_⟩
  · intro k x y _; exact ⟨by decide, Nat.le_refl _, fun e => absurd e (by decide)⟩
  · intro k x y _ _; exact ⟨by decide, Nat.le_refl _, fun e => absurd e (by decide)⟩
  · intro k x f k1 y _ h2 _ ⟨g1, g2, g3⟩
    exact ⟨g1, by omega, fun e hx => g3 e (Nat.or_lt_two_pow hx (Nat.pow_lt_pow_right (by decide) h2))⟩
  · intro k x _ h2 _
    exact ⟨by decide, by omega, fun e hx => Nat.or_lt_two_pow hx (Nat.pow_lt_pow_right (by decide) h2)⟩
theorem Rfb.lt {b w k f k1 y : Nat} (h : Rfb T V b w k f k1 y) : f ≤ 2 ∧ k ≤ k1 ∧ (f = 0 → y < 2 ^ b) := by
  rcases h with ⟨_, h1, h2, h3⟩ | ⟨_, h1⟩
  · exact ⟨by omega, by omega, fun _ => by rw [h3]; exact Nat.two_pow_pos b⟩
  · have := h1.lt
    exact ⟨this.1, by omega, fun e => this.2.2 e (Nat.two_pow_pos b)⟩
/-- a rule: its fact, worth, price, needs, bars are v 1 .. v 5 -/
def Rr (T V : Nat → Nat) (k f k1 : Nat) (v : Nat → Nat) : Prop :=
  (nbad T V 0 15 k f ∧ k1 = k) ∨
  (numk T V 0 15 k ∧ T (k + 1) ≠ 5 ∧ f = 1 ∧ k1 = k + 1) ∨
  (numk T V 0 15 k ∧ T (k + 1) = 5 ∧ nbad T V 1 9 (k + 2) f ∧ k1 = k + 2) ∨
  (numk T V 0 15 k ∧ T (k + 1) = 5 ∧ numk T V 1 9 (k + 2) ∧ T (k + 3) ≠ 6 ∧ f = 1 ∧ k1 = k + 3) ∨
  (numk T V 0 15 k ∧ T (k + 1) = 5 ∧ numk T V 1 9 (k + 2) ∧ T (k + 3) = 6 ∧ nbad T V 0 99 (k + 4) f ∧ k1 = k + 4) ∨
  (numk T V 0 15 k ∧ T (k + 1) = 5 ∧ numk T V 1 9 (k + 2) ∧ T (k + 3) = 6 ∧ numk T V 0 99 (k + 4) ∧ f ≠ 0 ∧ ∃ y, Rfb T V (V k) 7 (k + 5) f k1 y) ∨
  (numk T V 0 15 k ∧ T (k + 1) = 5 ∧ numk T V 1 9 (k + 2) ∧ T (k + 3) = 6 ∧ numk T V 0 99 (k + 4) ∧ ∃ k2 y z, Rfb T V (V k) 7 (k + 5) 0 k2 y ∧ Rfb T V (V k) 8 k2 f k1 z ∧ (f = 0 → v 1 = V k ∧ v 2 = V (k + 2) ∧ v 3 = V (k + 4) ∧ v 4 = y ∧ v 5 = z))
end RY
section CY
variable {N : Nat} {bt : Nat → Nat} {tn m : Nat} {L : Cd}
theorem hi_lt {b v : Nat} (hb : b < 16) (hv : v ≤ 10000) : (nI v ≤ nI b - 1) ↔ v < b := by
  by_cases e : b = 0
  · subst e
    rw [show nI 0 - 1 = mI from rfl, mI_nle (by omega)]
    exact ⟨fun q => q.elim, fun q => absurd q (by omega)⟩
  · rw [show nI b - 1 = nI (b - 1) from n1_eq (by omega), nI_leI (by omega) (by omega)]
    omega
theorem c_fbL {b : Nat} (hb : b < 16) {Ψ : Int32 → Me → Prop} : ∀ n k x i (μ : Me), m - k < n → CKt bt tn m k L μ.1 → kT bt tn k ≠ 21 → i ≤ k → (∀ f k1 y v I, Rf (kT bt tn) (kV bt tn) b (k + 1) x f k1 y → CFr μ.1 I → (f = 0 → v = nI y ∧ CKt bt tn m k1 L I) → (f ≠ 0 → CF bt tn m f k1 I) → Ψ v (I, μ.2)) → VB N 3 mX6_factsBehind 20 [.ref 51, .null, .int (nI b), .int (nI x), .int (nI 1), .int (nI i)] [] μ (fun r μ' => ∃ v, r = some (.int v) ∧ Ψ v μ') := by
  obtain ⟨u1, u2, u3, u4⟩ := Rf.rules (T := kT bt tn) (V := kV bt tn) (b := b)
  intro n
  induction n with
  | zero => intro k x i μ hn; omega
  | succ n ih =>
    intro k x i μ hn h hk hi K
    have hm := h.1.1
    have hkm := h.2.1
    have hlt := ((h.1.get hkm).2.2 hk).1
    have hv := kV_le (bt := bt) (tn := tn) (k + 1)
    have fin : ∀ (x5 : Nat) (x3 : Int32) (μ' : Me), x5 ≤ 300 → Ψ x3 μ' → VB N 3 mX6_factsBehind 20 [.ref 51, .null, .int (nI b), .int x3, .int (nI 0), .int (nI x5)] [] μ' (fun r μ' => ∃ v, r = some (.int v) ∧ Ψ v μ') := by
      intro x5 x3 μ' hx5 hΨ
      refine tX6_factsBehind_20 ?_
      simp (disch := omega) only [lit, Nat.add_sub_cancel, Nat.not_lt_zero, ↓m1_mI, nI_add, pk_mul, nx_and, nx_or, and31, sh_r, sh_1, nx_nand, Nat.and_one_is_mod, nI_clamp, nI_leI, nI_ltI, nI_eq, tb_1, vp_t, up2_a, up2_b, up2_c, br_1, br_0, true_and, and_true, mI_ne, mI_ne', mI_lt, mI_le, mI_nle, mI_nlt, pk_sub, mI_sub, eq_true (show (0 : Nat) = 0 from rfl)]
      exact ⟨fun _ => ⟨_, rfl, hΨ⟩, fun _ => ⟨_, rfl, hΨ⟩⟩
    have bad : ∀ f y I, f ≠ 0 → CFr (up2 μ.1 51 5 (nI (k + 1))) I → CF bt tn m f (k + 1) I → Rf (kT bt tn) (kV bt tn) b (k + 1) x f (k + 1) y → VI N 1 mX6_sort [.ref 51] (I, μ.2) (fun v4 μ4 => br (v4 = 44) (VB N 3 mX6_factsBehind 20 [.ref 51, .null, .int (nI b), .int (nI x ||| nI 1 <<< (nI 0 &&& 31)), .int 1, .int (nI (i + 1))] [] μ4 (fun r μ' => ∃ v, r = some (.int v) ∧ Ψ v μ')) (VB N 3 mX6_factsBehind 20 [.ref 51, .null, .int (nI b), .int (nI x ||| nI 1 <<< (nI 0 &&& 31)), .int 0, .int (nI (i + 1))] [] μ4 (fun r μ' => ∃ v, r = some (.int v) ∧ Ψ v μ'))) := by
      intro f y I hf fr hF hr
      refine c_sortF (μ := (I, μ.2)) hF ⟨fun e => absurd e (by decide), fun _ => ?_⟩
      exact fin (i + 1) _ (I, μ.2) (by omega) (K f (k + 1) y _ I hr ((CFr.at (by omega)).tr fr) (fun e => absurd e hf) (fun _ => hF))
    refine tX6_factsBehind_20 ?_
    rw [h.2.2.1]
    have e1 : (nI k + 1 : Int32) = nI (k + 1) := nI_add k 1
    have e2 : (nI i + 1 : Int32) = nI (i + 1) := nI_add i 1
    rw [e1, e2]
    refine ⟨fun g => absurd g (by rw [show (300 : Int32) = nI 300 from rfl, nI_leI (by omega) (by omega)]; omega), fun _ => ⟨fun g => absurd g (by decide), fun _ => ?_⟩⟩
    refine c_number (lo := 0) (μ := (up2 μ.1 51 5 (nI (k + 1)), μ.2)) (by decide) (h.nx hk) (fun g1 _ g2 I fr hK => ?_) (fun g1 g2 I fr hF => ?_) (fun g1 I fr hF => ?_)
    · have g2 := (hi_lt hb hv).mp g2
      have hb1 := kT_lt h.1.2.2.1 (k + 2)
      have fr1 : CFr μ.1 I := (CFr.at (by omega)).tr fr
      refine c_sort (μ := (I, μ.2)) hK ?_
      have ex : (nI x ||| (1 : Int32) <<< (nI (kV bt tn (k + 1)) &&& 31)) = nI (x ||| 2 ^ kV bt tn (k + 1)) := by
        simp (disch := omega) only [lit, Nat.add_sub_cancel, Nat.not_lt_zero, ↓m1_mI, nI_add, pk_mul, nx_and, nx_or, and31, sh_r, sh_1, nx_nand, Nat.and_one_is_mod, nI_clamp, nI_leI, nI_ltI, nI_eq, tb_1, vp_t, up2_a, up2_b, up2_c, br_1, br_0, true_and, and_true, mI_ne, mI_ne', mI_lt, mI_le, mI_nle, mI_nlt, pk_sub, mI_sub]
      rw [ex]
      have e44 : (nI (kT bt tn (k + 2)) = 44) ↔ kT bt tn (k + 2) = 44 := by rw [show (44 : Int32) = nI 44 from rfl, nI_eq (by omega) (by omega)]
      refine ⟨fun q => ?_, fun q => ?_⟩
      · have q := e44.mp q
        refine ih (k + 2) (x ||| 2 ^ kV bt tn (k + 1)) (i + 1) (I, μ.2) (by omega) hK (by omega) (by omega) (fun f k1 y v I2 hr fr2 hok hno => ?_)
        exact K f k1 y v I2 (u3 (k + 1) x f k1 y g1 g2 q hr) (fr1.tr fr2) hok hno
      · have q : ¬ kT bt tn (k + 2) = 44 := fun z => q (e44.mpr z)
        refine fin (i + 1) _ (I, μ.2) (by omega) (K 0 (k + 2) _ _ I (u4 (k + 1) x g1 g2 q) fr1 (fun _ => ⟨rfl, hK⟩) (fun e => absurd rfl e))
    · exact bad 2 0 I (by decide) fr hF (u2 (k + 1) x 0 g1 (fun z => g2 ⟨Nat.zero_le _, (hi_lt hb hv).mpr z⟩))
    · exact bad 1 0 I (by decide) fr hF (u1 (k + 1) x 0 g1)
theorem c_fb {b w k : Nat} (hb : b < 16) (hw : w < 132) (hw2 : w ≠ 21) {Ψ : Int32 → Me → Prop} {μ : Me} (h : CKt bt tn m k L μ.1) (K : ∀ f k1 y v I, Rfb (kT bt tn) (kV bt tn) b w k f k1 y → CFr μ.1 I → (f = 0 → v = nI y ∧ CKt bt tn m k1 L I) → (f ≠ 0 → CF bt tn m f k1 I) → Ψ v (I, μ.2)) : VI N 3 mX6_factsBehind [.ref 51, .int (nI w), .int (nI b)] μ Ψ := by
  have hb1 := kT_lt h.1.2.2.1 k
  refine tX6_factsBehind_0 (c_sort h ?_)
  have ew : (nI (kT bt tn k) = nI w) ↔ kT bt tn k = w := by rw [nI_eq (by omega) (by omega)]
  refine ⟨fun q => ?_, fun q => ?_⟩
  · have q := ew.mp q
    exact c_fbL hb (m - k + 1) k 0 0 μ (by omega) h (by omega) (by omega) (fun f k1 y v I hr fr hok hno => K f k1 y v I (Or.inr ⟨q, hr⟩) fr hok hno)
  · have q : ¬ kT bt tn k = w := fun z => q (ew.mpr z)
    refine tX6_factsBehind_20 ⟨fun g => absurd g (by decide), fun _ => ⟨fun _ => ⟨_, rfl, ?_⟩, fun g => absurd rfl g⟩⟩
    exact K 0 k 0 _ μ.1 (Or.inl ⟨q, rfl, rfl, rfl⟩) CFr.rf (fun _ => ⟨rfl, h⟩) (fun e => absurd rfl e)
theorem c_fbF {f k : Nat} {w : Nat} {b : Int32} (hw : w < 132) (hw2 : w ≠ 21) {Ψ : Int32 → Me → Prop} {μ : Me} (h : CF bt tn m f k μ.1) (K : ∀ v, Ψ v μ) : VI N 3 mX6_factsBehind [.ref 51, .int (nI w), .int b] μ Ψ := by
  refine tX6_factsBehind_0 (c_sortF h ?_)
  have ew : ¬ (nI 21 = nI w) := by rw [nI_eq (by omega) (by omega)]; omega
  refine ⟨fun q => absurd q ew, fun _ => ?_⟩
  exact tX6_factsBehind_20 ⟨fun g => absurd g (by decide), fun _ => ⟨fun _ => ⟨_, rfl, K _⟩, fun g => absurd rfl g⟩⟩
end CY
