/-! words as numbers -/
section WN
def lI (n : Nat) : Int64 := Int64.ofNat n
theorem lI_b : ∀ b, b < 256 → Int32.toInt64 (nI b) = lI b := by decide +kernel
theorem lI_8 : (Int32.toInt64 8 &&& 63 : Int64) = 8 := by decide +kernel
theorem lI_sh {v b : Nat} (hv : v < 2 ^ 48) (hb : b < 256) : (lI v <<< (Int32.toInt64 8 &&& 63)) ||| Int32.toInt64 (nI b) = lI (v * 256 + b) := by
  rw [lI_8, lI_b b hb]
  apply Int64.toBitVec_inj.mp
  apply BitVec.eq_of_toNat_eq
  rw [Int64.toBitVec_or, Int64.toBitVec_shiftLeft]
  have e8 : (Int64.toBitVec 8).smod 64 = 8#64 := by decide +kernel
  rw [e8]
  show (((BitVec.ofNat 64 v) <<< 8#64) ||| BitVec.ofNat 64 b).toNat = (BitVec.ofNat 64 (v * 256 + b)).toNat
  rw [BitVec.toNat_or, BitVec.shiftLeft_eq', BitVec.toNat_shiftLeft, BitVec.toNat_ofNat, BitVec.toNat_ofNat, BitVec.toNat_ofNat]
  have e1 : v % 2 ^ 64 = v := Nat.mod_eq_of_lt (by omega)
  have e2 : b % 2 ^ 64 = b := Nat.mod_eq_of_lt (by omega)
  have e3 : (v * 256 + b) % 2 ^ 64 = v * 256 + b := Nat.mod_eq_of_lt (by omega)
  rw [e1, e2, BitVec.toNat_ofNat, e3]
  show (v <<< 8) % 2 ^ 64 ||| b = _
  have e4 : v <<< 8 = v * 256 := by rw [Nat.shiftLeft_eq]
  rw [e4, Nat.mod_eq_of_lt (by omega), ← e4, ← Nat.shiftLeft_add_eq_or_of_lt (show b < 2 ^ 8 by omega), e4]
theorem lI_inj {a b : Nat} (ha : a < 2 ^ 62) (hb : b < 2 ^ 62) (h : lI a = lI b) : a = b := by
  have h2 : (BitVec.ofNat 64 a).toNat = (BitVec.ofNat 64 b).toNat := congrArg (fun x => (Int64.toBitVec x).toNat) h
  rw [BitVec.toNat_ofNat, BitVec.toNat_ofNat, Nat.mod_eq_of_lt (by omega), Nat.mod_eq_of_lt (by omega)] at h2
  exact h2
/-- the letters s .. s+n as one number -/
def wvl (bt : Nat → Nat) (s : Nat) : Nat → Nat
  | 0 => 0
  | n + 1 => wvl bt s n * 256 + bt (s + n)
theorem wvl_lt {bt : Nat → Nat} {s : Nat} : ∀ n, (∀ i, i < n → bt (s + i) < 256) → wvl bt s n < 256 ^ n := by
  intro n
  induction n with
  | zero => intro _; exact Nat.one_pos
  | succ n ih =>
    intro h
    have h1 := ih (fun i hi => h i (by omega))
    have h2 := h n (by omega)
    rw [Nat.pow_succ]
    show wvl bt s n * 256 + bt (s + n) < _
    omega
theorem wvl_pos {bt : Nat → Nat} {s : Nat} : ∀ n, 0 < n → (∀ i, i < n → 0 < bt (s + i)) → 0 < wvl bt s n := by
  intro n h0 h
  cases n with
  | zero => omega
  | succ n =>
    have := h n (by omega)
    show 0 < wvl bt s n * 256 + bt (s + n)
    omega
theorem wvl_inj {bt b2 : Nat → Nat} {s s2 : Nat} : ∀ n m, (∀ i, i < n → 0 < bt (s + i) ∧ bt (s + i) < 256) → (∀ i, i < m → 0 < b2 (s2 + i) ∧ b2 (s2 + i) < 256) → wvl bt s n = wvl b2 s2 m → n = m ∧ ∀ i, i < n → bt (s + i) = b2 (s2 + i) := by
  intro n
  induction n with
  | zero =>
    intro m _ h2 h
    cases m with
    | zero => exact ⟨rfl, fun i hi => absurd hi (Nat.not_lt_zero _)⟩
    | succ m => have := wvl_pos (bt := b2) (s := s2) (m + 1) (by omega) (fun i hi => (h2 i hi).1); rw [← h] at this; exact absurd this (Nat.lt_irrefl _)
  | succ n ih =>
    intro m h1 h2 h
    cases m with
    | zero => have := wvl_pos (bt := bt) (s := s) (n + 1) (by omega) (fun i hi => (h1 i hi).1); rw [h] at this; exact absurd this (Nat.lt_irrefl _)
    | succ m =>
      have a1 := h1 n (by omega)
      have a2 := h2 m (by omega)
      have h : wvl bt s n * 256 + bt (s + n) = wvl b2 s2 m * 256 + b2 (s2 + m) := h
      obtain ⟨e, f⟩ := ih m (fun i hi => h1 i (by omega)) (fun i hi => h2 i (by omega)) (by omega)
      subst e
      refine ⟨rfl, fun i hi => ?_⟩
      by_cases q : i = n
      · subst q; omega
      · exact f i (by omega)
end WN
