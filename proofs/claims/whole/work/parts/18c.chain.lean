/-! chain, weakest -/
section CH
variable {N : Nat} {μ : Me} {B B' R T tp : Nat → Nat} {tn : Nat} {ft fp : Int32} {e : Nat → Nat} {g : Nat}
def fu (x k : Int32) : Int32 := (x.toUInt32 >>> (k.toUInt32 &&& Int32.toUInt32 31)).toInt32
theorem su_l : ∀ n, n < 32 → (((nI n).toUInt32 &&& Int32.toUInt32 31).toBitVec % 32).toNat = n := by decide +kernel
theorem fu_nI {n k : Nat} (hn : n < 2 ^ 32) (hk : k < 32) : fu (nI n) (nI k) = nI (n >>> k) := by
  rw [Nat.shiftRight_eq_div_pow]
  exact pk_ushrN hn (nI k) k (su_l k hk)
def f5 (x : Int32) : Int32 := x - (fu x 1 &&& 1431655765)
def f3 (x : Int32) : Int32 := (x &&& 858993459) + (fu x 2 &&& 858993459)
def f0 (x : Int32) : Int32 := (x + fu x 4) &&& 252645135
def f8 (x : Int32) : Int32 := x + fu x 8
def f6 (x : Int32) : Int32 := (x + fu x 16) &&& 63
theorem f5_nI {n : Nat} (hn : n < 65536) : f5 (nI n) = nI (pop5 n) := by
  show nI n - (fu (nI n) (nI 1) &&& nI 1431655765) = _
  rw [fu_nI (by omega) (by decide), nx_and, pk_sub]
  · rfl
  · refine Nat.le_trans Nat.and_le_left ?_
    rw [Nat.shiftRight_eq_div_pow]
    exact Nat.div_le_self _ _
theorem pop5_le (n : Nat) : pop5 n ≤ n := Nat.sub_le _ _
theorem f3_nI {n : Nat} (hn : n < 65536) : f3 (nI n) = nI (pop3 n) := by
  show (nI n &&& nI 858993459) + (fu (nI n) (nI 2) &&& nI 858993459) = _
  rw [fu_nI (by omega) (by decide), nx_and, nx_and, nI_add]
  rfl
theorem pop3_le (n : Nat) : pop3 n ≤ 2 * n := by
  have h1 : n &&& 858993459 ≤ n := Nat.and_le_left
  have h2 : (n >>> 2) &&& 858993459 ≤ n >>> 2 := Nat.and_le_left
  have h3 : n >>> 2 ≤ n := by rw [Nat.shiftRight_eq_div_pow]; exact Nat.div_le_self _ _
  show (n &&& 858993459) + ((n >>> 2) &&& 858993459) ≤ _
  omega
theorem f0_nI {n : Nat} (hn : n < 262144) : f0 (nI n) = nI (pop0 n) := by
  show (nI n + fu (nI n) (nI 4)) &&& nI 252645135 = _
  rw [fu_nI (by omega) (by decide), nI_add, nx_and]
  rfl
theorem pop0_le (n : Nat) : pop0 n ≤ 2 * n := by
  have h3 : n >>> 4 ≤ n := by rw [Nat.shiftRight_eq_div_pow]; exact Nat.div_le_self _ _
  have h1 : (n + n >>> 4) &&& 252645135 ≤ n + n >>> 4 := Nat.and_le_left
  show (n + n >>> 4) &&& 252645135 ≤ _
  omega
theorem f8_nI {n : Nat} (hn : n < 1000000) : f8 (nI n) = nI (pop8 n) := by
  show nI n + fu (nI n) (nI 8) = _
  rw [fu_nI (by omega) (by decide), nI_add]
  rfl
theorem pop8_le (n : Nat) : pop8 n ≤ 2 * n := by
  have h3 : n >>> 8 ≤ n := by rw [Nat.shiftRight_eq_div_pow]; exact Nat.div_le_self _ _
  show n + n >>> 8 ≤ _
  omega
theorem f6_nI {n : Nat} (hn : n < 4000000) : f6 (nI n) = nI (pop6 n) := by
  show (nI n + fu (nI n) (nI 16)) &&& nI 63 = _
  rw [fu_nI (by omega) (by decide), nI_add, nx_and]
  rfl
theorem c_bc {n : Nat} {Ψ : Int32 → Me → Prop} (hn : n < 65536) (h : Ψ (nI (cn16 n)) μ) : VI N 1 mJ6_bitCount_0f7a4 [.int (nI n)] μ Ψ := by
  have h1 := pop5_le n
  have h2 := pop3_le (pop5 n)
  have h3 := pop0_le (pop3 (pop5 n))
  have h4 := pop8_le (pop0 (pop3 (pop5 n)))
  have key : f6 (f8 (f0 (f3 (f5 (nI n))))) = nI (cn16 n) := by
    rw [f5_nI hn, f3_nI (by omega), f0_nI (by omega), f8_nI (by omega), f6_nI (by omega)]
    have := pop_16 hn
    unfold popN at this
    rw [this]
  refine tJ6_bitCount_0f7a4_0 ?_
  exact ⟨f6 (f8 (f0 (f3 (f5 (nI n))))), rfl, by rw [key]; exact h⟩
theorem cn16_eq (x : Nat) : cn16 x = cnt 16 (fun i => x.testBit i) := by
  have hb : ∀ i, (if x.testBit i = true then 1 else 0) = (x >>> i) % 2 := by
    intro i
    rw [Nat.testBit_eq_decide_div_mod_eq, Nat.shiftRight_eq_div_pow]
    by_cases q : x / 2 ^ i % 2 = 1
    · rw [decide_eq_true q, if_pos rfl, q]
    · rw [decide_eq_false q, if_neg (by decide)]
      have := Nat.mod_two_eq_zero_or_one (x / 2 ^ i)
      omega
  simp only [cnt, hb]
  show _ = 0 + x >>> 0 % 2 + x >>> 1 % 2 + x >>> 2 % 2 + x >>> 3 % 2 + x >>> 4 % 2 + x >>> 5 % 2 + x >>> 6 % 2 + x >>> 7 % 2 + x >>> 8 % 2 + x >>> 9 % 2 + x >>> 10 % 2 + x >>> 11 % 2 + x >>> 12 % 2 + x >>> 13 % 2 + x >>> 14 % 2 + x >>> 15 % 2
  rw [Nat.zero_add, Nat.shiftRight_zero]
  rfl
end CH
