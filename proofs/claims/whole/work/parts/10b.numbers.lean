/-! numbers, bits, memory: what the contracts are written with -/
section NB
theorem lit (n : Nat) : (OfNat.ofNat n : Int32) = nI (OfNat.ofNat n) := rfl
def mI : Int32 := -1
theorem m1_mI : (-1 : Int32) = mI := rfl
theorem nx_and (a b : Nat) : nI a &&& nI b = nI (a &&& b) := by
  apply Int32.toBitVec_inj.1
  show BitVec.ofNat 32 a &&& BitVec.ofNat 32 b = BitVec.ofNat 32 (a &&& b)
  apply BitVec.eq_of_getLsbD_eq
  intro i hi
  simp [hi]
theorem nx_or (a b : Nat) : nI a ||| nI b = nI (a ||| b) := by
  apply Int32.toBitVec_inj.1
  show BitVec.ofNat 32 a ||| BitVec.ofNat 32 b = BitVec.ofNat 32 (a ||| b)
  apply BitVec.eq_of_getLsbD_eq
  intro i hi
  simp [hi]
theorem nx_xor (a b : Nat) : nI a ^^^ nI b = nI (a ^^^ b) := by
  apply Int32.toBitVec_inj.1
  show BitVec.ofNat 32 a ^^^ BitVec.ofNat 32 b = BitVec.ofNat 32 (a ^^^ b)
  apply BitVec.eq_of_getLsbD_eq
  intro i hi
  simp [hi]
theorem and31 {k : Nat} (h : k < 32) : k &&& 31 = k := by
  rw [show (31 : Nat) = 2 ^ 5 - 1 from rfl, Nat.and_two_pow_sub_one_eq_mod, Nat.mod_eq_of_lt h]
theorem sm_l : ∀ n, n < 32 → ((nI n).toBitVec.smod 32).toNat = n := by decide +kernel
theorem sh_r {n k : Nat} (hn : n < 2 ^ 31) (hk : k < 32) : nI n >>> nI k = nI (n / 2 ^ k) := pk_shrN hn _ k (sm_l k hk)
theorem sh_1 {k : Nat} (hk : k < 32) : nI 1 <<< nI k = nI (2 ^ k) := by
  rw [pk_shlN _ k (sm_l k hk) (by rw [Nat.one_mul]; exact Nat.pow_lt_pow_right (by decide) hk), Nat.one_mul]
theorem tb_1 (n k : Nat) : (n / 2 ^ k % 2 = 1) = (n.testBit k = true) := by
  rw [Nat.testBit_eq_decide_div_mod_eq, decide_eq_true_eq]
def ndN (a b : Nat) : Nat := a ^^^ (a &&& b)
theorem ndN_tb (a b i : Nat) : (ndN a b).testBit i = (a.testBit i && !b.testBit i) := by
  unfold ndN
  rw [Nat.testBit_xor, Nat.testBit_and]
  cases a.testBit i <;> cases b.testBit i <;> rfl
theorem mI_bit : ∀ i, i < 32 → mI.toBitVec.getLsbD i = true := by decide +kernel
theorem nx_nand (a b : Nat) : nI a &&& (nI b ^^^ mI) = nI (ndN a b) := by
  apply Int32.toBitVec_inj.1
  apply BitVec.eq_of_getLsbD_eq
  intro i hi
  rw [Int32.toBitVec_and, Int32.toBitVec_xor, BitVec.getLsbD_and, BitVec.getLsbD_xor, mI_bit i hi]
  show ((BitVec.ofNat 32 a).getLsbD i && ((BitVec.ofNat 32 b).getLsbD i ^^ true)) = (BitVec.ofNat 32 (ndN a b)).getLsbD i
  rw [BitVec.getLsbD_ofNat, BitVec.getLsbD_ofNat, BitVec.getLsbD_ofNat, ndN_tb]
  simp [hi]
theorem ndN_le (a b : Nat) {n : Nat} (h : a < 2 ^ n) : ndN a b < 2 ^ n := Nat.xor_lt_two_pow h (Nat.lt_of_le_of_lt Nat.and_le_left h)
theorem ndN_0 (a b : Nat) : ndN a b = 0 ↔ ∀ i, a.testBit i = true → b.testBit i = true := by
  constructor
  · intro h i hi
    have := ndN_tb a b i
    rw [h, Nat.zero_testBit, hi] at this
    cases hb : b.testBit i
    · rw [hb] at this; cases this
    · rfl
  · intro h
    apply Nat.eq_of_testBit_eq
    intro i
    rw [ndN_tb, Nat.zero_testBit]
    cases ha : a.testBit i
    · rfl
    · rw [h i ha]; rfl
theorem and_0 (a b : Nat) : a &&& b = 0 ↔ ∀ i, a.testBit i = true → b.testBit i = false := by
  constructor
  · intro h i hi
    have := Nat.testBit_and a b i
    rw [h, Nat.zero_testBit, hi] at this
    simpa using this.symm
  · intro h
    apply Nat.eq_of_testBit_eq
    intro i
    rw [Nat.testBit_and, Nat.zero_testBit]
    cases ha : a.testBit i
    · rfl
    · rw [h i ha]; rfl
theorem tb_lt {a n i : Nat} (h : a < 2 ^ n) (hi : a.testBit i = true) : i < n := by
  rcases Nat.lt_or_ge i n with h1 | h1
  · exact h1
  · rw [Nat.testBit_lt_two_pow (Nat.lt_of_lt_of_le h (Nat.pow_le_pow_right (by decide) h1))] at hi
    cases hi
/-- a set by its members below n -/
def bits (n : Nat) (p : Nat → Bool) : Nat := match n with
  | 0 => 0
  | n + 1 => bits n p ||| (if p n = true then 2 ^ n else 0)
theorem bits_tb (n : Nat) (p : Nat → Bool) (i : Nat) : (bits n p).testBit i = (decide (i < n) && p i) := by
  induction n with
  | zero => simp [bits]
  | succ n ih =>
    show (bits n p ||| (if p n = true then 2 ^ n else 0)).testBit i = _
    rw [Nat.testBit_or, ih]
    by_cases hn : p n = true
    · rw [if_pos hn, Nat.testBit_two_pow]
      by_cases he : n = i
      · subst he; simp [hn]
      · have : (i < n + 1) = (i < n) := by apply propext; omega
        simp [he, this]
    · rw [if_neg hn, Nat.zero_testBit]
      by_cases he : n = i
      · subst he; simp at hn; simp [hn]
      · have : (i < n + 1) = (i < n) := by apply propext; omega
        simp [this]
theorem bits_lt (n : Nat) (p : Nat → Bool) : bits n p < 2 ^ n := by
  induction n with
  | zero => simp [bits]
  | succ n ih =>
    refine Nat.or_lt_two_pow (Nat.lt_of_lt_of_le ih (Nat.pow_le_pow_right (by decide) (by omega))) ?_
    split
    · exact Nat.pow_lt_pow_right (by decide) (by omega)
    · exact Nat.two_pow_pos _
theorem bits_t {n : Nat} {p : Nat → Bool} (h : p n = true) : bits n p ||| 2 ^ n = bits (n + 1) p := by
  show _ = bits n p ||| (if p n = true then 2 ^ n else 0)
  rw [if_pos h]
theorem bits_f {n : Nat} {p : Nat → Bool} (h : ¬ p n = true) : bits n p = bits (n + 1) p := by
  show _ = bits n p ||| (if p n = true then 2 ^ n else 0)
  rw [if_neg h, Nat.or_zero]
theorem bits_ext {n : Nat} {p q : Nat → Bool} (h : ∀ i, i < n → p i = q i) : bits n p = bits n q := by
  apply Nat.eq_of_testBit_eq
  intro i
  rw [bits_tb, bits_tb]
  by_cases hi : i < n
  · rw [h i hi]
  · simp [hi]
theorem bits_of {a n : Nat} (h : a < 2 ^ n) : bits n (fun i => a.testBit i) = a := by
  apply Nat.eq_of_testBit_eq
  intro i
  rw [bits_tb]
  cases hb : a.testBit i
  · simp
  · simp [tb_lt h hb]
theorem p2_lt {n m : Nat} (h : n < m) : 2 ^ n < 2 ^ m := Nat.pow_lt_pow_right (by decide) h
theorem p2_31 {n : Nat} (h : n < 31) : 2 ^ n < 2 ^ 31 := p2_lt h
theorem lt31 {n m : Nat} (h : n < 2 ^ m) (hm : m < 32) : n < 2 ^ 31 := Nat.lt_of_lt_of_le h (Nat.pow_le_pow_right (by decide) (by omega))
/-! memory -/
theorem up2_a {α : Type} {I : Nat → Nat → α} {c k a b : Nat} {v : α} (h : a ≠ c) : up2 I c k v a b = I a b := by rw [up2_ne h]
theorem up2_b {α : Type} {I : Nat → Nat → α} {c k b : Nat} {v : α} (h : b ≠ k) : up2 I c k v c b = I c b := by rw [up2_eq]; exact if_neg h
theorem up2_c {α : Type} {I : Nat → Nat → α} {c k : Nat} {v : α} : up2 I c k v c k = v := by rw [up2_eq]; exact if_pos rfl
theorem br_1 {A B : Prop} : br True A B = A := by simp [br]
theorem br_0 {A B : Prop} : br False A B = B := by simp [br]
theorem vp_t {n N : Nat} (h : n < N) (hN : N < 2 ^ 31) : vp_in (nI n) N = True := eq_true (vp_in_nI h hN)
theorem mI_sub {n : Nat} (h : 0 < n) : nI n + mI = nI (n - 1) := by
  obtain ⟨m, rfl⟩ : ∃ m, n = m + 1 := ⟨n - 1, by omega⟩
  rw [Nat.add_sub_cancel]; exact pk_m1 m
theorem mI_ne {n : Nat} (h : n < 2 ^ 31) : (nI n = mI) = False := by
  apply eq_false
  intro e
  have := nI_toInt h
  rw [e] at this
  have h2 : mI.toInt = -1 := by decide
  omega
theorem mI_ne' {n : Nat} (h : n < 2 ^ 31) : (mI = nI n) = False := by
  apply eq_false
  intro e
  rw [eq_comm, mI_ne h] at e
  exact e
theorem mI_lt {n : Nat} (h : n < 2 ^ 31) : (mI < nI n) = True := by
  apply eq_true
  rw [Int32.lt_iff_toInt_lt, nI_toInt h]
  have h2 : mI.toInt = -1 := by decide
  omega
theorem mI_le {n : Nat} (h : n < 2 ^ 31) : (mI ≤ nI n) = True := by
  apply eq_true
  rw [Int32.le_iff_toInt_le, nI_toInt h]
  have h2 : mI.toInt = -1 := by decide
  omega
theorem mI_nle {n : Nat} (h : n < 2 ^ 31) : (nI n ≤ mI) = False := by
  apply eq_false
  rw [Int32.le_iff_toInt_le, nI_toInt h]
  have h2 : mI.toInt = -1 := by decide
  omega
theorem mI_nlt {n : Nat} (h : n < 2 ^ 31) : (nI n < mI) = False := by
  apply eq_false
  rw [Int32.lt_iff_toInt_lt, nI_toInt h]
  have h2 : mI.toInt = -1 := by decide
  omega
theorem n1_mI {n : Nat} (h : n = 0) : nI n - nI 1 = mI := by subst h; decide
theorem n1_eq {n : Nat} (h : 0 < n) : nI n - nI 1 = nI (n - 1) := pk_sub h
theorem i_lt {x y : Int32} : x < y ↔ x.toInt < y.toInt := Int32.lt_iff_toInt_lt
theorem i_le {x y : Int32} : x ≤ y ↔ x.toInt ≤ y.toInt := Int32.le_iff_toInt_le
theorem i_eq {x y : Int32} : x = y ↔ x.toInt = y.toInt := Int32.toInt_inj.symm
theorem rng {x : Int32} {b : Nat} (hb : b < 2 ^ 31) (h1 : ¬ x < nI 0) (h2 : x ≤ nI b) : ∃ n, n ≤ b ∧ x = nI n := nI_of2 (nI_toInt hb) h1 h2
theorem i_nlt {x y : Int32} : ¬ x < y ↔ y ≤ x := Int32.not_lt
theorem i_nle {x y : Int32} : ¬ x ≤ y ↔ y < x := Int32.not_le
def Ag (S : List Nat) (I I' : Nat → Nat → Int32) : Prop := ∀ a, a ∉ S → I' a = I a
theorem Ag.rf {S : List Nat} {I : Nat → Nat → Int32} : Ag S I I := fun _ _ => rfl
theorem Ag.tr {S : List Nat} {I I1 I2 : Nat → Nat → Int32} (h : Ag S I I1) (h2 : Ag S I1 I2) : Ag S I I2 := fun a ha => (h2 a ha).trans (h a ha)
theorem Ag.mono {S S' : List Nat} {I I' : Nat → Nat → Int32} (h : Ag S I I') (hs : ∀ a ∈ S, a ∈ S') : Ag S' I I' := fun a ha => h a (fun hb => ha (hs a hb))
theorem Ag.up {S : List Nat} {I I' : Nat → Nat → Int32} {c k : Nat} {v : Int32} (h : Ag S I I') (hc : c ∈ S) : Ag S I (up2 I' c k v) := fun a ha => by
  rw [up2_ne (fun e => ha (by rw [e]; exact hc))]
  exact h a ha
theorem Ag.ro {S : List Nat} {I I' : Nat → Nat → Int32} {c : Nat} {g : Nat → Int32} (h : Ag S I I') (hc : c ∈ S) : Ag S I (upR I' c g) := fun a ha => by
  unfold upR
  rw [if_neg (fun e => ha (by rw [e]; exact hc))]
  exact h a ha
theorem Ag.g {S : List Nat} {I I' : Nat → Nat → Int32} (h : Ag S I I') (a : Nat) (ha : a ∉ S) (b : Nat) : I' a b = I a b := by rw [h a ha]
theorem vi_b {N d : Nat} {M : Mth} {ls : List Value} {μ : Me} {P : Prop} {A C : Int32 → Me → Prop} (h : ∀ Ψ : Int32 → Me → Prop, (P → Ψ 1 μ) → (¬ P → Ψ 0 μ) → VI N d M ls μ Ψ) (h1 : P → C 1 μ) (h0 : ¬ P → A 0 μ) : VI N d M ls μ (fun v μ1 => br (v = 0) (A v μ1) (C v μ1)) :=
  h _ (fun p => ⟨fun e => absurd e (by decide), fun _ => h1 p⟩) (fun p => ⟨fun _ => h0 p, fun e => absurd rfl e⟩)
theorem vb_wf {τ : Type} {N d : Nat} {M : Mth} {hd : Nat} {Ψ : Option Value → Me → Prop} (ls : τ → List Value) (μf : τ → Me) (ms : τ → Nat) (Inv : τ → Prop)
    (step : ∀ x, Inv x → (∀ y, Inv y → ms y < ms x → VB N d M hd (ls y) [] (μf y) Ψ) → VB N d M hd (ls x) [] (μf x) Ψ) : ∀ x, Inv x → VB N d M hd (ls x) [] (μf x) Ψ := by
  have key : ∀ n x, ms x < n → Inv x → VB N d M hd (ls x) [] (μf x) Ψ := by
    intro n
    induction n with
    | zero => intro x h; omega
    | succ n ih => intro x h hI; exact step x hI (fun y hy hlt => ih y (by omega) hy)
  intro x hI
  exact key (ms x + 1) x (by omega) hI
theorem vb_up {N d : Nat} {M : Mth} {hd : Nat} {Ψ : Option Value → Me → Prop} (ls : Nat → List Value) (μf : Nat → Me) (c : Nat)
    (step : ∀ i, i < c → VB N d M hd (ls (i + 1)) [] (μf (i + 1)) Ψ → VB N d M hd (ls i) [] (μf i) Ψ) (ex : VB N d M hd (ls c) [] (μf c) Ψ) : VB N d M hd (ls 0) [] (μf 0) Ψ :=
  vb_for (fun i (_ : Unit) => ls i) (fun i _ => μf i) c (fun _ _ => True) (fun i _ hi _ K => step i hi (K () trivial)) (fun _ _ => ex) 0 () (Nat.zero_le _) trivial
def ub (B : Nat → Nat) (k v : Nat) : Nat → Nat := fun j => if j = k then v else B j
theorem ub_n {B : Nat → Nat} {k v j : Nat} (h : j ≠ k) : ub B k v j = B j := if_neg h
theorem ub_e {B : Nat → Nat} {k v : Nat} : ub B k v k = v := if_pos rfl
/-- a number of n bits: how many -/
def cnt (n : Nat) (p : Nat → Bool) : Nat := match n with
  | 0 => 0
  | n + 1 => cnt n p + (if p n = true then 1 else 0)
def sumf (n : Nat) (f : Nat → Nat) : Nat := match n with
  | 0 => 0
  | n + 1 => sumf n f + f n
theorem sumf_le {n c : Nat} {f : Nat → Nat} (h : ∀ i, i < n → f i ≤ c) : sumf n f ≤ c * n := by
  induction n with
  | zero => simp [sumf]
  | succ n ih =>
    have h1 := ih (fun i hi => h i (by omega))
    have h2 := h n (by omega)
    show sumf n f + f n ≤ _
    rw [Nat.mul_succ]
    omega
theorem sumf_ext {n : Nat} {f g : Nat → Nat} (h : ∀ i, i < n → f i = g i) : sumf n f = sumf n g := by
  induction n with
  | zero => rfl
  | succ n ih =>
    show sumf n f + f n = sumf n g + g n
    rw [ih (fun i hi => h i (by omega)), h n (by omega)]
end NB
