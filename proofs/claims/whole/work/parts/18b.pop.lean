/-! bits counted -/
section PC
def pop5 (n : Nat) : Nat := Nat.sub n (Nat.land (Nat.shiftRight n 1) 1431655765)
def pop3 (n : Nat) : Nat := Nat.add (Nat.land n 858993459) (Nat.land (Nat.shiftRight n 2) 858993459)
def pop0 (n : Nat) : Nat := Nat.land (Nat.add n (Nat.shiftRight n 4)) 252645135
def pop8 (n : Nat) : Nat := Nat.add n (Nat.shiftRight n 8)
def pop6 (n : Nat) : Nat := Nat.land (Nat.add n (Nat.shiftRight n 16)) 63
def popN (n : Nat) : Nat := pop6 (pop8 (pop0 (pop3 (pop5 n))))
def cn16 (x : Nat) : Nat := Nat.add (Nat.add (Nat.add (Nat.add (Nat.add (Nat.add (Nat.add (Nat.add (Nat.add (Nat.add (Nat.add (Nat.add (Nat.add (Nat.add (Nat.add (Nat.mod x 2) (Nat.mod (Nat.shiftRight x 1) 2)) (Nat.mod (Nat.shiftRight x 2) 2)) (Nat.mod (Nat.shiftRight x 3) 2)) (Nat.mod (Nat.shiftRight x 4) 2)) (Nat.mod (Nat.shiftRight x 5) 2)) (Nat.mod (Nat.shiftRight x 6) 2)) (Nat.mod (Nat.shiftRight x 7) 2)) (Nat.mod (Nat.shiftRight x 8) 2)) (Nat.mod (Nat.shiftRight x 9) 2)) (Nat.mod (Nat.shiftRight x 10) 2)) (Nat.mod (Nat.shiftRight x 11) 2)) (Nat.mod (Nat.shiftRight x 12) 2)) (Nat.mod (Nat.shiftRight x 13) 2)) (Nat.mod (Nat.shiftRight x 14) 2)) (Nat.mod (Nat.shiftRight x 15) 2)
noncomputable def chkR (d : Nat) : Nat → Bool := Nat.rec (fun lo => Nat.beq (popN lo) (cn16 lo)) (fun d ih lo => and (ih lo) (ih (Nat.add lo (Nat.pow 2 d)))) d
theorem chkR_s (d lo : Nat) : chkR (d + 1) lo = (chkR d lo && chkR d (lo + 2 ^ d)) := rfl
theorem chkR_sp : ∀ (d lo : Nat), chkR d lo = true → ∀ n, lo ≤ n → n < lo + 2 ^ d → popN n = cn16 n := by
  intro d
  induction d with
  | zero =>
    intro lo h n h1 h2
    have : n = lo := by simp at h2; omega
    subst this
    exact Nat.eq_of_beq_eq_true h
  | succ d ih =>
    intro lo h n h1 h2
    rw [chkR_s, Bool.and_eq_true] at h
    rw [Nat.pow_succ] at h2
    rcases Nat.lt_or_ge n (lo + 2 ^ d) with q | q
    · exact ih lo h.1 n h1 q
    · exact ih (lo + 2 ^ d) h.2 n q (by omega)
theorem chk_0 : chkR 12 0 = true := by decide +kernel
theorem chk_1 : chkR 12 4096 = true := by decide +kernel
theorem chk_2 : chkR 12 8192 = true := by decide +kernel
theorem chk_3 : chkR 12 12288 = true := by decide +kernel
theorem chk_4 : chkR 12 16384 = true := by decide +kernel
theorem chk_5 : chkR 12 20480 = true := by decide +kernel
theorem chk_6 : chkR 12 24576 = true := by decide +kernel
theorem chk_7 : chkR 12 28672 = true := by decide +kernel
theorem chk_8 : chkR 12 32768 = true := by decide +kernel
theorem chk_9 : chkR 12 36864 = true := by decide +kernel
theorem chk_10 : chkR 12 40960 = true := by decide +kernel
theorem chk_11 : chkR 12 45056 = true := by decide +kernel
theorem chk_12 : chkR 12 49152 = true := by decide +kernel
theorem chk_13 : chkR 12 53248 = true := by decide +kernel
theorem chk_14 : chkR 12 57344 = true := by decide +kernel
theorem chk_15 : chkR 12 61440 = true := by decide +kernel
theorem pop_16 {n : Nat} (h : n < 65536) : popN n = cn16 n := by
  rcases Nat.lt_or_ge n 4096 with q | q0
  · exact chkR_sp 12 0 chk_0 n (by omega) (by omega)
  rcases Nat.lt_or_ge n 8192 with q | q1
  · exact chkR_sp 12 4096 chk_1 n (by omega) (by omega)
  rcases Nat.lt_or_ge n 12288 with q | q2
  · exact chkR_sp 12 8192 chk_2 n (by omega) (by omega)
  rcases Nat.lt_or_ge n 16384 with q | q3
  · exact chkR_sp 12 12288 chk_3 n (by omega) (by omega)
  rcases Nat.lt_or_ge n 20480 with q | q4
  · exact chkR_sp 12 16384 chk_4 n (by omega) (by omega)
  rcases Nat.lt_or_ge n 24576 with q | q5
  · exact chkR_sp 12 20480 chk_5 n (by omega) (by omega)
  rcases Nat.lt_or_ge n 28672 with q | q6
  · exact chkR_sp 12 24576 chk_6 n (by omega) (by omega)
  rcases Nat.lt_or_ge n 32768 with q | q7
  · exact chkR_sp 12 28672 chk_7 n (by omega) (by omega)
  rcases Nat.lt_or_ge n 36864 with q | q8
  · exact chkR_sp 12 32768 chk_8 n (by omega) (by omega)
  rcases Nat.lt_or_ge n 40960 with q | q9
  · exact chkR_sp 12 36864 chk_9 n (by omega) (by omega)
  rcases Nat.lt_or_ge n 45056 with q | q10
  · exact chkR_sp 12 40960 chk_10 n (by omega) (by omega)
  rcases Nat.lt_or_ge n 49152 with q | q11
  · exact chkR_sp 12 45056 chk_11 n (by omega) (by omega)
  rcases Nat.lt_or_ge n 53248 with q | q12
  · exact chkR_sp 12 49152 chk_12 n (by omega) (by omega)
  rcases Nat.lt_or_ge n 57344 with q | q13
  · exact chkR_sp 12 53248 chk_13 n (by omega) (by omega)
  rcases Nat.lt_or_ge n 61440 with q | q14
  · exact chkR_sp 12 57344 chk_14 n (by omega) (by omega)
  rcases Nat.lt_or_ge n 65536 with q | q15
  · exact chkR_sp 12 61440 chk_15 n (by omega) (by omega)
  · omega
end PC
