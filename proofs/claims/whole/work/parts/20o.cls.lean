/-! the class's reader: where it stands -/
section CO
variable {N : Nat} {bt : Nat → Nat} {tn m : Nat} {μ : Me}
def kT (bt : Nat → Nat) (tn k : Nat) : Nat := tT bt tn (tS bt tn k)
def kV (bt : Nat → Nat) (tn k : Nat) : Nat := tVa bt tn (tS bt tn k)
/-- the class's tokens -/
def TM (bt : Nat → Nat) (tn m : Nat) (I : Nat → Nat → Int32) : Prop := m ≤ 300 ∧ tn ≤ 300 ∧ (∀ j, j < tn → bt j < 256) ∧ tS bt tn m = tn ∧ I 52 1 = nI m ∧ I 54 m = nI 21 ∧ I 56 m = nI tn ∧ TL bt tn m I
theorem TM.fr {I I' : Nat → Nat → Int32} (h : TM bt tn m I) (h2 : I' 52 = I 52) (h4 : I' 54 = I 54) (h5 : I' 55 = I 55) (h6 : I' 56 = I 56) : TM bt tn m I' := by
  unfold TM TL at *
  rw [h2, h4, h5, h6]
  exact h
theorem kT_m (h : tS bt tn m = tn) : kT bt tn m = 21 := by
  unfold kT tT
  rw [h, if_neg (by omega)]
theorem kT_lt (hb : ∀ j, j < tn → bt j < 256) (k : Nat) : kT bt tn k < 132 := (tT_lt hb).1
theorem kV_le (k : Nat) : kV bt tn k ≤ 10000 := by
  unfold kV tVa
  split
  · exact numC_le _ _ _ (by decide)
  · decide
theorem TM.get {I : Nat → Nat → Int32} (h : TM bt tn m I) {k : Nat} (hk : k ≤ m) : I 54 k = nI (kT bt tn k) ∧ I 56 k = nI (tS bt tn k) ∧ (kT bt tn k ≠ 21 → k < m ∧ I 55 k = nI (kV bt tn k)) := by
  obtain ⟨h1, h2, h3, h4, h5, h6, h7, h8⟩ := h
  by_cases e : k = m
  · subst e
    refine ⟨by rw [kT_m h4]; exact h6, by rw [h4]; exact h7, fun q => absurd (kT_m h4) q⟩
  · obtain ⟨g1, g2, g3, g4⟩ := h8 k (by omega)
    refine ⟨?_, g2, fun _ => ⟨by omega, g4⟩⟩
    rw [g3]
    unfold kT tT
    rw [if_pos g1]
def itm (L : Cd) (i : Nat) : Nat × Nat := L.getD i (0, 0)
theorem itm_lt {L L2 : Cd} {i : Nat} (h : i < L.length) : itm (L ++ L2) i = itm L i := by
  unfold itm
  rw [List.getD_eq_getElem?_getD, List.getD_eq_getElem?_getD, List.getElem?_append_left h]
theorem itm_eq {L : Cd} {i : Nat × Nat} : itm (L ++ [i]) L.length = i := by
  unfold itm
  rw [List.getD_eq_getElem?_getD, List.getElem?_append_right (Nat.le_refl _), Nat.sub_self]
  rfl
theorem itm_ge {L L2 : Cd} {i : Nat} (h : L.length ≤ i) : itm (L ++ L2) i = itm L2 (i - L.length) := by
  unfold itm
  rw [List.getD_eq_getElem?_getD, List.getD_eq_getElem?_getD, List.getElem?_append_right h]
theorem itm_mem {L : Cd} {i : Nat} (h : i < L.length) : itm L i ∈ L := by
  unfold itm
  rw [List.getD_eq_getElem?_getD, List.getElem?_eq_getElem h]
  exact List.getElem_mem h
def cod (L : Cd) (I : Nat → Nat → Int32) : Prop := L.length ≤ 300 ∧ I 57 0 = nI L.length ∧ (∀ i, i < L.length → I 58 i = nI (cit (itm L i).1 (itm L i).2)) ∧ I 51 4 = mI
/-- it stands at token k, without a fault, with the code L -/
def CKt (bt : Nat → Nat) (tn m k : Nat) (L : Cd) (I : Nat → Nat → Int32) : Prop := TM bt tn m I ∧ k ≤ m ∧ I 51 5 = nI k ∧ I 51 3 = nI 0 ∧ cod L I
/-- it has found the fault f at token k -/
def CF (bt : Nat → Nat) (tn m f k : Nat) (I : Nat → Nat → Int32) : Prop := TM bt tn m I ∧ k ≤ m ∧ 1 ≤ f ∧ f ≤ 6 ∧ I 51 5 = nI m ∧ I 51 3 = nI f ∧ I 51 4 = nI (tS bt tn k) ∧ ∃ n, n ≤ 300 ∧ I 57 0 = nI n
/-- what reading may change -/
def CFr (I I' : Nat → Nat → Int32) : Prop := Ag [51, 57, 58] I I' ∧ (∀ b, b ≠ 3 → b ≠ 4 → b ≠ 5 → I' 51 b = I 51 b) ∧ ∀ b, b ≠ 0 → I' 57 b = I 57 b
theorem CFr.rf {I : Nat → Nat → Int32} : CFr I I := ⟨Ag.rf, fun _ _ _ _ => rfl, fun _ _ => rfl⟩
theorem CFr.tr {I I1 I2 : Nat → Nat → Int32} (h : CFr I I1) (h2 : CFr I1 I2) : CFr I I2 := ⟨h.1.tr h2.1, fun b a1 a2 a3 => (h2.2.1 b a1 a2 a3).trans (h.2.1 b a1 a2 a3), fun b a1 => (h2.2.2 b a1).trans (h.2.2 b a1)⟩
theorem CFr.at {I : Nat → Nat → Int32} {p : Nat} {v : Int32} (h : p = 3 ∨ p = 4 ∨ p = 5) : CFr I (up2 I 51 p v) := ⟨Ag.rf.up (by decide), fun b a1 a2 a3 => up2_b (by omega), fun b _ => up2_a (by decide)⟩
theorem CFr.em {I : Nat → Nat → Int32} {p : Nat} {v w : Int32} : CFr I (up2 (up2 I 58 p v) 57 0 w) := ⟨(Ag.rf.up (by decide)).up (by decide), fun b _ _ _ => by rw [up2_a (by decide), up2_a (by decide)], fun b h => by rw [up2_b h, up2_a (by decide)]⟩
theorem TM.cf {I I' : Nat → Nat → Int32} (h : TM bt tn m I) (h2 : CFr I I') : TM bt tn m I' := h.fr (h2.1 52 (by decide)) (h2.1 54 (by decide)) (h2.1 55 (by decide)) (h2.1 56 (by decide))
theorem CKt.nx {k : Nat} {L : Cd} {I : Nat → Nat → Int32} (h : CKt bt tn m k L I) (hk : kT bt tn k ≠ 21) : CKt bt tn m (k + 1) L (up2 I 51 5 (nI (k + 1))) := by
  obtain ⟨h1, h2, h3, h4, h5⟩ := h
  have := ((h1.get h2).2.2 hk).1
  refine ⟨h1.cf (CFr.at (by omega)), by omega, up2_c, by rw [up2_b (by decide)]; exact h4, ?_⟩
  unfold cod at *
  rw [up2_a (by decide)]
  exact ⟨h5.1, h5.2.1, fun i hi => by rw [up2_a (by decide)]; exact h5.2.2.1 i hi, by rw [up2_b (by decide)]; exact h5.2.2.2⟩
section
variable {Ψ : Int32 → Me → Prop} {Φ : Me → Prop} {k f : Nat} {L : Cd}
theorem c_sort (h : CKt bt tn m k L μ.1) (K : Ψ (nI (kT bt tn k)) μ) : VI N 1 mX6_sort [.ref 51] μ Ψ := by
  obtain ⟨tm, hk, h5, h3, hc⟩ := h
  have hm := tm.1
  have h1 := tm.2.2.2.2.1
  refine tX6_sort_0 ?_
  rw [h5, h1]
  simp (disch := omega) only [lit, Nat.add_sub_cancel, Nat.not_lt_zero, ↓m1_mI, nI_add, pk_mul, nx_and, nx_or, and31, sh_r, sh_1, nx_nand, Nat.and_one_is_mod, nI_clamp, nI_leI, nI_ltI, nI_eq, tb_1, vp_t, up2_a, up2_b, up2_c, br_1, br_0, true_and, and_true, mI_ne, mI_ne', mI_lt, mI_le, mI_nle, mI_nlt, pk_sub, mI_sub, eq_false (show ¬ m < k by omega), eq_false (show ¬ 300 < k by omega), (tm.get hk).1]
  exact ⟨_, rfl, K⟩
theorem c_sortF (h : CF bt tn m f k μ.1) (K : Ψ (nI 21) μ) : VI N 1 mX6_sort [.ref 51] μ Ψ := by
  obtain ⟨tm, hk, f1, f6, h5, h3, h4, h0⟩ := h
  have hm := tm.1
  have h1 := tm.2.2.2.2.1
  refine tX6_sort_0 ?_
  rw [h5, h1]
  simp (disch := omega) only [lit, Nat.add_sub_cancel, Nat.not_lt_zero, ↓m1_mI, nI_add, pk_mul, nx_and, nx_or, and31, sh_r, sh_1, nx_nand, Nat.and_one_is_mod, nI_clamp, nI_leI, nI_ltI, nI_eq, tb_1, vp_t, up2_a, up2_b, up2_c, br_1, br_0, true_and, and_true, mI_ne, mI_ne', mI_lt, mI_le, mI_nle, mI_nlt, pk_sub, mI_sub, eq_false (show ¬ m < m by omega), eq_false (show ¬ 300 < m by omega), tm.2.2.2.2.2.1]
  exact ⟨_, rfl, K⟩
theorem c_valt (h : CKt bt tn m k L μ.1) (K : ∀ v, (kT bt tn k ≠ 21 → v = nI (kV bt tn k)) → Ψ v μ) : VI N 1 mX6_value [.ref 51] μ Ψ := by
  obtain ⟨tm, hk, h5, h3, hc⟩ := h
  have hm := tm.1
  have h1 := tm.2.2.2.2.1
  refine tX6_value_0 ?_
  rw [h5, h1]
  simp (disch := omega) only [lit, Nat.add_sub_cancel, Nat.not_lt_zero, ↓m1_mI, nI_add, pk_mul, nx_and, nx_or, and31, sh_r, sh_1, nx_nand, Nat.and_one_is_mod, nI_clamp, nI_leI, nI_ltI, nI_eq, tb_1, vp_t, up2_a, up2_b, up2_c, br_1, br_0, true_and, and_true, mI_ne, mI_ne', mI_lt, mI_le, mI_nle, mI_nlt, pk_sub, mI_sub, eq_false (show ¬ m < k by omega), eq_false (show ¬ 300 < k by omega)]
  exact ⟨_, rfl, K _ (fun q => ((tm.get hk).2.2 q).2)⟩
theorem c_valtF (h : CF bt tn m f k μ.1) (K : ∀ v, Ψ v μ) : VI N 1 mX6_value [.ref 51] μ Ψ := by
  obtain ⟨tm, hk, f1, f6, h5, h3, h4, h0⟩ := h
  have hm := tm.1
  have h1 := tm.2.2.2.2.1
  refine tX6_value_0 ?_
  rw [h5, h1]
  simp (disch := omega) only [lit, Nat.add_sub_cancel, Nat.not_lt_zero, ↓m1_mI, nI_add, pk_mul, nx_and, nx_or, and31, sh_r, sh_1, nx_nand, Nat.and_one_is_mod, nI_clamp, nI_leI, nI_ltI, nI_eq, tb_1, vp_t, up2_a, up2_b, up2_c, br_1, br_0, true_and, and_true, mI_ne, mI_ne', mI_lt, mI_le, mI_nle, mI_nlt, pk_sub, mI_sub, eq_false (show ¬ m < m by omega), eq_false (show ¬ 300 < m by omega)]
  exact ⟨_, rfl, K _⟩
theorem c_fail (h : CKt bt tn m k L μ.1) (hf : 1 ≤ f) (hf6 : f ≤ 6) (K : ∀ I, CFr μ.1 I → CF bt tn m f k I → Φ (I, μ.2)) : VU N 1 mX6_fail [.ref 51, .int (nI f)] μ Φ := by
  obtain ⟨tm, hk, h5, h3, hc⟩ := h
  have hm := tm.1
  have h1 := tm.2.2.2.2.1
  refine tX6_fail_0 ?_
  rw [h5, h3, h1]
  simp (disch := omega) only [lit, Nat.add_sub_cancel, Nat.not_lt_zero, ↓m1_mI, nI_add, pk_mul, nx_and, nx_or, and31, sh_r, sh_1, nx_nand, Nat.and_one_is_mod, nI_clamp, nI_leI, nI_ltI, nI_eq, tb_1, vp_t, up2_a, up2_b, up2_c, br_1, br_0, true_and, and_true, mI_ne, mI_ne', mI_lt, mI_le, mI_nle, mI_nlt, pk_sub, mI_sub, eq_false (show ¬ 300 < k by omega), (tm.get hk).2.1, eq_true (show (0 : Nat) = 0 from rfl)]
  have fr : CFr μ.1 (up2 (up2 (up2 μ.1 51 3 (nI f)) 51 4 (nI (tS bt tn k))) 51 5 (nI m)) := ((CFr.at (Or.inl rfl)).tr (CFr.at (Or.inr (Or.inl rfl)))).tr (CFr.at (Or.inr (Or.inr rfl)))
  refine K _ fr ⟨tm.cf fr, hk, hf, hf6, up2_c, ?_, ?_, L.length, hc.1, ?_⟩
  · rw [up2_b (by decide), up2_b (by decide), up2_c]
  · rw [up2_b (by decide), up2_c]
  · rw [up2_a (by decide), up2_a (by decide), up2_a (by decide)]; exact hc.2.1
theorem c_failF {x : Int32} (h : CF bt tn m f k μ.1) (K : Φ μ) : VU N 1 mX6_fail [.ref 51, .int x] μ Φ := by
  obtain ⟨tm, hk, f1, f6, h5, h3, h4, h0⟩ := h
  refine tX6_fail_0 ?_
  rw [h3]
  simp (disch := omega) only [lit, Nat.add_sub_cancel, Nat.not_lt_zero, ↓m1_mI, nI_add, pk_mul, nx_and, nx_or, and31, sh_r, sh_1, nx_nand, Nat.and_one_is_mod, nI_clamp, nI_leI, nI_ltI, nI_eq, tb_1, vp_t, up2_a, up2_b, up2_c, br_1, br_0, true_and, and_true, mI_ne, mI_ne', mI_lt, mI_le, mI_nle, mI_nlt, pk_sub, mI_sub, eq_false (show ¬ f = 0 by omega)]
  exact K
end
end CO
