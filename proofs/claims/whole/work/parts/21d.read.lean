/-! the class reads a text -/
section CD1
variable {N : Nat} {bt : Nat → Nat} {tn m : Nat}
theorem Rc.len {T V : Nat → Nat} {n : Nat} {F : Nat → Nat → Nat} {L : Cd} {k f k1 : Nat} {v : Nat → Nat} {c : Cd} (h : Rc T V n F L k f k1 v c) : f ≤ 6 ∧ (f = 0 → k + 2 ≤ k1) := by
  rcases h with ⟨_, h2, h3⟩ | ⟨_, _, _, h2, h3⟩ | ⟨_, _, h2, h3⟩ | ⟨_, _, h2, h3⟩ | ⟨_, _, h2, _, h3⟩ | ⟨_, _, k2, h1, h2, _, h3⟩
  · exact ⟨by omega, fun e => absurd e (by omega)⟩
  · exact ⟨by omega, fun e => absurd e (by omega)⟩
  · exact ⟨by omega, fun e => absurd e (by omega)⟩
  · exact ⟨h2.len.1, fun e => absurd e h3⟩
  · exact ⟨by omega, fun e => absurd e (by omega)⟩
  · have := h2.len
    exact ⟨by omega, fun _ => by omega⟩
theorem c_readL {Φ : Me → Prop} : ∀ q n (F : Nat → Nat → Nat) (L : Cd) k i (μ : Me), m - k < q → CX bt tn m n F L k μ.1 → i ≤ k → (∀ f k1 n2 F2 L2 I, Rx (kT bt tn) (kV bt tn) n F L k f k1 n2 F2 L2 → f ≤ 6 → CXr μ.1 I → (f = 0 → CX bt tn m n2 F2 L2 k1 I) → (f ≠ 0 → CF bt tn m f k1 I) → Φ (I, μ.2)) → VB N 43 mX6_read 36 [.ref 51, .int (nI i)] [] μ (fun r μ' => r = none ∧ Φ μ') := by
  obtain ⟨u1, u2, u3⟩ := Rx.rules (T := kT bt tn) (V := kV bt tn)
  intro q
  induction q with
  | zero => intro n F L k i μ h; omega
  | succ q ih =>
    intro n F L k i μ hq h hi K
    have hK := h.1
    have hm := hK.1.1
    have hkm := hK.2.1
    have hb := kT_lt hK.1.2.2.1 k
    have ge : (300 ≤ nI i) ↔ 300 ≤ i := by rw [show (300 : Int32) = nI 300 from rfl, nI_leI (by omega) (by omega)]
    have eq21 : (nI (kT bt tn k) = 21) ↔ kT bt tn k = 21 := by rw [show (21 : Int32) = nI 21 from rfl, nI_eq (by omega) (by omega)]
    have stop : kT bt tn k = 21 → Φ μ := fun g => K 0 k n F L μ.1 (u1 n F L k g) (by decide) CXr.rf (fun _ => h) (fun e => absurd rfl e)
    refine tX6_read_36 ⟨fun g => ⟨rfl, stop ?_⟩, fun g => ?_⟩
    · have : k = m := by have := ge.mp g; omega
      rw [this]
      exact kT_m hK.1.2.2.2.1
    refine c_sort hK ⟨fun g2 => ⟨rfl, stop (eq21.mp g2)⟩, fun g2 => ?_⟩
    have hk : kT bt tn k ≠ 21 := fun e => g2 (eq21.mpr e)
    refine c_clause h hk (fun f k1 v c I hr fr hok hno => ?_)
    rw [show (nI i + 1 : Int32) = nI (i + 1) from nI_add i 1]
    obtain ⟨r1, r2⟩ := hr.len
    have hlt := ((hK.1.get hkm).2.2 hk).1
    by_cases ef : f = 0
    · subst ef
      have r2 := r2 rfl
      have hk1 := hok rfl
      refine ih (n + 1) (upFn F n v) (L ++ c) k1 (i + 1) (I, μ.2) (by omega) hk1 (by omega) (fun f2 k2 n2 F2 L2 I2 hr2 hf2 fr2 hok2 hno2 => ?_)
      exact K f2 k2 n2 F2 L2 I2 (u3 n F L k k1 v c f2 k2 n2 F2 L2 hk hr hr2) hf2 (fr.tr fr2) hok2 hno2
    · have hF := hno ef
      have fin : Φ (I, μ.2) := K f k1 n F L I (u2 n F L k f k1 v c hk hr ef) r1 fr (fun e => absurd e ef) (fun _ => hF)
      exact tX6_read_36 ⟨fun _ => ⟨rfl, fin⟩, fun _ => c_sortF (μ := (I, μ.2)) hF ⟨fun _ => ⟨rfl, fin⟩, fun e => absurd rfl e⟩⟩
theorem c_clear {μ : Me} {Φ : Me → Prop} (K : ∀ I, (∀ c, c ≠ 57 → c ≠ 59 → c ≠ 60 → c ≠ 65 → c ≠ 66 → I c = μ.1 c) → I 57 0 = nI 0 → I 57 1 = nI 0 → I 57 2 = nI 0 → (∀ s, s < 3 → I 59 s = mI) → (∀ k, k < 16 → I 65 k = nI 0 ∧ I 66 k = nI 0) → Φ (I, μ.2)) : VU N 1 mX5_clear [.ref 57] μ Φ := by
  have L2 : ∀ n i (I : Nat → Nat → Int32), i + n = 16 → (∀ c, c ≠ 57 → c ≠ 59 → c ≠ 60 → c ≠ 65 → c ≠ 66 → I c = μ.1 c) → I 57 0 = nI 0 → I 57 1 = nI 0 → I 57 2 = nI 0 → (∀ s, s < 3 → I 59 s = mI) → (∀ k, k < i → I 65 k = nI 0 ∧ I 66 k = nI 0) → VB N 1 mX5_clear 44 [.ref 57, .int (nI i)] [] (I, μ.2) (fun r μ' => r = none ∧ Φ μ') := by
    intro n
    induction n with
    | zero =>
      intro i I hi a1 a2 a3 a4 a5 a6
      refine tX5_clear_44 ?_
      simp (disch := omega) only [lit, Nat.add_sub_cancel, Nat.not_lt_zero, ↓m1_mI, nI_add, pk_mul, nx_and, nx_or, and31, sh_r, sh_1, nx_nand, Nat.and_one_is_mod, nI_clamp, nI_leI, nI_ltI, nI_eq, tb_1, vp_t, up2_a, up2_b, up2_c, br_1, br_0, true_and, and_true, mI_ne, mI_ne', mI_lt, mI_le, mI_nle, mI_nlt, pk_sub, mI_sub, eq_true (show 16 ≤ i by omega)]
      exact K I a1 a2 a3 a4 a5 (fun k hk => a6 k (by omega))
    | succ n ih =>
      intro i I hi a1 a2 a3 a4 a5 a6
      refine tX5_clear_44 ?_
      simp (disch := omega) only [lit, Nat.add_sub_cancel, Nat.not_lt_zero, ↓m1_mI, nI_add, pk_mul, nx_and, nx_or, and31, sh_r, sh_1, nx_nand, Nat.and_one_is_mod, nI_clamp, nI_leI, nI_ltI, nI_eq, tb_1, vp_t, up2_a, up2_b, up2_c, br_1, br_0, true_and, and_true, mI_ne, mI_ne', mI_lt, mI_le, mI_nle, mI_nlt, pk_sub, mI_sub, eq_false (show ¬ 16 ≤ i by omega)]
      refine ih (i + 1) _ (by omega) (fun c c1 c2 c3 c4 c5 => by rw [up2_ne c4, up2_ne c5]; exact a1 c c1 c2 c3 c4 c5) (by rw [up2_a (by decide), up2_a (by decide)]; exact a2) (by rw [up2_a (by decide), up2_a (by decide)]; exact a3) (by rw [up2_a (by decide), up2_a (by decide)]; exact a4) (fun s hs => by rw [up2_a (by decide), up2_a (by decide)]; exact a5 s hs) (fun k hk => ?_)
      by_cases e : k = i
      · rw [e, up2_c, up2_a (by decide), up2_c]; exact ⟨rfl, rfl⟩
      · rw [up2_b e, up2_a (by decide), up2_a (by decide), up2_b e]
        exact a6 k (by omega)
  have L1 : ∀ n i (I : Nat → Nat → Int32), i + n = 3 → (∀ c, c ≠ 57 → c ≠ 59 → c ≠ 60 → c ≠ 65 → c ≠ 66 → I c = μ.1 c) → I 57 0 = nI 0 → I 57 1 = nI 0 → I 57 2 = nI 0 → (∀ s, s < i → I 59 s = mI) → VB N 1 mX5_clear 17 [.ref 57, .int (nI i)] [] (I, μ.2) (fun r μ' => r = none ∧ Φ μ') := by
    intro n
    induction n with
    | zero =>
      intro i I hi a1 a2 a3 a4 a5
      refine tX5_clear_17 ?_
      simp (disch := omega) only [lit, Nat.add_sub_cancel, Nat.not_lt_zero, ↓m1_mI, nI_add, pk_mul, nx_and, nx_or, and31, sh_r, sh_1, nx_nand, Nat.and_one_is_mod, nI_clamp, nI_leI, nI_ltI, nI_eq, tb_1, vp_t, up2_a, up2_b, up2_c, br_1, br_0, true_and, and_true, mI_ne, mI_ne', mI_lt, mI_le, mI_nle, mI_nlt, pk_sub, mI_sub, eq_true (show 3 ≤ i by omega)]
      exact L2 16 0 I rfl a1 a2 a3 a4 (fun s hs => a5 s (by omega)) (fun k hk => absurd hk (by omega))
    | succ n ih =>
      intro i I hi a1 a2 a3 a4 a5
      refine tX5_clear_17 ?_
      simp (disch := omega) only [lit, Nat.add_sub_cancel, Nat.not_lt_zero, ↓m1_mI, nI_add, pk_mul, nx_and, nx_or, and31, sh_r, sh_1, nx_nand, Nat.and_one_is_mod, nI_clamp, nI_leI, nI_ltI, nI_eq, tb_1, vp_t, up2_a, up2_b, up2_c, br_1, br_0, true_and, and_true, mI_ne, mI_ne', mI_lt, mI_le, mI_nle, mI_nlt, pk_sub, mI_sub, eq_false (show ¬ 3 ≤ i by omega)]
      refine ih (i + 1) _ (by omega) (fun c c1 c2 c3 c4 c5 => by rw [up2_ne c3, up2_ne c2]; exact a1 c c1 c2 c3 c4 c5) (by rw [up2_a (by decide), up2_a (by decide)]; exact a2) (by rw [up2_a (by decide), up2_a (by decide)]; exact a3) (by rw [up2_a (by decide), up2_a (by decide)]; exact a4) (fun s hs => ?_)
      by_cases e : s = i
      · rw [e, up2_a (by decide), up2_c]
      · rw [up2_a (by decide), up2_b e]
        exact a5 s (by omega)
  refine tX5_clear_0 (L1 3 0 _ rfl (fun c c1 _ _ _ _ => by rw [up2_ne c1, up2_ne c1, up2_ne c1]) ?_ ?_ ?_ (fun s hs => absurd hs (by omega)))
  · rw [up2_b (by decide), up2_b (by decide), up2_c]; rfl
  · rw [up2_b (by decide), up2_c]; rfl
  · rw [up2_c]; rfl
/-- a text is read -/
theorem c_read {μ : Me} {Φ : Me → Prop} (h : cTp bt tn μ.1) (K : ∀ m f k1 n F L I, m ≤ 300 → tS bt tn m = tn → Rx (kT bt tn) (kV bt tn) 0 (fun _ _ => 0) [] 0 f k1 n F L → f ≤ 6 → (∀ c, c < 51 ∨ c = 53 ∨ 66 < c → I c = μ.1 c) → I 51 2 = nI 1 → (f = 0 → CX bt tn m n F L k1 I ∧ I 51 4 = mI) → (f ≠ 0 → CF bt tn m f k1 I) → Φ (I, μ.2)) : VU N 43 mX6_read [.ref 51] μ Φ := by
  refine tX6_read_0 (c_clear (fun I1 a1 a2 a3 a4 a5 a6 => ?_))
  have r51 : I1 51 = (up2 (up2 (up2 (up2 μ.1 51 2 1) 51 3 0) 51 4 (-1)) 51 5 0) 51 := a1 51 (by decide) (by decide) (by decide) (by decide) (by decide)
  have rc : ∀ c, c ≠ 51 → c ≠ 57 → c ≠ 59 → c ≠ 60 → c ≠ 65 → c ≠ 66 → I1 c = μ.1 c := fun c c0 c1 c2 c3 c4 c5 => by
    rw [a1 c c1 c2 c3 c4 c5]
    show (up2 (up2 (up2 (up2 μ.1 51 2 1) 51 3 0) 51 4 (-1)) 51 5 0) c = _
    rw [up2_ne c0, up2_ne c0, up2_ne c0, up2_ne c0]
  have t1 : cTp bt tn I1 := by
    unfold cTp at *
    rw [rc 52 (by decide) (by decide) (by decide) (by decide) (by decide) (by decide), rc 53 (by decide) (by decide) (by decide) (by decide) (by decide) (by decide)]
    exact h
  refine c_split (μ := (I1, μ.2)) t1 (fun m I2 b1 b2 b3 b4 b5 b6 b7 b8 => ?_)
  have i2 : ∀ c, c ≠ 52 → c ≠ 54 → c ≠ 55 → c ≠ 56 → I2 c = I1 c := fun c c1 c2 c3 c4 => b1 c (by intro q; simp at q; omega)
  have tm : TM bt tn m I2 := ⟨by have := b2.2.2.1; omega, b2.2.2.1, b2.2.2.2, b4, b6, b7, b8, b5⟩
  have e51 : I2 51 = I1 51 := i2 51 (by decide) (by decide) (by decide) (by decide)
  have e57 : I2 57 = I1 57 := i2 57 (by decide) (by decide) (by decide) (by decide)
  have cx : CX bt tn m 0 (fun _ _ => 0) [] 0 I2 := by
    refine ⟨⟨tm, Nat.zero_le _, ?_, ?_, by decide, ?_, fun i hi => absurd hi (Nat.not_lt_zero _), ?_⟩, ⟨?_, fun k hk => absurd hk (Nat.not_lt_zero _), fun s hs _ => ?_, fun k hk => absurd hk (Nat.not_lt_zero _), fun k hk _ => ?_, fun _ => 0, fun i hi => absurd hi (Nat.not_lt_zero _), ⟨fun i hi => absurd hi (Nat.not_lt_zero _), fun i j _ hj => absurd hj (Nat.not_lt_zero _), fun k hk => absurd hk (Nat.not_lt_zero _)⟩⟩, ?_, by decide, by decide⟩
    · rw [e51, r51, up2_c]; rfl
    · rw [e51, r51, up2_b (by decide), up2_b (by decide), up2_c]; rfl
    · rw [e57]; exact a2
    · rw [e51, r51, up2_b (by decide), up2_c]; rfl
    · rw [e57]; exact a4
    · rw [i2 59 (by decide) (by decide) (by decide) (by decide)]; exact a5 s hs
    · rw [i2 65 (by decide) (by decide) (by decide) (by decide), i2 66 (by decide) (by decide) (by decide) (by decide)]; exact a6 k hk
    · rw [e57]; exact a3
  have K' : ∀ f k1 n2 F2 L2 I, Rx (kT bt tn) (kV bt tn) 0 (fun _ _ => 0) [] 0 f k1 n2 F2 L2 → f ≤ 6 → CXr I2 I → (f = 0 → CX bt tn m n2 F2 L2 k1 I ∧ I 51 4 = mI) → (f ≠ 0 → CF bt tn m f k1 I) → Φ (I, μ.2) := by
    intro f k1 n2 F2 L2 I hr hf fr hok hno
    refine K m f k1 n2 F2 L2 I tm.1 b4 hr hf (fun c hc => ?_) ?_ hok hno
    · rw [fr.1 c (by omega) (by omega), i2 c (by omega) (by omega) (by omega) (by omega)]
      exact rc c (by omega) (by omega) (by omega) (by omega) (by omega) (by omega)
    · rw [fr.2, e51, r51, up2_b (by decide), up2_b (by decide), up2_b (by decide), up2_c]; rfl
  exact c_readL (m - 0 + 1) 0 (fun _ _ => 0) [] 0 0 (I2, μ.2) (by omega) cx (Nat.le_refl _) (fun f k1 n2 F2 L2 I hr hf fr hok hno => K' f k1 n2 F2 L2 I hr hf fr (fun e => ⟨hok e, (hok e).1.2.2.2.2.2.2.2⟩) hno)
end CD1
