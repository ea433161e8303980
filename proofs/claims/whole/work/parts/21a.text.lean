/-! clauses and texts: the rules of reading, and the class -/
section RA1
def Rbd (T V : Nat → Nat) (L : Cd) (s k f k1 : Nat) (v : Nat → Nat) (c : Cd) : Prop := v 0 = s ∧ ((s = 0 ∧ Rd T V 1 1 0 0 0 k f k1 c ∧ v 1 = L.length ∧ v 2 = L.length + c.length) ∨ ((s = 1 ∨ s = 2) ∧ Re T V 0 0 0 0 k f k1 c ∧ v 1 = L.length ∧ v 2 = L.length + c.length) ∨ (s = 3 ∧ Rr T V k f k1 v ∧ c = []))
/-- a clause may begin there -/
def okh (T : Nat → Nat) (n : Nat) (F : Nat → Nat → Nat) (k : Nat) : Prop := 1 ≤ T k ∧ T k ≤ 4 ∧ (T k ≤ 3 → ∀ i, i < n → F i 0 ≠ T k - 1)
def Rc (T V : Nat → Nat) (n : Nat) (F : Nat → Nat → Nat) (L : Cd) (k f k1 : Nat) (v : Nat → Nat) (c : Cd) : Prop :=
  (¬ (1 ≤ T k ∧ T k ≤ 4) ∧ f = 1 ∧ k1 = k) ∨
  (1 ≤ T k ∧ T k ≤ 3 ∧ (∃ i, i < n ∧ F i 0 = T k - 1) ∧ f = 4 ∧ k1 = k) ∨
  (okh T n F k ∧ 16 ≤ n ∧ f = 6 ∧ k1 = k) ∨
  (okh T n F k ∧ n < 16 ∧ Rbd T V L (T k - 1) (k + 1) f k1 v c ∧ f ≠ 0) ∨
  (okh T n F k ∧ n < 16 ∧ Rbd T V L (T k - 1) (k + 1) 0 k1 v c ∧ T k1 ≠ 59 ∧ f = 1) ∨
  (okh T n F k ∧ n < 16 ∧ ∃ k2, k1 = k2 + 1 ∧ Rbd T V L (T k - 1) (k + 1) 0 k2 v c ∧ T k2 = 59 ∧ f = 0)
def RxC (T V : Nat → Nat) (P : Nat → (Nat → Nat → Nat) → Cd → Nat → Nat → Nat → Nat → (Nat → Nat → Nat) → Cd → Prop) : Prop :=
  (∀ n F L k, T k = 21 → P n F L k 0 k n F L) ∧
  (∀ n F L k f k1 v c, T k ≠ 21 → Rc T V n F L k f k1 v c → f ≠ 0 → P n F L k f k1 n F L) ∧
  (∀ n F L k k1 v c f k2 n2 F2 L2, T k ≠ 21 → Rc T V n F L k 0 k1 v c → P (n + 1) (upFn F n v) (L ++ c) k1 f k2 n2 F2 L2 → P n F L k f k2 n2 F2 L2)
def Rx (T V : Nat → Nat) (n : Nat) (F : Nat → Nat → Nat) (L : Cd) (k f k1 n2 : Nat) (F2 : Nat → Nat → Nat) (L2 : Cd) : Prop := ∀ P, RxC T V P → P n F L k f k1 n2 F2 L2
theorem Rx.rules {T V : Nat → Nat} : RxC T V (Rx T V) := ⟨fun n F L k h1 P h => h.1 n F L k h1, fun n F L k f k1 v c h1 h2 h3 P h => h.2.1 n F L k f k1 v c h1 h2 h3, fun n F L k k1 v c f k2 n2 F2 L2 h1 h2 h3 P h => h.2.2 n F L k k1 v c f k2 n2 F2 L2 h1 h2 (h3 P h)⟩
theorem Rr.len {T V : Nat → Nat} {k f k1 : Nat} {v : Nat → Nat} (h : Rr T V k f k1 v) : f ≤ 6 ∧ k ≤ k1 := by
  rcases h with ⟨h1, h2⟩ | ⟨_, _, h1, h2⟩ | ⟨_, _, h1, h2⟩ | ⟨_, _, _, _, h1, h2⟩ | ⟨_, _, _, _, h1, h2⟩ | ⟨_, _, _, _, _, h1, y, h2⟩ | ⟨_, _, _, _, _, k2, y, z, h1, h2, _⟩
  · rcases h1 with g | g <;> omega
  · omega
  · rcases h1 with g | g <;> omega
  · omega
  · rcases h1 with g | g <;> omega
  · have := h2.lt; omega
  · have := h1.lt; have := h2.lt; omega
theorem Rbd.len {T V : Nat → Nat} {L : Cd} {s k f k1 : Nat} {v : Nat → Nat} {c : Cd} (h : Rbd T V L s k f k1 v c) : f ≤ 6 ∧ k ≤ k1 ∧ (f = 0 → c.length + k ≤ k1) := by
  rcases h.2 with ⟨_, h1, _⟩ | ⟨_, h1, _⟩ | ⟨_, h1, h2⟩
  · obtain ⟨r1, r2, r3, r4⟩ := h1.len
    refine ⟨r1, r2, fun e => ?_⟩
    have := r4 e
    rw [if_neg (by decide), if_pos rfl] at this
    have e0 : ok1 0 = 0 := rfl
    omega
  · obtain ⟨r1, r2, r3⟩ := h1.len
    refine ⟨r1, r2, fun e => ?_⟩
    have := r3 e
    rw [if_pos rfl] at this
    have e0 : ok1 0 = 0 := rfl
    omega
  · have := h1.len
    rw [h2]
    exact ⟨this.1, this.2, fun _ => by show 0 + k ≤ k1; omega⟩
end RA1
section CA1
variable {N : Nat} {bt : Nat → Nat} {tn m : Nat}
theorem CKt.fr {k : Nat} {L : Cd} {I I' : Nat → Nat → Int32} (h : CKt bt tn m k L I) (h5 : I' 51 5 = I 51 5) (h3 : I' 51 3 = I 51 3) (h4 : I' 51 4 = I 51 4) (e2 : I' 52 = I 52) (e4 : I' 54 = I 54) (e5 : I' 55 = I 55) (e6 : I' 56 = I 56) (e7 : I' 57 0 = I 57 0) (e8 : I' 58 = I 58) : CKt bt tn m k L I' := by
  obtain ⟨g1, g2, g3, g4, g5⟩ := h
  refine ⟨g1.fr e2 e4 e5 e6, g2, h5.trans g3, h3.trans g4, ?_⟩
  unfold cod at *
  rw [e7, e8, h4]
  exact g5
theorem CF.fr {f k : Nat} {I I' : Nat → Nat → Int32} (h : CF bt tn m f k I) (e1 : I' 51 = I 51) (e2 : I' 52 = I 52) (e4 : I' 54 = I 54) (e5 : I' 55 = I 55) (e6 : I' 56 = I 56) (e7 : I' 57 0 = I 57 0) : CF bt tn m f k I' := by
  obtain ⟨g1, g2⟩ := h
  refine ⟨g1.fr e2 e4 e5 e6, ?_⟩
  rw [e1, e7]
  exact g2
theorem le_15 {v b : Nat} (hv : v ≤ 10000) (hb : b ≤ 10000) : (nI v ≤ nI b) ↔ v ≤ b := by rw [nI_leI (by omega) (by omega)]
section
variable {k : Nat} {L : Cd} {μ : Me} {Φ : Me → Prop}
theorem c_rule (h : CKt bt tn m k L μ.1) (K0 : ∀ k1 v I, v 0 = 3 → v 1 < 16 → Rr (kT bt tn) (kV bt tn) k 0 k1 v → CFr μ.1 I → CKt bt tn m k1 L I → VU N 1 mX5_addRule [.ref 57, .int (nI (v 1)), .int (nI (v 2)), .int (nI (v 3)), .int (nI (v 4)), .int (nI (v 5))] (I, μ.2) (fun μ9 => (none : Option Value) = none ∧ Φ μ9)) (K1 : ∀ f k1 v I, v 0 = 3 → f ≠ 0 → Rr (kT bt tn) (kV bt tn) k f k1 v → CFr μ.1 I → CF bt tn m f k1 I → Φ (I, μ.2)) : VU N 4 mX6_rule [.ref 51] μ Φ := by
  have hv := kV_le (bt := bt) (tn := tn)
  have F7 : ∀ {A : Prop} {f kf : Nat} {μ7 : Me}, CF bt tn m f kf μ7.1 → Φ μ7 → br ((μ7.1 51 3) = 0) A ((none : Option Value) = none ∧ Φ μ7) := by
    intro A f kf μ7 hF hΦ
    obtain ⟨_, _, f1, f6, _, h3, _⟩ := hF
    refine ⟨fun e => ?_, fun _ => ⟨rfl, hΦ⟩⟩
    rw [h3] at e
    exact absurd (nI_inj (b := 0) e (by omega) (by decide)) (by omega)
  refine tX6_rule_0 ?_
  refine c_number (lo := 0) (hi := 15) (by decide) h (fun g1 _ g2 I1 fr1 h1 => ?_) (fun g1 g2 I1 fr1 h1 => ?_) (fun g1 I1 fr1 h1 => ?_)
  rotate_left
  · exact c_passF (x := 5) (μ := (I1, μ.2)) (by decide) (by decide) h1 (c_numberF h1 (c_passF (x := 6) (by decide) (by decide) h1 (c_numberF h1 (c_fbF (w := 7) (by decide) (by decide) h1 (fun v6 => c_fbF (w := 8) (by decide) (by decide) h1 (fun v7 => F7 h1 (K1 2 k (fun _ => 3) I1 rfl (by decide) (Or.inl ⟨Or.inr ⟨g1, fun z => g2 ⟨z.1, (le_15 (hv k) (by decide)).mpr z.2⟩, rfl⟩, rfl⟩) fr1 h1)))))))
  · exact c_passF (x := 5) (μ := (I1, μ.2)) (by decide) (by decide) h1 (c_numberF h1 (c_passF (x := 6) (by decide) (by decide) h1 (c_numberF h1 (c_fbF (w := 7) (by decide) (by decide) h1 (fun v6 => c_fbF (w := 8) (by decide) (by decide) h1 (fun v7 => F7 h1 (K1 1 k (fun _ => 3) I1 rfl (by decide) (Or.inl ⟨Or.inl ⟨g1, rfl⟩, rfl⟩) fr1 h1)))))))
  have n1 : numk (kT bt tn) (kV bt tn) 0 15 k := ⟨g1, Nat.zero_le _, (le_15 (hv k) (by decide)).mp g2⟩
  have hb16 : kV bt tn k < 16 := by have := n1.2.2; omega
  refine c_pass (x := 5) (μ := (I1, μ.2)) (by decide) (by decide) h1 (fun p1 I2 fr2 h2 => ?_) (fun p1 I2 fr2 h2 => ?_)
  rotate_left
  · exact c_numberF (μ := (I2, μ.2)) h2 (c_passF (x := 6) (by decide) (by decide) h2 (c_numberF h2 (c_fbF (w := 7) (by decide) (by decide) h2 (fun v6 => c_fbF (w := 8) (by decide) (by decide) h2 (fun v7 => F7 h2 (K1 1 (k + 1) (fun _ => 3) I2 rfl (by decide) (Or.inr (Or.inl ⟨n1, p1, rfl, rfl⟩)) (fr1.tr fr2) h2))))))
  refine c_number (lo := 1) (hi := 9) (μ := (I2, μ.2)) (by decide) h2 (fun g1 g1' g2 I3 fr3 h3 => ?_) (fun g1 g2 I3 fr3 h3 => ?_) (fun g1 I3 fr3 h3 => ?_)
  rotate_left
  · exact c_passF (x := 6) (μ := (I3, μ.2)) (by decide) (by decide) h3 (c_numberF h3 (c_fbF (w := 7) (by decide) (by decide) h3 (fun v6 => c_fbF (w := 8) (by decide) (by decide) h3 (fun v7 => F7 h3 (K1 2 (k + 2) (fun _ => 3) I3 rfl (by decide) (Or.inr (Or.inr (Or.inl ⟨n1, p1, Or.inr ⟨g1, fun z => g2 ⟨z.1, (le_15 (hv _) (by decide)).mpr z.2⟩, rfl⟩, rfl⟩))) ((fr1.tr fr2).tr fr3) h3)))))
  · exact c_passF (x := 6) (μ := (I3, μ.2)) (by decide) (by decide) h3 (c_numberF h3 (c_fbF (w := 7) (by decide) (by decide) h3 (fun v6 => c_fbF (w := 8) (by decide) (by decide) h3 (fun v7 => F7 h3 (K1 1 (k + 2) (fun _ => 3) I3 rfl (by decide) (Or.inr (Or.inr (Or.inl ⟨n1, p1, Or.inl ⟨g1, rfl⟩, rfl⟩))) ((fr1.tr fr2).tr fr3) h3)))))
  have n2 : numk (kT bt tn) (kV bt tn) 1 9 (k + 2) := ⟨g1, g1', (le_15 (hv _) (by decide)).mp g2⟩
  refine c_pass (x := 6) (μ := (I3, μ.2)) (by decide) (by decide) h3 (fun p2 I4 fr4 h4 => ?_) (fun p2 I4 fr4 h4 => ?_)
  rotate_left
  · exact c_numberF (μ := (I4, μ.2)) h4 (c_fbF (w := 7) (by decide) (by decide) h4 (fun v6 => c_fbF (w := 8) (by decide) (by decide) h4 (fun v7 => F7 h4 (K1 1 (k + 3) (fun _ => 3) I4 rfl (by decide) (Or.inr (Or.inr (Or.inr (Or.inl ⟨n1, p1, n2, p2, rfl, rfl⟩)))) (((fr1.tr fr2).tr fr3).tr fr4) h4))))
  have fr34 := ((fr1.tr fr2).tr fr3).tr fr4
  refine c_number (lo := 0) (hi := 99) (μ := (I4, μ.2)) (by decide) h4 (fun g1 _ g2 I5 fr5 h5 => ?_) (fun g1 g2 I5 fr5 h5 => ?_) (fun g1 I5 fr5 h5 => ?_)
  rotate_left
  · exact c_fbF (w := 7) (μ := (I5, μ.2)) (by decide) (by decide) h5 (fun v6 => c_fbF (w := 8) (by decide) (by decide) h5 (fun v7 => F7 h5 (K1 2 (k + 4) (fun _ => 3) I5 rfl (by decide) (Or.inr (Or.inr (Or.inr (Or.inr (Or.inl ⟨n1, p1, n2, p2, Or.inr ⟨g1, fun z => g2 ⟨z.1, (le_15 (hv _) (by decide)).mpr z.2⟩, rfl⟩, rfl⟩))))) (fr34.tr fr5) h5)))
  · exact c_fbF (w := 7) (μ := (I5, μ.2)) (by decide) (by decide) h5 (fun v6 => c_fbF (w := 8) (by decide) (by decide) h5 (fun v7 => F7 h5 (K1 1 (k + 4) (fun _ => 3) I5 rfl (by decide) (Or.inr (Or.inr (Or.inr (Or.inr (Or.inl ⟨n1, p1, n2, p2, Or.inl ⟨g1, rfl⟩, rfl⟩))))) (fr34.tr fr5) h5)))
  have n3 : numk (kT bt tn) (kV bt tn) 0 99 (k + 4) := ⟨g1, Nat.zero_le _, (le_15 (hv _) (by decide)).mp g2⟩
  have fr45 := fr34.tr fr5
  refine c_fb (w := 7) (b := kV bt tn k) (μ := (I5, μ.2)) hb16 (by decide) (by decide) h5 (fun f k6 y vy I6 hr6 fr6 hok6 hno6 => ?_)
  by_cases ef : f = 0
  · subst ef
    obtain ⟨ey, h6⟩ := hok6 rfl
    subst ey
    refine c_fb (w := 8) (b := kV bt tn k) (μ := (I6, μ.2)) hb16 (by decide) (by decide) h6 (fun f k7 z vz I7 hr7 fr7 hok7 hno7 => ?_)
    have frz := (fr45.tr fr6).tr fr7
    by_cases ef : f = 0
    · subst ef
      obtain ⟨ez, h7⟩ := hok7 rfl
      subst ez
      have e3 : I7 51 3 = 0 := h7.2.2.2.1
      refine ⟨fun _ => ?_, fun e => absurd e3 e⟩
      exact K0 k7 (fun j => if j = 0 then 3 else if j = 1 then kV bt tn k else if j = 2 then kV bt tn (k + 2) else if j = 3 then kV bt tn (k + 4) else if j = 4 then y else z) I7 rfl hb16 (Or.inr (Or.inr (Or.inr (Or.inr (Or.inr (Or.inr ⟨n1, p1, n2, p2, n3, k6, y, z, hr6, hr7, fun _ => ⟨rfl, rfl, rfl, rfl, rfl⟩⟩)))))) frz h7
    · refine F7 (hno7 ef) (K1 f k7 (fun _ => 3) I7 rfl ef (Or.inr (Or.inr (Or.inr (Or.inr (Or.inr (Or.inr ⟨n1, p1, n2, p2, n3, k6, y, z, hr6, hr7, fun e => absurd e ef⟩)))))) frz (hno7 ef))
  · exact c_fbF (w := 8) (μ := (I6, μ.2)) (by decide) (by decide) (hno6 ef) (fun v7 => F7 (hno6 ef) (K1 f k6 (fun _ => 3) I6 rfl ef (Or.inr (Or.inr (Or.inr (Or.inr (Or.inr (Or.inl ⟨n1, p1, n2, p2, n3, ef, y, hr6⟩)))))) (fr45.tr fr6) (hno6 ef)))
end
end CA1
