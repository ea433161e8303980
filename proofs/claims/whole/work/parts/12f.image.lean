/-! image, back -/
section SH_
variable {N : Nat} {μ : Me} {B B' R T tp : Nat → Nat} {tn : Nat} {ft fp : Int32} {I I1 I' : Nat → Nat → Int32}
theorem upR_n {I : Nat → Nat → Int32} {c a : Nat} {g : Nat → Int32} (h : a ≠ c) : upR I c g a = I a := if_neg h
theorem upR_e {I : Nat → Nat → Int32} {c : Nat} {g : Nat → Int32} : upR I c g c = g := if_pos rfl
theorem c_copy8 {r0 r1 : Nat} {Ψ : Me → Prop} (h : (r0 = 4 ∧ r1 = 22) ∨ (r0 = 22 ∧ r1 = 4)) (hB : B 0 ≤ 10) (hC : cRoll B (μ.1 r1) (μ.1 (r1 + 1)) (μ.1 (r1 + 2)) (μ.1 (r1 + 3)) (μ.1 (r1 + 4))) (K : ∀ μ' : Me, (∀ a, a < r0 ∨ r0 + 4 < a → μ'.1 a = μ.1 a) → cRoll B (μ'.1 r0) (μ'.1 (r0 + 1)) (μ'.1 (r0 + 2)) (μ'.1 (r0 + 3)) (μ'.1 (r0 + 4)) → Ψ μ') : VU N 1 mX8_copy [.ref r0, .ref r1] μ Ψ := by
  refine tX8_copy_0 (by omega) (by omega) ?_
  intro μ1 e1 μ2 e2 μ3 e3 μ4 e4
  subst e1 e2 e3 e4
  refine ⟨rfl, K _ (fun a ha => ?_) ?_⟩
  · simp (disch := omega) only [upR_n, up2_ne]
  · obtain ⟨q0, q1, q2⟩ := hC
    unfold cRoll
    refine ⟨?_, ?_, fun i hi => ?_⟩
    · simp (disch := omega) only [upR_n, up2_b, up2_c]; exact q0
    · simp (disch := omega) only [upR_n, up2_c, up2_a]; exact q1
    · have := q2 i hi
      have hi' : i < 10 := by omega
      simp (disch := omega) only [upR_n, upR_e, up2_a, if_pos hi']
      exact this
theorem c_copy7 {r0 r1 : Nat} {Ψ : Me → Prop} (h : (r0 = 13 ∧ r1 = 31) ∨ (r0 = 31 ∧ r1 = 13)) (hB : B 5 ≤ 10) (hC : cRow B 5 80 (μ.1 r1) (μ.1 (r1 + 1)) (μ.1 (r1 + 2)) (μ.1 (r1 + 3))) (K : ∀ μ' : Me, (∀ a, a < r0 ∨ r0 + 3 < a → μ'.1 a = μ.1 a) → cRow B 5 80 (μ'.1 r0) (μ'.1 (r0 + 1)) (μ'.1 (r0 + 2)) (μ'.1 (r0 + 3)) → Ψ μ') : VU N 1 mX7_copy [.ref r0, .ref r1] μ Ψ := by
  refine tX7_copy_0 (by omega) (by omega) ?_
  intro μ1 e1 μ2 e2 μ3 e3
  subst e1 e2 e3
  refine ⟨rfl, K _ (fun a ha => ?_) ?_⟩
  · simp (disch := omega) only [upR_n, up2_ne]
  · obtain ⟨q0, q2⟩ := hC
    refine ⟨?_, fun i hi => ?_⟩
    · simp (disch := omega) only [upR_n, up2_b, up2_c]; exact q0
    · have := q2 i hi
      have hi' : i < 10 := by omega
      simp (disch := omega) only [upR_n, upR_e, up2_a, if_pos hi']
      exact this
theorem c_copy3 {r0 r1 : Nat} {Ψ : Me → Prop} (h : (r0 = 9 ∧ r1 = 27) ∨ (r0 = 27 ∧ r1 = 9)) (hB : B 1 ≤ 6) (hC : cRow B 1 60 (μ.1 r1) (μ.1 (r1 + 1)) (μ.1 (r1 + 2)) (μ.1 (r1 + 3))) (K : ∀ μ' : Me, (∀ a, a < r0 ∨ r0 + 3 < a → μ'.1 a = μ.1 a) → cRow B 1 60 (μ'.1 r0) (μ'.1 (r0 + 1)) (μ'.1 (r0 + 2)) (μ'.1 (r0 + 3)) → Ψ μ') : VU N 1 mX3_copy [.ref r0, .ref r1] μ Ψ := by
  refine tX3_copy_0 (by omega) (by omega) ?_
  intro μ1 e1 μ2 e2 μ3 e3
  subst e1 e2 e3
  refine ⟨rfl, K _ (fun a ha => ?_) ?_⟩
  · simp (disch := omega) only [upR_n, up2_ne]
  · obtain ⟨q0, q2⟩ := hC
    refine ⟨?_, fun i hi => ?_⟩
    · simp (disch := omega) only [upR_n, up2_b, up2_c]; exact q0
    · have := q2 i hi
      have hi' : i < 6 := by omega
      simp (disch := omega) only [upR_n, upR_e, up2_a, if_pos hi']
      exact this
theorem c_copy9 {r0 r1 : Nat} {Ψ : Me → Prop} (h : (r0 = 17 ∧ r1 = 35) ∨ (r0 = 35 ∧ r1 = 17)) (hB : B 6 ≤ 20) (hC : cRow B 6 110 (μ.1 r1) (μ.1 (r1 + 1)) (μ.1 (r1 + 2)) (μ.1 (r1 + 3))) (K : ∀ μ' : Me, (∀ a, a < r0 ∨ r0 + 3 < a → μ'.1 a = μ.1 a) → cRow B 6 110 (μ'.1 r0) (μ'.1 (r0 + 1)) (μ'.1 (r0 + 2)) (μ'.1 (r0 + 3)) → Ψ μ') : VU N 1 mX9_copy [.ref r0, .ref r1] μ Ψ := by
  refine tX9_copy_0 (by omega) (by omega) ?_
  intro μ1 e1 μ2 e2 μ3 e3
  subst e1 e2 e3
  refine ⟨rfl, K _ (fun a ha => ?_) ?_⟩
  · simp (disch := omega) only [upR_n, up2_ne]
  · obtain ⟨q0, q2⟩ := hC
    refine ⟨?_, fun i hi => ?_⟩
    · simp (disch := omega) only [upR_n, up2_b, up2_c]; exact q0
    · have := q2 i hi
      have hi' : i < 20 := by omega
      simp (disch := omega) only [upR_n, upR_e, up2_a, if_pos hi']
      exact this
theorem c_copyC {r0 r1 : Nat} {Ψ : Me → Prop} (h : (r0 = 3 ∧ r1 = 21) ∨ (r0 = 21 ∧ r1 = 3)) (hW : WB B) (hC : CB B r1 μ.1) (K : ∀ μ' : Me, (∀ a, a < r0 ∨ r0 + 17 < a → μ'.1 a = μ.1 a) → CB B r0 μ'.1 → Ψ μ') : VU N 2 mX1_copy [.ref r0, .ref r1] μ Ψ := by
  have hn := hW.n
  obtain ⟨c1, c2, c3, c4, c5⟩ := hC
  refine tX1_copy_0 (by omega) (by omega) ?_
  refine c_copy8 (B := B) (by omega) (by omega) c2 (fun μ1 a1 d1 => ?_)
  refine c_copy3 (B := B) (by omega) (by omega) (by simp (disch := omega) only [a1]; exact c3) (fun μ2 a2 d2 => ?_)
  refine c_copy7 (B := B) (by omega) (by omega) (by simp (disch := omega) only [a2, a1]; exact c4) (fun μ3 a3 d3 => ?_)
  refine c_copy9 (B := B) (by omega) (by omega) (by simp (disch := omega) only [a3, a2, a1]; exact c5) (fun μ4 a4 d4 => ?_)
  refine ⟨rfl, K _ (fun a ha => ?_) ?_⟩
  · simp (disch := omega) only [up2_ne]
    rw [a4 a (by omega), a3 a (by omega), a2 a (by omega), a1 a (by omega)]
  · have e0 : μ4.1 r1 = μ.1 r1 := by rw [a4 r1 (by omega), a3 r1 (by omega), a2 r1 (by omega), a1 r1 (by omega)]
    unfold CB
    simp (disch := omega) only [up2_ne]
    refine ⟨?_, ?_, ?_, ?_, ?_⟩
    · unfold cHd at *
      simp (disch := omega) only [up2_b, up2_c, up2_a]
      rw [e0]
      exact c1
    · simp (disch := omega) only [a4, a3, a2]
      exact d1
    · simp (disch := omega) only [a4, a3]
      exact d2
    · simp (disch := omega) only [a4]
      exact d3
    · exact d4
theorem k_image {Φ : Int32 → Int32 → Me → Prop} (h : IV μ.1) (K : ∀ v (μ' : Me), IV μ'.1 → μ'.1 0 = μ.1 0 → Φ v v μ') : VI N 3 mX11_image [.ref 2] μ (fun v μ1 => μ1.1 0 = μ.1 0 ∧ VI N 2 mX12_image [.ref 130] μ1 (fun v' μ2 => Φ v v' μ2)) := by
  obtain ⟨B, B', R, tp, tn, ft, fp, hw, hc, hr⟩ := h
  have hn := hw.1.n
  refine tX11_image_0 (c_copyC (B := B) (Or.inr ⟨rfl, rfl⟩) hw.1 hc.1 (fun μ1 a1 d1 => ⟨_, rfl, ?_⟩))
  try refine And.intro (by first | rfl | exact hA 0 (by decide) | exact b3 0 (by decide) | exact b2 0 (by decide) | exact a1 0 (by decide) | exact a1 0 (by omega) | exact a3 0 (by decide) (by decide) | simp (disch := omega) only [up2_ne]) ?_
  refine c_image ?_
  have e0 : μ1.1 4 0 = nI (B 0) := by rw [a1 4 (by omega)]; exact hc.1.k0
  have e1 : μ1.1 131 = μ.1 131 := a1 131 (by omega)
  rw [e0, e1, hr.1.1 0 (by decide)]
  have ce : ∀ a, a ≠ 132 → cpI μ1.1 a = μ1.1 a := by
    intro a ha
    funext b
    exact if_neg (fun h => ha h.1)
  refine K _ _ ⟨B, B, R, tp, tn, ft, fp, ⟨hw.1, hw.1, Nat.le_refl _, hw.2.2.2⟩, ?_, ?_⟩ ?_
  · obtain ⟨c1, c2, c3, c4⟩ := hc
    refine ⟨c1.fr (fun a k1 k2 => ?_), d1.fr (fun a k1 k2 => ce a (by omega)), c3.fr hn.2.2.2.1 (fun a k1 k2 k3 => ?_), ?_⟩
    · show cpI μ1.1 a = _
      rw [ce a (by omega), a1 a (by omega)]
    · have e21 : ∀ a, a = 39 → a ∉ scC := by intro a h; subst h; decide
      show cpI μ1.1 a = _
      rw [ce a (by omega), a1 a (by omega)]
    · unfold cTape at *
      show cpI μ1.1 52 0 = _ ∧ _
      rw [show (cpI μ1.1, μ1.2).1 = cpI μ1.1 from rfl, ce 51 (by omega), ce 52 (by omega), ce 53 (by omega), a1 51 (by omega), a1 52 (by omega), a1 53 (by omega)]
      exact c4
  · obtain ⟨r1, r2, r3, r4⟩ := hr
    refine ⟨?_, ⟨fun k hk => ?_, ?_⟩, ?_, ?_⟩
    · show rowB B (cpI μ1.1 131)
      rw [ce 131 (by omega), e1]; exact r1
    · show cpI μ1.1 132 k = _
      unfold cpI
      by_cases hk2 : k < 175
      · rw [if_pos ⟨rfl, hk2⟩, e1]; exact r1.1 k hk
      · rw [if_neg (fun h => hk2 h.2), a1 132 (by omega), r2.1 k hk, hw.2.1.big (by omega), hw.1.big (by omega)]
    · show cpI μ1.1 132 4 = _
      unfold cpI
      rw [if_pos ⟨rfl, by decide⟩, e1]; exact r1.2
    · show ∀ j, cpI μ1.1 133 j = _
      rw [ce 133 (by omega), a1 133 (by omega)]; exact r3
    · unfold rTape at *
      rw [show (cpI μ1.1, μ1.2).1 = cpI μ1.1 from rfl, ce 130 (by omega), ce 134 (by omega), a1 130 (by omega), a1 134 (by omega)]
      exact r4
  · show cpI μ1.1 0 = _
    rw [ce 0 (by omega), a1 0 (by omega)]
theorem k_back {Φ : Int32 → Int32 → Me → Prop} (h : IV μ.1) (K : ∀ v (μ' : Me), IV μ'.1 → μ'.1 0 = μ.1 0 → Φ v v μ') : VI N 3 mX11_back [.ref 2] μ (fun v μ1 => μ1.1 0 = μ.1 0 ∧ VI N 2 mX12_back [.ref 130] μ1 (fun v' μ2 => Φ v v' μ2)) := by
  obtain ⟨B, B', R, tp, tn, ft, fp, hw, hc, hr⟩ := h
  have hn := hw.1.n
  have hn' := hw.2.1.n
  have h33 := hw.2.2.1
  refine tX11_back_0 (c_copyC (B := B') (Or.inl ⟨rfl, rfl⟩) hw.2.1 hc.2.1 (fun μ1 a1 d1 => ⟨_, rfl, ?_⟩))
  have e1 : μ1.1 132 = μ.1 132 := a1 132 (by omega)
  try refine And.intro (by first | rfl | exact hA 0 (by decide) | exact b3 0 (by decide) | exact b2 0 (by decide) | exact a1 0 (by decide) | exact a1 0 (by omega) | exact a3 0 (by decide) (by decide) | simp (disch := omega) only [up2_ne]) ?_
  refine tX12_back_0 (copy_go (Or.inr rfl) (Or.inl rfl) (by decide) ⟨rfl, _, rfl, ?_⟩)
  have e9 : (if 131 = 131 ∧ 0 < 175 then μ1.1 132 0 else μ1.1 131 0) = nI (B' 0) := by rw [if_pos ⟨rfl, by decide⟩, e1, hr.2.1.1 0 (by decide)]
  show Φ (μ1.1 4 0) (if 131 = 131 ∧ 0 < 175 then μ1.1 132 0 else μ1.1 131 0) (fun a b => if a = 131 ∧ b < 175 then μ1.fst 132 b else μ1.fst a b, μ1.snd)
  rw [e9, d1.k0]
  have ce : ∀ a, a ≠ 131 → (fun a b => if a = 131 ∧ b < 175 then μ1.1 132 b else μ1.1 a b) a = μ1.1 a := by
    intro a ha
    funext b
    exact if_neg (fun h => ha h.1)
  obtain ⟨w1, w2, w3, w4, w5, w6, w7⟩ := hw
  refine K _ _ ⟨B', B', R, tp, tn, ft, fp, ⟨w2, w2, Nat.le_refl _, w4, fun t ht => w5 t (by omega), w6, w7⟩, ?_, ?_⟩ ?_
  · obtain ⟨c1, c2, c3, c4⟩ := hc
    refine ⟨d1.fr (fun a k1 k2 => ce a (by omega)), c2.fr (fun a k1 k2 => (ce a (by omega)).trans (a1 a (by omega))), LWS.fr (I := μ.1) hn'.2.2.2.1 ⟨fun t ht => c3.1 t (by omega), c3.2⟩ (fun a k1 k2 k3 => (ce a (by omega)).trans (a1 a (by omega))), ?_⟩
    have q51 := (ce 51 (by omega)).trans (a1 51 (by omega))
    have q52 := (ce 52 (by omega)).trans (a1 52 (by omega))
    have q53 := (ce 53 (by omega)).trans (a1 53 (by omega))
    refine ⟨?_, fun j hj => ?_, ?_⟩
    · exact (congrFun q52 0).trans c4.1
    · exact (congrFun q53 j).trans (c4.2.1 j hj)
    · rcases c4.2.2 with ⟨z1, z2, z3⟩ | ⟨z1, z2, z3⟩
      · exact Or.inl ⟨(congrFun q51 2).trans z1, z2, z3⟩
      · exact Or.inr ⟨fun h => z1 ((congrFun q51 2).symm.trans h), (congrFun q51 3).trans z2, (congrFun q51 4).trans z3⟩
  · obtain ⟨r1, r2, r3, r4⟩ := hr
    have q130 := (ce 130 (by omega)).trans (a1 130 (by omega))
    have q132 := (ce 132 (by omega)).trans (a1 132 (by omega))
    have q133 := (ce 133 (by omega)).trans (a1 133 (by omega))
    have q134 := (ce 134 (by omega)).trans (a1 134 (by omega))
    refine ⟨⟨fun k hk => ?_, ?_⟩, ⟨fun k hk => (congrFun q132 k).trans (r2.1 k hk), (congrFun q132 4).trans r2.2⟩, fun j => (congrFun q133 j).trans (r3 j), (congrFun q130 4).trans r4.1, fun j hj => (congrFun q134 j).trans (r4.2.1 j hj), (congrFun q130 5).trans r4.2.2.1, (congrFun q130 6).trans r4.2.2.2⟩
    · show (if 131 = 131 ∧ k < 175 then μ1.1 132 k else μ1.1 131 k) = _
      by_cases hk2 : k < 175
      · rw [if_pos ⟨rfl, hk2⟩, e1]; exact r2.1 k hk
      · rw [if_neg (fun h => hk2 h.2), a1 131 (by omega), r1.1 k hk, w2.big (by omega), w1.big (by omega)]
    · show (if 131 = 131 ∧ 4 < 175 then μ1.1 132 4 else μ1.1 131 4) = _
      rw [if_pos ⟨rfl, by decide⟩, e1]; exact r2.2
  · exact (ce 0 (by omega)).trans (a1 0 (by omega))
end SH_
