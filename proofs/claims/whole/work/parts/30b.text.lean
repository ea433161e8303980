/-! text: both sides answer alike -/
section TB1
variable {N : Nat}
section
variable {B B' R tp : Nat → Nat} {tn : Nat} {ft fp : Int32} {I Z : Nat → Nat → Int32}
theorem IV.read {B2 : Nat → Nat} {ft' fp' : Int32} (hw : WS B B' R tp tn) (hc : CS B B' R tp tn ft fp I) (hr : RS B B' R tp tn ft fp I) (h4 : B 3 < 4) (z1 : ∀ a, (20 < a ∧ a < 51) ∨ (66 < a ∧ a < 86 + 11 * B 3) → Z a = I a) (z2 : Z 52 0 = nI 0) (z3 : ¬ Z 51 2 = 0 ∧ Z 51 3 = ft' ∧ Z 51 4 = fp') (z4 : Z 132 = I 132) (z5 : ∀ j, ∃ n, n < 65536 ∧ Z 133 j = nI n) (z5' : ∀ j, j < 750 * B 3 → Z 133 j = I 133 j) (z6 : Z 130 4 = nI 0 ∧ Z 130 5 = ft' ∧ Z 130 6 = fp') (b1 : WB B2) (b2 : CB B2 3 Z) (b3 : rowB B2 (Z 131)) (b4 : B2 3 = B 3 ∨ B2 3 = B 3 + 1) (b5 : B2 3 = B 3 + 1 → ∀ T : Nat → Nat, (∀ j, T j < 65536 ∧ Z 133 (750 * B 3 + j) = nI (T j)) → WT T ∧ LW T (86 + 11 * B 3) Z) : IV Z := by
  obtain ⟨R', hR'⟩ := Classical.skolem.mp z5
  obtain ⟨w1, w2, w3, w4, w5, w6, w7⟩ := hw
  have ag : ∀ i, i < B 3 → ∀ j, j < 750 → tx R' i j = tx R i j := by
    intro i hi j hj
    have e1 := (hR' (750 * i + j)).2
    have m1 : 750 * i + j < 750 * B 3 := by
      have : 750 * (i + 1) ≤ 750 * B 3 := Nat.mul_le_mul_left 750 hi
      omega
    rw [z5' _ m1, hr.2.2.1 (750 * i + j)] at e1
    have l1 := w4 (750 * i + j)
    have l2 := (hR' (750 * i + j)).1
    exact (nI_inj e1 (by omega) (by omega)).symm
  have lt : ∀ i j, tx R' i j < 65536 := fun i j => (hR' _).1
  have new : B2 3 = B 3 + 1 → WT (tx R' (B 3)) ∧ LW (tx R' (B 3)) (86 + 11 * B 3) Z := fun e => b5 e (tx R' (B 3)) (fun j => hR' (750 * B 3 + j))
  refine ⟨B2, B', R', tp, 0, ft', fp', ⟨b1, w2, by omega, fun j => (hR' j).1, fun i hi => ?_, by decide, fun j hj => absurd hj (Nat.not_lt_zero _)⟩, ⟨b2, hc.2.1.fr (fun a a1 a2 => z1 a (by omega)), ⟨fun i hi => ?_, hc.2.2.1.2.1.fr (fun a a1 a2 => z1 a (by omega)), fun b hb => ?_⟩, ⟨z2, fun j hj => absurd hj (Nat.not_lt_zero _), Or.inr z3⟩⟩, ⟨b3, ?_, fun j => (hR' j).2, ⟨z6.1, fun j hj => absurd hj (Nat.not_lt_zero _), z6.2.1, z6.2.2⟩⟩⟩
  · by_cases e : i < B 3
    · exact (w5 i e).c (ag i e) (lt i)
    · have e2 : i = B 3 := by omega
      rw [e2]
      exact (new (by omega)).1
  · by_cases e : i < B 3
    · refine ((hc.2.2.1.1 i e).fr (fun a a1 a2 => z1 a (by omega))).c (w5 i e) (ag i e)
    · have e2 : i = B 3 := by omega
      rw [e2]
      exact (new (by omega)).2
  · rw [z1 78 (by omega)]
    exact hc.2.2.1.2.2 b hb
  · rw [z4]
    exact hr.2.1
end
theorem text_all : TX N := by
  intro μ Φ h K
  have h' := h
  obtain ⟨B, B', R, tp, tn, ft, fp, hw, hc, hr⟩ := h
  have hn := hw.1.n
  have h35 : μ.1 3 5 = nI (B 3) := hc.1.t1
  have h131 : μ.1 131 3 = nI (B 3) := hr.1.1 3 (by decide)
  have tn3 : tn ≤ 300 := hw.2.2.2.2.2.1
  have lt4 : (nI (B 3) < 4) ↔ B 3 < 4 := by rw [show (4 : Int32) = nI 4 from rfl, nI_ltI (by omega) (by decide)]
  have eq4 : (nI (B 3) = 4) ↔ B 3 = 4 := by rw [show (4 : Int32) = nI 4 from rfl, nI_eq (by omega) (by decide)]
  have ge0 : ¬ nI (B 3) < 0 := by rw [show (0 : Int32) = nI 0 from rfl, nI_ltI (by omega) (by decide)]; omega
  refine tX11_text_0 ?_
  rw [h35]
  refine ⟨fun e => absurd e ge0, fun _ => ⟨fun g4 => ?_, fun g4 => ?_⟩⟩
  rotate_left
  · have g4 : ¬ B 3 < 4 := fun e => g4 (lt4.mpr e)
    refine ⟨_, rfl, rfl, tX12_text_0 ?_⟩
    rw [h131]
    exact ⟨fun _ => ⟨_, rfl, K _ μ h' rfl⟩, fun e => absurd (eq4.mpr (by omega)) e⟩
  have g4 := lt4.mp g4
  have r133 : ∀ j, ∃ n, n < 65536 ∧ μ.1 133 j = nI n := fun j => ⟨R j, hw.2.2.2.1 j, hr.2.2.1 j⟩
  refine c_read (bt := tp) (tn := tn) ⟨hc.2.2.2.1, hc.2.2.2.2.1, tn3, hw.2.2.2.2.2.2⟩ (fun m f k1 n F L I m3 tSm hrx f6 e1 e2 hok hno => ?_)
  have e130 : ∀ a, 130 ≤ a → I a = μ.1 a := fun a ha => e1 a (by omega)
  have i51 : ¬ I 51 2 = 0 := by rw [e2]; decide
  by_cases ef : f = 0
  · -- no fault
    obtain ⟨⟨hK, hL, h571, hn16, hlk⟩, h514⟩ := hok ef
    have h513 : I 51 3 = 0 := hK.2.2.2.1
    refine ⟨fun _ => ?_, fun e => absurd h513 e⟩
    have rr : ∃ r, (([some 86, some 97, some 108, some 119] : List (Option Nat)).getD (B 3) none) = some r ∧ r = 86 + 11 * B 3 ∧ (r = 86 ∨ r = 97 ∨ r = 108 ∨ r = 119) := by
      have cs : B 3 = 0 ∨ B 3 = 1 ∨ B 3 = 2 ∨ B 3 = 3 := by omega
      rcases cs with q | q | q | q <;> rw [q]
      · exact ⟨86, rfl, rfl, by decide⟩
      · exact ⟨97, rfl, rfl, by decide⟩
      · exact ⟨108, rfl, rfl, by decide⟩
      · exact ⟨119, rfl, rfl, by decide⟩
    obtain ⟨r, q1, q2, q3⟩ := rr
    rw [nI_clamp (by omega), q1]
    refine ⟨vp_in_nI g4 (by decide), rfl, ?_⟩
    refine tX11_text_55 (q0 := r) q3 (c_copyL q3 (fun μ2 a0 a2 c1 c2 c3 c4 c5 c6 c7 c8 c9 => ⟨_, rfl, ?_⟩))
    have m2 : ∀ a, a ≠ 52 → a < r ∨ r + 9 < a → μ2.1 a = I a := fun a ha hra => by
      rw [a0 a hra]
      show up2 I 52 0 0 a = _
      exact up2_ne ha
    have m52 : μ2.1 52 0 = nI 0 := by
      rw [a0 52 (by omega)]
      show up2 I 52 0 0 52 0 = _
      rw [up2_c]; rfl
    have s57 : ∀ a, 57 ≤ a → a ≤ 66 → (up2 I 52 0 0) a = I a := fun a a1 a2 => up2_ne (by omega)
    rw [show (nI (B 3) + 1 : Int32) = nI (B 3 + 1) from nI_add _ 1]
    have J : ∀ a, a ≠ 3 → a ≠ 52 → a < r ∨ r + 9 < a → (up2 μ2.1 3 5 (nI (B 3 + 1))) a = I a := fun a a1 a2 a3 => by rw [up2_ne a1]; exact m2 a a2 a3
    have J130 : ∀ a, 130 ≤ a → (up2 μ2.1 3 5 (nI (B 3 + 1))) a = μ.1 a := fun a ha => by rw [J a (by omega) (by omega) (by omega)]; exact e130 a ha
    refine ⟨?_, ?_⟩
    · show (up2 μ2.1 3 5 (nI (B 3 + 1))) 0 = _
      rw [J 0 (by decide) (by decide) (by omega)]
      exact e1 0 (by omega)
    -- the reference
    have rtp : rTp tp tn (up2 μ2.1 3 5 (nI (B 3 + 1))) := by
      refine ⟨?_, fun j hj => ?_, tn3, hw.2.2.2.2.2.2⟩
      · rw [J130 130 (by decide)]; exact hr.2.2.2.1
      · rw [J130 134 (by decide)]; exact hr.2.2.2.2.1 j hj
    refine tX12_text_0 ⟨fun e => ?_, fun _ => ?_⟩
    · have e : (up2 μ2.1 3 5 (nI (B 3 + 1))) 131 3 = 4 := e
      rw [J130 131 (by decide), h131] at e
      exact absurd (eq4.mp e) (by omega)
    refine r_readText (m := m) (t := B 3) (μ := (up2 μ2.1 3 5 (nI (B 3 + 1)), μ2.2)) (by omega) m3 tSm rtp (by show (up2 μ2.1 3 5 (nI (B 3 + 1))) 131 3 = _; rw [J130 131 (by decide)]; exact h131) (fun j => by show ∃ n, n < 65536 ∧ (up2 μ2.1 3 5 (nI (B 3 + 1))) 133 j = nI n; rw [J130 133 (by decide)]; exact r133 j) hrx (fun _ μ3 fr3 h3 => ?_) (fun e => absurd ef e)
    obtain ⟨hK3, hT3, _, hl3⟩ := h3
    have x131 : μ3.1 131 = μ.1 131 := by rw [fr3.1 131 (by decide) (by decide) (by decide)]; exact J130 131 (by decide)
    refine ⟨fun _ => tX12_text_36 ⟨fun _ => ⟨_, rfl, ?_⟩, fun e => absurd (show (up2 μ3.1 130 5 (0 : Int32)) 130 5 = 0 from up2_c) e⟩, fun e => absurd rfl e⟩
    have x3 : (up2 μ3.1 130 5 (0 : Int32)) 131 3 = nI (B 3) := by rw [up2_a (by decide), x131]; exact h131
    rw [show ((up2 μ3.1 130 5 (0 : Int32), μ3.2) : Me).1 131 3 = nI (B 3) from x3, show (nI (B 3) + 1 : Int32) = nI (B 3 + 1) from nI_add _ 1, show (nI (B 3 + 1) - 1 : Int32) = nI (B 3) from n1_eq (by omega)]
    have Zr : ∀ a, a ≠ 130 → a ≠ 131 → (up2 (up2 (up2 (up2 μ3.1 130 5 (0 : Int32)) 130 6 (-1)) 130 4 0) 131 3 (nI (B 3 + 1))) a = μ3.1 a := fun a a1 a2 => by rw [up2_ne a2, up2_ne a1, up2_ne a1, up2_ne a1]
    have Z4 : (up2 (up2 (up2 (up2 μ3.1 130 5 (0 : Int32)) 130 6 (-1)) 130 4 0) 131 3 (nI (B 3 + 1))) 130 4 = nI 0 := by rw [up2_a (by decide), up2_c]; rfl
    have Z5 : (up2 (up2 (up2 (up2 μ3.1 130 5 (0 : Int32)) 130 6 (-1)) 130 4 0) 131 3 (nI (B 3 + 1))) 130 5 = 0 := by rw [up2_a (by decide), up2_b (by decide), up2_b (by decide), up2_c]
    have Z6 : (up2 (up2 (up2 (up2 μ3.1 130 5 (0 : Int32)) 130 6 (-1)) 130 4 0) 131 3 (nI (B 3 + 1))) 130 6 = -1 := by rw [up2_a (by decide), up2_b (by decide), up2_c]
    have Z131 : rowB (ub B 3 (B 3 + 1)) ((up2 (up2 (up2 (up2 μ3.1 130 5 (0 : Int32)) 130 6 (-1)) 130 4 0) 131 3 (nI (B 3 + 1))) 131) := by
      refine rowB_up ?_ (by decide)
      rw [up2_ne (by decide), up2_ne (by decide), up2_ne (by decide), x131]
      exact hr.1
    have Zc : ∀ a, a ≠ 130 → a ≠ 131 → a ≠ 133 → a ≠ 135 → (up2 (up2 (up2 (up2 μ3.1 130 5 (0 : Int32)) 130 6 (-1)) 130 4 0) 131 3 (nI (B 3 + 1))) a = (up2 μ2.1 3 5 (nI (B 3 + 1))) a := fun a a1 a2 a3 a4 => by rw [Zr a a1 a2]; exact fr3.1 a a1 a3 a4
    generalize (up2 (up2 (up2 (up2 μ3.1 130 5 (0 : Int32)) 130 6 (-1)) 130 4 0) 131 3 (nI (B 3 + 1))) = Z at *
    have wh := hrx.wh ef ⟨fun k hk => absurd hk (Nat.not_lt_zero _), fun k l hk => absurd hk (Nat.not_lt_zero _), fun k hk => absurd hk (Nat.not_lt_zero _)⟩
    have bl := hrx.bl ef (fun x hx => by cases hx)
    refine K _ (Z, μ3.2) ?_ ?_
    · show IV Z
      refine IV.read (B2 := ub B 3 (B 3 + 1)) (ft' := 0) (fp' := -1) hw hc hr g4 (fun a ha => ?_) ?_ ⟨?_, ?_, ?_⟩ ?_ (fun j => ?_) (fun j hj => ?_) ⟨Z4, Z5, Z6⟩ (WB_tx hw.1 (by omega) (by omega)) ?_ Z131 (Or.inr ub_e) (fun _ T hT => ?_)
      · rw [Zc a (by omega) (by omega) (by omega) (by omega), J a (by omega) (by omega) (by omega)]
        exact e1 a (by omega)
      · rw [Zc 52 (by decide) (by decide) (by decide) (by decide), up2_ne (by decide)]
        exact m52
      · rw [Zc 51 (by decide) (by decide) (by decide) (by decide), J 51 (by decide) (by decide) (by omega)]
        exact i51
      · rw [Zc 51 (by decide) (by decide) (by decide) (by decide), J 51 (by decide) (by decide) (by omega)]
        exact h513
      · rw [Zc 51 (by decide) (by decide) (by decide) (by decide), J 51 (by decide) (by decide) (by omega)]
        exact h514
      · rw [Zc 132 (by decide) (by decide) (by decide) (by decide), J130 132 (by decide)]
      · rw [Zr 133 (by decide) (by decide)]
        exact hK3.2.2.2.2.2.2.2.2 j
      · rw [Zr 133 (by decide) (by decide), fr3.2.2 j (by omega)]
        show (up2 μ2.1 3 5 (nI (B 3 + 1))) 133 j = _
        rw [J130 133 (by decide)]
      · obtain ⟨d1, d2, d3, d4, d5⟩ := hc.1
        have row : ∀ a, 4 ≤ a → a ≤ 20 → Z a = μ.1 a := fun a b1 b2 => by
          rw [Zc a (by omega) (by omega) (by omega) (by omega), J a (by omega) (by omega) (by omega)]
          exact e1 a (by omega)
        have row3 : Z 3 = (up2 μ2.1 3 5 (nI (B 3 + 1))) 3 := Zc 3 (by decide) (by decide) (by decide) (by decide)
        have m23 : μ2.1 3 = μ.1 3 := by rw [m2 3 (by decide) (by omega)]; exact e1 3 (by omega)
        unfold CB
        rw [row (3 + 1) (by decide) (by decide), row (3 + 2) (by decide) (by decide), row (3 + 3) (by decide) (by decide), row (3 + 4) (by decide) (by decide), row (3 + 5) (by decide) (by decide), row (3 + 6) (by decide) (by decide), row (3 + 7) (by decide) (by decide), row (3 + 8) (by decide) (by decide), row (3 + 9) (by decide) (by decide), row (3 + 10) (by decide) (by decide), row (3 + 11) (by decide) (by decide), row (3 + 12) (by decide) (by decide), row (3 + 13) (by decide) (by decide), row (3 + 14) (by decide) (by decide), row (3 + 15) (by decide) (by decide), row (3 + 16) (by decide) (by decide), row (3 + 17) (by decide) (by decide), row3]
        refine ⟨?_, cRoll_ub d2 (by decide) (fun i hi => by omega), cRow_ub d3 (by decide) (fun i hi => by omega), cRow_ub d4 (by decide) (fun i hi => by omega), cRow_ub d5 (by decide) (fun i hi => by omega)⟩
        unfold cHd at *
        rw [ub_e, ub_n (by decide), ub_n (by decide), up2_c, up2_b (by decide), up2_b (by decide), m23]
        exact ⟨d1.1, rfl, d1.2.2⟩
      · have z133 : ∀ j, Z 133 j = μ3.1 133 j := fun j => by rw [Zr 133 (by decide) (by decide)]
        have hLl := hK.2.2.2.2.1
        have tv : TV n F L T := by
          refine ⟨?_, fun i j hi hj hij => ?_, fun i hi => ?_⟩
          · have e := (hT 0).2
            rw [z133, Nat.add_zero, hT3.2.1] at e
            exact (nI_inj e (by omega) (by have := (hT 0).1; omega)).symm
          · have e := (hT (1 + 6 * i + j)).2
            rw [z133, show 750 * B 3 + (1 + 6 * i + j) = 750 * B 3 + 1 + 6 * i + j by omega, hT3.2.2 i j hi hj hij] at e
            have l1 := wh.bd hLl hi hj hij
            exact (nI_inj e (by omega) (by have := (hT (1 + 6 * i + j)).1; omega)).symm
          · have ee := hK3.2.2.2.2.2.2.2.1 i hi
            have l1 := bl _ (itm_mem hi)
            have a := (hT (150 + 2 * i)).2
            have b := (hT (150 + 2 * i + 1)).2
            rw [z133, show 750 * B 3 + (150 + 2 * i) = 750 * B 3 + 150 + 2 * i by omega, ee.1] at a
            rw [z133, show 750 * B 3 + (150 + 2 * i + 1) = 750 * B 3 + 150 + 2 * i + 1 by omega, ee.2] at b
            exact ⟨(nI_inj a (by omega) (by have := (hT (150 + 2 * i)).1; omega)).symm, (nI_inj b (by omega) (by have := (hT (150 + 2 * i + 1)).1; omega)).symm⟩
        have wt := tv.wt wh hn16 hLl (fun j => (hT j).1)
        refine ⟨wt, ?_⟩
        have lw := tv.lw wh hn16 hL hK.2.2.2.2
        have zr : ∀ a, r ≤ a → a ≤ r + 9 → Z a = μ2.1 a := fun a b1 b2 => by
          rw [Zc a (by omega) (by omega) (by omega) (by omega)]
          exact up2_ne (by omega)
        have u5 : ∀ a, 57 ≤ a → a ≤ 66 → ((up2 I 52 0 0, μ.2) : Me).1 a = I a := fun a b1 b2 => s57 a b1 b2
        rw [← q2]
        refine lw.copy wt ?_ (fun j hj => ?_) (fun j hj => ?_) (fun j hj => ?_) (fun j hj => ?_) (fun j hj => ?_) (fun j hj => ?_) (fun j hj => ?_) (fun j hj => ?_) (fun j hj => ?_)
        · rw [zr r (by omega) (by omega), a2, u5 57 (by decide) (by decide)]
        · rw [zr _ (by omega) (by omega), c1 j hj, u5 58 (by decide) (by decide)]
        · rw [zr _ (by omega) (by omega), c2 j hj, u5 59 (by decide) (by decide)]
        · rw [zr _ (by omega) (by omega), c3 j hj, u5 60 (by decide) (by decide)]
        · rw [zr _ (by omega) (by omega), c4 j hj, u5 61 (by decide) (by decide)]
        · rw [zr _ (by omega) (by omega), c5 j hj, u5 62 (by decide) (by decide)]
        · rw [zr _ (by omega) (by omega), c6 j hj, u5 63 (by decide) (by decide)]
        · rw [zr _ (by omega) (by omega), c7 j hj, u5 64 (by decide) (by decide)]
        · rw [zr _ (by omega) (by omega), c8 j hj, u5 65 (by decide) (by decide)]
        · rw [zr _ (by omega) (by omega), c9 j hj, u5 66 (by decide) (by decide)]
    · show Z 0 = _
      rw [Zc 0 (by decide) (by decide) (by decide) (by decide), J 0 (by decide) (by decide) (by omega)]
      exact e1 0 (by omega)
  · -- a fault
    have hF := hno ef
    obtain ⟨_, _, f1, _, _, h513, h514, _⟩ := hF
    have fne : ¬ nI f = (0 : Int32) := fun e => ef (nI_inj (b := 0) e (by omega) (by decide))
    refine ⟨fun e => absurd (h513.symm.trans e) fne, fun _ => ⟨_, rfl, ?_⟩⟩
    have J : ∀ a, a ≠ 52 → (up2 I 52 0 0) a = I a := fun a a1 => up2_ne a1
    have J130 : ∀ a, 130 ≤ a → (up2 I 52 0 0) a = μ.1 a := fun a ha => by rw [J a (by omega)]; exact e130 a ha
    refine ⟨?_, ?_⟩
    · show (up2 I 52 0 0) 0 = _
      rw [J 0 (by decide)]
      exact e1 0 (by omega)
    have rtp : rTp tp tn (up2 I 52 0 0) := by
      refine ⟨?_, fun j hj => ?_, tn3, hw.2.2.2.2.2.2⟩
      · rw [J130 130 (by decide)]; exact hr.2.2.2.1
      · rw [J130 134 (by decide)]; exact hr.2.2.2.2.1 j hj
    refine tX12_text_0 ⟨fun e => ?_, fun _ => ?_⟩
    · have e : (up2 I 52 0 0) 131 3 = 4 := e
      rw [J130 131 (by decide), h131] at e
      exact absurd (eq4.mp e) (by omega)
    refine r_readText (m := m) (t := B 3) (μ := (up2 I 52 0 0, μ.2)) (by omega) m3 tSm rtp (by show (up2 I 52 0 0) 131 3 = _; rw [J130 131 (by decide)]; exact h131) (fun j => by show ∃ n, n < 65536 ∧ (up2 I 52 0 0) 133 j = nI n; rw [J130 133 (by decide)]; exact r133 j) hrx (fun e => absurd e ef) (fun _ μ3 fr3 h3 => ?_)
    obtain ⟨_, h8, hR3⟩ := h3
    have x131 : μ3.1 131 = μ.1 131 := by rw [fr3.1 131 (by decide) (by decide) (by decide)]; exact J130 131 (by decide)
    refine ⟨fun e => absurd e fne, fun _ => tX12_text_36 ⟨fun e => ?_, fun _ => ⟨_, rfl, ?_⟩⟩⟩
    · have e : (up2 μ3.1 130 5 (nI f)) 130 5 = 0 := e
      rw [up2_c] at e
      exact absurd e fne
    rw [h8]
    have Zr : ∀ a, a ≠ 130 → (up2 (up2 (up2 μ3.1 130 5 (nI f)) 130 6 (nI (tS tp tn k1))) 130 4 0) a = μ3.1 a := fun a a1 => by rw [up2_ne a1, up2_ne a1, up2_ne a1]
    have Z4 : (up2 (up2 (up2 μ3.1 130 5 (nI f)) 130 6 (nI (tS tp tn k1))) 130 4 0) 130 4 = nI 0 := by rw [up2_c]; rfl
    have Z5 : (up2 (up2 (up2 μ3.1 130 5 (nI f)) 130 6 (nI (tS tp tn k1))) 130 4 0) 130 5 = nI f := by rw [up2_b (by decide), up2_b (by decide), up2_c]
    have Z6 : (up2 (up2 (up2 μ3.1 130 5 (nI f)) 130 6 (nI (tS tp tn k1))) 130 4 0) 130 6 = nI (tS tp tn k1) := by rw [up2_b (by decide), up2_c]
    have Zc : ∀ a, a ≠ 130 → a ≠ 133 → a ≠ 135 → (up2 (up2 (up2 μ3.1 130 5 (nI f)) 130 6 (nI (tS tp tn k1))) 130 4 0) a = (up2 I 52 0 0) a := fun a a1 a2 a3 => by rw [Zr a a1]; exact fr3.1 a a1 a2 a3
    generalize (up2 (up2 (up2 μ3.1 130 5 (nI f)) 130 6 (nI (tS tp tn k1))) 130 4 0) = Z at *
    refine K _ (Z, μ3.2) ?_ ?_
    · show IV Z
      refine IV.read (B2 := B) (ft' := nI f) (fp' := nI (tS tp tn k1)) hw hc hr g4 (fun a ha => ?_) ?_ ⟨?_, ?_, ?_⟩ ?_ (fun j => ?_) (fun j hj => ?_) ⟨Z4, Z5, Z6⟩ hw.1 (hc.1.fr (fun a a1 a2 => ?_)) ?_ (Or.inl rfl) (fun e => absurd e (by omega))
      · rw [Zc a (by omega) (by omega) (by omega), J a (by omega)]
        exact e1 a (by omega)
      · rw [Zc 52 (by decide) (by decide) (by decide), up2_c]; rfl
      · rw [Zc 51 (by decide) (by decide) (by decide), J 51 (by decide)]
        exact i51
      · rw [Zc 51 (by decide) (by decide) (by decide), J 51 (by decide)]
        exact h513
      · rw [Zc 51 (by decide) (by decide) (by decide), J 51 (by decide)]
        exact h514
      · rw [Zc 132 (by decide) (by decide) (by decide), J130 132 (by decide)]
      · rw [Zr 133 (by decide)]
        exact hR3 j
      · rw [Zr 133 (by decide), fr3.2.2 j (by omega)]
        show (up2 I 52 0 0) 133 j = _
        rw [J130 133 (by decide)]
      · rw [Zc a (by omega) (by omega) (by omega), J a (by omega)]
        exact e1 a (by omega)
      · rw [Zr 131 (by decide), x131]
        exact hr.1
    · show Z 0 = _
      rw [Zc 0 (by decide) (by decide) (by decide), J 0 (by decide)]
      exact e1 0 (by omega)
end TB1
