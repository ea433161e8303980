/-! the class reads a clause, a text -/
section CC1
variable {N : Nat} {bt : Nat → Nat} {tn m : Nat}
section
variable {k n : Nat} {F : Nat → Nat → Nat} {L : Cd} {μ : Me} {Φ : Me → Prop}
theorem c_clause (h : CX bt tn m n F L k μ.1) (hk : kT bt tn k ≠ 21) (K : ∀ f k1 v c I, Rc (kT bt tn) (kV bt tn) n F L k f k1 v c → CXr μ.1 I → (f = 0 → CX bt tn m (n + 1) (upFn F n v) (L ++ c) k1 I) → (f ≠ 0 → CF bt tn m f k1 I) → Φ (I, μ.2)) : VU N 42 mX6_clause [.ref 51] μ Φ := by
  obtain ⟨hK, hL, h1, hn, hlk⟩ := h
  have hb := kT_lt hK.1.2.2.1 k
  have hm := hK.1.1
  have hkm := hK.2.1
  have hlt := ((hK.1.get hkm).2.2 hk).1
  have h5 := hK.2.2.1
  have hcl := hK.2.2.2.2.1
  have e15 : ¬ (1 ≤ kT bt tn k ∧ kT bt tn k ≤ 4) → VB N 42 mX6_clause 15 [.ref 51] [] μ (fun r μ' => r = none ∧ Φ μ') := fun g =>
    tX6_clause_15 (c_fail (f := 1) hK (by decide) (by decide) (fun I fr hF => ⟨rfl, K 1 k (fun _ => 0) [] I (Or.inl ⟨g, rfl, rfl⟩) fr.x (fun e => absurd e (by decide)) (fun _ => hF)⟩))
  have J0c : ∀ {fee : Nat} {c : Nat}, c ≠ 51 → (up2 (up2 μ.1 51 5 (nI (k + 1))) 51 6 (nI fee)) c = μ.1 c := fun hc => by rw [up2_ne hc, up2_ne hc]
  have J02 : ∀ {fee : Nat}, (up2 (up2 μ.1 51 5 (nI (k + 1))) 51 6 (nI fee)) 51 2 = μ.1 51 2 := by intro fee; rw [up2_b (by decide), up2_b (by decide)]
  have hJ0 : ∀ {fee : Nat}, CKt bt tn m (k + 1) L (up2 (up2 μ.1 51 5 (nI (k + 1))) 51 6 (nI fee)) := by
    intro fee
    exact (hK.nx hk).fr (up2_b (by decide)) (up2_b (by decide)) (up2_b (by decide)) (up2_ne (by decide)) (up2_ne (by decide)) (up2_ne (by decide)) (up2_ne (by decide)) (up2_a (by decide)) (up2_ne (by decide))
  -- behind the body of a clause that isn't a rule
  have aft : ∀ fee (J1 : Nat → Nat → Int32), okh (kT bt tn) n F k → n < 16 → kT bt tn k ≤ 3 → (∀ c, c ≠ 59 → J1 c = (up2 (up2 μ.1 51 5 (nI (k + 1))) 51 6 (nI fee)) c) → (∀ b, b ≠ kT bt tn k - 1 → J1 59 b = μ.1 59 b) → J1 59 (kT bt tn k - 1) = nI L.length → ∀ f k1 c I, (∀ v : Nat → Nat, v 0 = kT bt tn k - 1 → v 1 = L.length → v 2 = L.length + c.length → Rbd (kT bt tn) (kV bt tn) L (kT bt tn k - 1) (k + 1) f k1 v c) → CFr J1 I → (f = 0 → CKt bt tn m k1 (L ++ c) I) → (f ≠ 0 → CF bt tn m f k1 I) → VB N 42 mX6_clause 130 [.ref 51, .int (nI (kT bt tn k))] [] (I, μ.2) (fun r μ' => r = none ∧ Φ μ') := by
    intro fee J1 ho hn16 hk3 j1 j2 j3 f k1 c I hr fr hok hno
    have hr := hr (fun j => if j = 0 then kT bt tn k - 1 else if j = 1 then L.length else L.length + c.length) rfl rfl rfl
    have fx : CXr μ.1 I := by
      refine CXr.tr ?_ fr.x
      exact ⟨fun d d1 d2 => by rw [j1 d (by omega)]; exact J0c d1, by rw [j1 51 (by decide)]; exact J02⟩
    by_cases ef : f = 0
    · subst ef
      obtain ⟨r1, r2, r3⟩ := hr.len
      have r3 := r3 rfl
      have hk1 := hok rfl
      have hm1 := hk1.2.1
      have h57 : I 57 1 = nI n := by rw [fr.2.2 1 (by decide), j1 57 (by decide), J0c (by decide)]; exact h1
      refine c_130 (μ := (I, μ.2)) (by have := ho.1; omega) (by omega) hn hk1 h57 (fun I3 a1 a2 a3 a4 a5 a6 a7 a8 => ?_)
      have fx3 : CXr μ.1 I3 := fx.tr ⟨fun d d1 d2 => a1 d d1 (by omega) (by omega), a6⟩
      by_cases g : kT bt tn k1 = 59
      · refine K 0 (k1 + 1) _ c I3 (Or.inr (Or.inr (Or.inr (Or.inr (Or.inr ⟨ho, hn16, k1, rfl, hr, g, rfl⟩))))) fx3 (fun _ => ⟨a7 g, ?_, a5, by omega, by rw [List.length_append]; omega⟩) (fun e => absurd rfl e)
        have o1 := ho.1
        have row : ∀ d, 61 ≤ d → d ≤ 66 → I3 d = μ.1 d := fun d d1 d2 => by rw [a1 d (by omega) (by omega) (by omega), show ((I, μ.2) : Me).1 d = I d from rfl, fr.1 d (ni3 (by omega) (by omega) (by omega)), j1 d (by omega), J0c (by omega)]
        have r59 : I3 59 = J1 59 := by rw [a1 59 (by decide) (by decide) (by decide)]; exact fr.1 59 (by decide)
        refine hL.add (s := kT bt tn k - 1) (by omega) (fun i hi => ho.2.2 hk3 i hi) rfl (show L.length ≤ 300 by omega) ?_ row (by rw [r59]; exact j3) ?_ (fun b hb => by rw [r59]; exact j2 b hb) (fun b hb => ?_)
        · rw [a2 2 (by decide) (by decide)]
          show I 57 2 = _
          rw [fr.2.2 2 (by decide), j1 57 (by decide), J0c (by decide)]
        · rw [a4 hk3, List.length_append]; rfl
        · rw [a3 b (fun _ => by omega)]
          show I 60 b = _
          rw [fr.1 60 (by decide), j1 60 (by decide), J0c (by decide)]
      · exact K 1 k1 _ c I3 (Or.inr (Or.inr (Or.inr (Or.inr (Or.inl ⟨ho, hn16, hr, g, rfl⟩))))) fx3 (fun e => absurd e (by decide)) (fun _ => a8 g)
    · exact c_130F (μ := (I, μ.2)) (by have := ho.1; omega) (by omega) (hno ef) (fun I3 fr3 hF => K f k1 _ c I3 (Or.inr (Or.inr (Or.inr (Or.inl ⟨ho, hn16, hr, ef⟩)))) (fx.tr fr3) (fun e => absurd e ef) (fun _ => hF))
  have e86 : ∀ fee, fee ≤ 1 → (fee = 1 ↔ kT bt tn k = 1) → okh (kT bt tn) n F k → n < 16 → VB N 42 mX6_clause 86 [.ref 51, .int (nI (kT bt tn k))] [.int (nI fee), .ref 51] (up2 μ.1 51 5 (nI (k + 1)), μ.2) (fun r μ' => r = none ∧ Φ μ') := by
    intro fee hf1 hfe ho hn16
    have o1 := ho.1
    have o4 := ho.2.1
    have ex : (nI (kT bt tn k) - 1 : Int32) = nI (kT bt tn k - 1) := n1_eq o1
    have e4 : (nI (kT bt tn k) = 4) ↔ kT bt tn k = 4 := by rw [show (4 : Int32) = nI 4 from rfl, nI_eq (by omega) (by omega)]
    refine tX6_clause_86 ⟨?_, tX5_open_0 ?_⟩
    · have : fee = 0 ∨ fee = 1 := by omega
      rcases this with e | e
      · rw [e]; exact Or.inl rfl
      · rw [e]; exact Or.inr rfl
    rw [ex]
    have neg : ¬ nI (kT bt tn k - 1) < 0 := by rw [show (0 : Int32) = nI 0 from rfl, nI_ltI (by omega) (by omega)]; omega
    have ge3 : (3 ≤ nI (kT bt tn k - 1)) ↔ 3 ≤ kT bt tn k - 1 := by rw [show (3 : Int32) = nI 3 from rfl, nI_leI (by omega) (by omega)]
    refine ⟨fun g => absurd g neg, fun _ => ⟨fun g => ⟨rfl, ?_⟩, fun g => ?_⟩⟩
    · -- a rule
      have t4 : kT bt tn k = 4 := by have := ge3.mp g; omega
      refine ⟨fun _ => ?_, fun q => absurd (e4.mpr t4) q⟩
      have hL0 : LHb n F (up2 (up2 μ.1 51 5 (nI (k + 1))) 51 6 (nI fee)) := hL.fr (by rw [J0c (by decide)]) (fun c c1 c2 => J0c (by omega))
      have fx0 : CXr μ.1 (up2 (up2 μ.1 51 5 (nI (k + 1))) 51 6 (nI fee)) := ⟨fun d d1 d2 => J0c d1, J02⟩
      refine c_rule (μ := (up2 (up2 μ.1 51 5 (nI (k + 1))) 51 6 (nI fee), μ.2)) hJ0 (fun k1 v I v0 v1 hr fr hk1 => ?_) (fun f k1 v I v0 hf hr fr hF => ?_)
      · have hL1 := hL0.cf fr
        have h57 : I 57 1 = nI n := by rw [fr.2.2 1 (by decide)]; show (up2 (up2 μ.1 51 5 (nI (k + 1))) 51 6 (nI fee)) 57 1 = _; rw [J0c (by decide)]; exact h1
        refine c_addRule (μ := (I, μ.2)) hn16 hL1 h57 v0 v1 (fun I2 b1 b2 hL2 => ⟨rfl, ?_⟩)
        have hk2 : CKt bt tn m k1 L I2 := hk1.fr (by rw [b1 51 (by decide) (by decide)]) (by rw [b1 51 (by decide) (by decide)]) (by rw [b1 51 (by decide) (by decide)]) (b1 52 (by decide) (by decide)) (b1 54 (by decide) (by decide)) (b1 55 (by decide) (by decide)) (b1 56 (by decide) (by decide)) (b2 0 (by decide)) (b1 58 (by decide) (by decide))
        have fx2 : CXr μ.1 I2 := (fx0.tr fr.x).tr ⟨fun d d1 d2 => b1 d (by omega) (by omega), by rw [b1 51 (by decide) (by decide)]⟩
        have hlen := hr.len
        refine c_130 (μ := (I2, μ.2)) o1 o4 hn hk2 ((b2 1 (by decide)).trans h57) (fun I3 a1 a2 a3 a4 a5 a6 a7 a8 => ?_)
        have fx3 : CXr μ.1 I3 := fx2.tr ⟨fun d d1 d2 => a1 d d1 (by omega) (by omega), a6⟩
        have hbd : Rbd (kT bt tn) (kV bt tn) L (kT bt tn k - 1) (k + 1) 0 k1 v [] := ⟨by omega, Or.inr (Or.inr ⟨by omega, hr, rfl⟩)⟩
        by_cases g9 : kT bt tn k1 = 59
        · refine K 0 (k1 + 1) v [] I3 (Or.inr (Or.inr (Or.inr (Or.inr (Or.inr ⟨ho, hn16, k1, rfl, hbd, g9, rfl⟩))))) fx3 (fun _ => ⟨by rw [List.append_nil]; exact a7 g9, ?_, a5, by omega, by rw [List.append_nil]; omega⟩) (fun e => absurd rfl e)
          refine hL2.fr (a2 2 (by decide) (by decide)) (fun c c1 c2 => ?_)
          by_cases e60 : c = 60
          · rw [e60]; funext b; exact a3 b (fun q => absurd q (by omega))
          · exact a1 c (by omega) (by omega) e60
        · exact K 1 k1 v [] I3 (Or.inr (Or.inr (Or.inr (Or.inr (Or.inl ⟨ho, hn16, hbd, g9, rfl⟩))))) fx3 (fun e => absurd e (by decide)) (fun _ => a8 g9)
      · exact c_130F (μ := (I, μ.2)) o1 o4 hF (fun I3 fr3 hF3 => K f k1 v [] I3 (Or.inr (Or.inr (Or.inr (Or.inl ⟨ho, hn16, ⟨by omega, Or.inr (Or.inr ⟨by omega, hr, rfl⟩)⟩, hf⟩)))) ((fx0.tr fr.x).tr fr3) (fun e => absurd e hf) (fun _ => hF3))
    · have g3 : kT bt tn k - 1 < 3 := by
        have : ¬ 3 ≤ kT bt tn k - 1 := fun q => g (ge3.mpr q)
        omega
      have e57 : (up2 (up2 μ.1 51 5 (nI (k + 1))) 51 6 (nI fee)) 57 0 = nI L.length := by rw [J0c (by decide)]; exact hK.2.2.2.2.2.1
      rw [nI_clamp (by omega)]
      refine ⟨vp_in_nI g3 (by decide), rfl, ?_⟩
      rw [show ((up2 (up2 μ.1 51 5 (nI (k + 1))) 51 6 (nI fee), μ.2) : Me).1 57 0 = nI L.length from e57]
      have j1 : ∀ c, c ≠ 59 → (up2 (up2 (up2 μ.1 51 5 (nI (k + 1))) 51 6 (nI fee)) 59 (kT bt tn k - 1) (nI L.length)) c = (up2 (up2 μ.1 51 5 (nI (k + 1))) 51 6 (nI fee)) c := fun c hc => up2_ne hc
      have j2 : ∀ b, b ≠ kT bt tn k - 1 → (up2 (up2 (up2 μ.1 51 5 (nI (k + 1))) 51 6 (nI fee)) 59 (kT bt tn k - 1) (nI L.length)) 59 b = μ.1 59 b := fun b hb => by rw [up2_b hb, J0c (by decide)]
      have j3 : (up2 (up2 (up2 μ.1 51 5 (nI (k + 1))) 51 6 (nI fee)) 59 (kT bt tn k - 1) (nI L.length)) 59 (kT bt tn k - 1) = nI L.length := up2_c
      have j6 : (up2 (up2 (up2 μ.1 51 5 (nI (k + 1))) 51 6 (nI fee)) 59 (kT bt tn k - 1) (nI L.length)) 51 6 = nI fee := by rw [up2_a (by decide), up2_c]
      generalize (up2 (up2 (up2 μ.1 51 5 (nI (k + 1))) 51 6 (nI fee)) 59 (kT bt tn k - 1) (nI L.length)) = J1 at *
      have hJ1 : CKt bt tn m (k + 1) L J1 := (hJ0 (fee := fee)).fr (by rw [j1 51 (by decide)]) (by rw [j1 51 (by decide)]) (by rw [j1 51 (by decide)]) (j1 52 (by decide)) (j1 54 (by decide)) (j1 55 (by decide)) (j1 56 (by decide)) (by rw [j1 57 (by decide)]) (j1 58 (by decide))
      refine ⟨fun q => absurd (e4.mp q) (by omega), fun _ => ⟨fun q => ?_, fun q => ?_⟩⟩
      · have f0 : fee = 0 := by
          have q : J1 51 6 = 0 := q
          rw [j6] at q
          exact nI_inj (b := 0) q (by omega) (by decide)
        subst f0
        have t12 : kT bt tn k ≠ 1 := fun e => absurd (hfe.mpr e) (by decide)
        exact c_eith (fee := 0) (μ := (J1, μ.2)) (by decide) hJ1 (by omega) j6 (fun f k1 c I hr fr hok hno => aft 0 J1 ho hn16 (by omega) j1 j2 j3 f k1 c I (fun v v0 v1 v2 => ⟨v0, Or.inr (Or.inl ⟨by omega, hr, v1, v2⟩)⟩) fr hok hno)
      · have f1 : fee = 1 := by
          have q : ¬ J1 51 6 = 0 := q
          rw [j6] at q
          have : fee ≠ 0 := fun e => q (by rw [e]; rfl)
          omega
        subst f1
        have t1 := hfe.mp rfl
        exact c_sum0 (N := N) (bt := bt) (tn := tn) (m := m) (fee := 1) (d := 0) (l := 40) (by decide) (by decide) (by decide) (J1, μ.2) _ (k + 1) L hJ1 (by omega) j6 (fun f k1 c I hr fr hok hno => aft 1 J1 ho hn16 (by omega) j1 j2 j3 f k1 c I (fun v v0 v1 v2 => ⟨v0, Or.inl ⟨by omega, hr, v1, v2⟩⟩) fr hok hno)
  refine tX6_clause_0 (c_sort hK ?_)
  have lt1 : (nI (kT bt tn k) < 1) ↔ kT bt tn k < 1 := by rw [show (1 : Int32) = nI 1 from rfl, nI_ltI (by omega) (by omega)]
  have le4 : (nI (kT bt tn k) ≤ 4) ↔ kT bt tn k ≤ 4 := by rw [show (4 : Int32) = nI 4 from rfl, nI_leI (by omega) (by omega)]
  have eq1 : (nI (kT bt tn k) = 1) ↔ kT bt tn k = 1 := by rw [show (1 : Int32) = nI 1 from rfl, nI_eq (by omega) (by omega)]
  refine ⟨fun g => e15 (fun q => by have := lt1.mp g; omega), fun g1 => ⟨fun g4 => ?_, fun g4 => e15 (fun q => g4 (le4.mpr q.2))⟩⟩
  have t1 : 1 ≤ kT bt tn k := by
    have : ¬ kT bt tn k < 1 := fun q => g1 (lt1.mpr q)
    omega
  have t4 := le4.mp g4
  rw [show (nI (kT bt tn k) - 1 : Int32) = nI (kT bt tn k - 1) from n1_eq t1]
  refine c_has57 (s := kT bt tn k - 1) (by omega) hL (fun s3 hdup => ⟨fun e => absurd e (by decide), fun _ => ?_⟩) (fun hnd => ⟨fun _ => ?_, fun e => absurd rfl e⟩)
  · exact c_fail (f := 4) hK (by decide) (by decide) (fun I fr hF => ⟨rfl, K 4 k (fun _ => 0) [] I (Or.inr (Or.inl ⟨t1, by omega, hdup, rfl, rfl⟩)) fr.x (fun e => absurd e (by decide)) (fun _ => hF)⟩)
  · have ho : okh (kT bt tn) n F k := ⟨t1, t4, fun q i hi => hnd (by omega) i hi⟩
    have lt16 : (μ.1 57 1 < 16) ↔ n < 16 := by rw [h1, show (16 : Int32) = nI 16 from rfl, nI_ltI (by omega) (by omega)]
    rw [h5, show (nI k + 1 : Int32) = nI (k + 1) from nI_add k 1]
    refine ⟨fun g16 => ⟨fun q => ?_, fun q => ?_⟩, fun g16 => ?_⟩
    · exact e86 1 (by decide) ⟨fun _ => eq1.mp q, fun _ => rfl⟩ ho (lt16.mp g16)
    · exact e86 0 (by decide) ⟨fun e => absurd e (by decide), fun e => absurd (eq1.mpr e) q⟩ ho (lt16.mp g16)
    · exact c_fail (f := 6) hK (by decide) (by decide) (fun I fr hF => ⟨rfl, K 6 k (fun _ => 0) [] I (Or.inr (Or.inr (Or.inl ⟨ho, by have : ¬ n < 16 := fun q => g16 (lt16.mpr q); omega, rfl, rfl⟩))) fr.x (fun e => absurd e (by decide)) (fun _ => hF)⟩)
end
end CC1
