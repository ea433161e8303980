/-! single steps of reckoning on both sides -/
section ES
variable {N : Nat} {μ : Me} {a b : Int64}
theorem lz : (0 : Int64).toInt = 0 := by decide
theorem lo : (1 : Int64).toInt = 1 := by decide
theorem clp0 : clp 0 = 0 := by decide
theorem clp1 : clp 1 = 1 := by decide
theorem and01 {a b : Int64} (ha : a.toInt = 0 ∨ a.toInt = 1) (hb : b.toInt = 0 ∨ b.toInt = 1) : clp (a &&& b).toInt = b2 (decide (a.toInt ≠ 0 ∧ b.toInt ≠ 0)) ∧ clp (a ||| b).toInt = b2 (decide (a.toInt ≠ 0 ∨ b.toInt ≠ 0)) := by
  have ea : a = 0 ∨ a = 1 := by
    rcases ha with h | h
    · exact Or.inl (l_eq.mpr (h.trans lz.symm))
    · exact Or.inr (l_eq.mpr (h.trans lo.symm))
  have eb : b = 0 ∨ b = 1 := by
    rcases hb with h | h
    · exact Or.inl (l_eq.mpr (h.trans lz.symm))
    · exact Or.inr (l_eq.mpr (h.trans lo.symm))
  rcases ea with rfl | rfl <;> rcases eb with rfl | rfl <;> decide
theorem c_reck {o : Nat} {Ψ : Int64 → Me → Prop} (ho : (o = 3 ∨ o = 4 ∨ o = 5 ∨ o = 6) ∨ (o = 10 ∨ o = 11 ∨ o = 12 ∨ o = 13 ∨ o = 14 ∨ o = 15) ∨ ((o = 21 ∨ o = 22) ∧ (a.toInt = 0 ∨ a.toInt = 1) ∧ (b.toInt = 0 ∨ b.toInt = 1))) (ha : smI a.toInt) (hb : smI b.toInt) (h : ∀ v : Int64, clp v.toInt = bnO o a.toInt b.toInt → Ψ v μ) : VJ N 1 mX5_reckoned [.int (nI (sgn o)), .long a, .null, .long b, .null] μ Ψ := by
  refine vb_wk (ls' := [.int (nI (sgn o)), .long a, .null, .long b]) ⟨rfl, rfl, rfl, trivial⟩ ?_
  have fin : ∀ v : Int64, clp v.toInt = bnO o a.toInt b.toInt → ∃ w, some (Value.long v) = some (Value.long w) ∧ Ψ w μ := fun v hv => ⟨v, rfl, h v hv⟩
  rcases ho with (rfl | rfl | rfl | rfl) | (rfl | rfl | rfl | rfl | rfl | rfl) | ⟨(rfl | rfl), h1, h2⟩
  · refine tX5_reckoned_0 ?_
    repeat refine ⟨fun e => absurd e (by decide), fun _ => ?_⟩
    refine ⟨fun _ => fin _ ?_, fun e => absurd (by decide) e⟩
    rw [ad_L ha hb]; simp [bnO, bnN]
  · refine tX5_reckoned_0 ?_
    repeat refine ⟨fun e => absurd e (by decide), fun _ => ?_⟩
    refine ⟨fun _ => fin _ ?_, fun e => absurd (by decide) e⟩
    rw [su_L ha hb]; simp [bnO, bnN]
  · refine tX5_reckoned_0 ?_
    repeat refine ⟨fun e => absurd e (by decide), fun _ => ?_⟩
    refine ⟨fun _ => fin _ ?_, fun e => absurd (by decide) e⟩
    rw [mu_L ha hb]; simp [bnO, bnN]
  · refine tX5_reckoned_0 ?_
    repeat refine ⟨fun e => absurd e (by decide), fun _ => ?_⟩
    refine ⟨fun _ => ⟨fun g => fin _ ?_, fun g => ⟨?_, fin _ ?_⟩⟩, fun e => absurd (by decide) e⟩
    · rw [lg_cmp_eq] at g
      rw [g, lz]; simp [bnO, bnN, clp0]
    · rwa [lg_cmp_eq] at g
    · rw [lg_cmp_eq, l_eq, lz] at g
      rw [di_L ha]; simp [bnO, bnN, g]
  · refine tX5_reckoned_0 ?_
    repeat refine ⟨fun e => absurd e (by decide), fun _ => ?_⟩
    refine ⟨fun _ => ⟨fun g => fin _ ?_, fun g => fin _ ?_⟩, fun e => absurd (by decide) e⟩
    · rw [lg_cmp_ge, l_le] at g
      rw [lz, clp0]; simp [bnO, bnC, b2]; omega
    · rw [lg_cmp_ge, l_le] at g
      rw [lo, clp1]; simp [bnO, bnC, b2]; omega
  · refine tX5_reckoned_0 ?_
    repeat refine ⟨fun e => absurd e (by decide), fun _ => ?_⟩
    refine ⟨fun _ => ⟨fun g => fin _ ?_, fun g => fin _ ?_⟩, fun e => absurd (by decide) e⟩
    · rw [lg_cmp_gt, l_lt] at g
      rw [lz, clp0]; simp [bnO, bnC, b2]; omega
    · rw [lg_cmp_gt, l_lt] at g
      rw [lo, clp1]; simp [bnO, bnC, b2]; omega
  · refine tX5_reckoned_0 ?_
    repeat refine ⟨fun e => absurd e (by decide), fun _ => ?_⟩
    refine ⟨fun _ => ⟨fun g => fin _ ?_, fun g => fin _ ?_⟩, fun e => absurd (by decide) e⟩
    · rw [lg_cmp_le, l_le] at g
      rw [lz, clp0]; simp [bnO, bnC, b2]; omega
    · rw [lg_cmp_le, l_le] at g
      rw [lo, clp1]; simp [bnO, bnC, b2]; omega
  · refine tX5_reckoned_0 ?_
    repeat refine ⟨fun e => absurd e (by decide), fun _ => ?_⟩
    refine ⟨fun g => fin _ ?_, fun g => fin _ ?_⟩
    · rw [lg_cmp_lt, l_lt] at g
      rw [lz, clp0]; simp [bnO, bnC, b2]; omega
    · rw [lg_cmp_lt, l_lt] at g
      rw [lo, clp1]; simp [bnO, bnC, b2]; omega
  · refine tX5_reckoned_0 ?_
    repeat refine ⟨fun e => absurd e (by decide), fun _ => ?_⟩
    refine ⟨fun _ => ⟨fun g => fin _ ?_, fun g => fin _ ?_⟩, fun e => absurd (by decide) e⟩
    · rw [lg_cmp_eq, l_eq] at g
      rw [lo, clp1]; simp [bnO, bnC, b2]; omega
    · rw [lg_cmp_eq, l_eq] at g
      rw [lz, clp0]; simp [bnO, bnC, b2]; omega
  · refine tX5_reckoned_0 ?_
    repeat refine ⟨fun e => absurd e (by decide), fun _ => ?_⟩
    refine ⟨fun _ => ⟨fun g => fin _ ?_, fun g => fin _ ?_⟩, fun e => absurd (by decide) e⟩
    · rw [lg_cmp_eq, l_eq] at g
      rw [lz, clp0]; simp [bnO, bnC, b2]; omega
    · rw [lg_cmp_eq, l_eq] at g
      rw [lo, clp1]; simp [bnO, bnC, b2]; omega
  · refine tX5_reckoned_0 ?_
    repeat refine ⟨fun e => absurd e (by decide), fun _ => ?_⟩
    refine ⟨fun _ => fin _ ?_, fun e => absurd (by decide) e⟩
    rw [(and01 h1 h2).1]; simp [bnO]
  · refine tX5_reckoned_0 ?_
    refine ⟨fun _ => fin _ ?_, fun e => absurd (by decide) e⟩
    rw [(and01 h1 h2).2]; simp [bnO]
theorem r_two {o : Nat} {Ψ : Int64 → Me → Prop} (ho : o = 3 ∨ o = 4 ∨ o = 5 ∨ o = 6) (ha : smI a.toInt) (hb : smI b.toInt) (h : ∀ v : Int64, v.toInt = bnN o a.toInt b.toInt → Ψ v μ) : VJ N 2 mX12_two [.int (nI o), .long a, .null, .long b, .null] μ Ψ := by
  refine vb_wk (ls' := [.int (nI o), .long a, .null, .long b]) ⟨rfl, rfl, rfl, trivial⟩ ?_
  rcases ho with rfl | rfl | rfl | rfl
  · refine tX12_two_0 ⟨fun _ => c_clip (fun y hy => ⟨_, rfl, h y ?_⟩), fun e => absurd e (by decide), fun e => absurd e (by decide), fun e => absurd e (by decide)⟩
    rw [hy, ad_L ha hb]; simp [bnN]
  · refine tX12_two_0 ⟨fun e => absurd e (by decide), fun _ => c_clip (fun y hy => ⟨_, rfl, h y ?_⟩), fun e => absurd e (by decide), fun e => absurd e (by decide)⟩
    rw [hy, su_L ha hb]; simp [bnN]
  · refine tX12_two_0 ⟨fun e => absurd e (by decide), fun e => absurd e (by decide), fun _ => c_clip (fun y hy => ⟨_, rfl, h y ?_⟩), fun e => absurd e (by decide)⟩
    rw [hy, mu_L ha hb]; simp [bnN]
  · refine tX12_two_0 ⟨fun e => absurd e (by decide), fun e => absurd e (by decide), fun e => absurd e (by decide), fun _ => ⟨fun g => ⟨_, rfl, h _ ?_⟩, fun g => ⟨?_, c_clip (fun y hy => ⟨_, rfl, h y ?_⟩)⟩⟩⟩
    · rw [lg_cmp_eq] at g
      rw [g, lz]; simp [bnN]
    · rwa [lg_cmp_eq] at g
    · rw [lg_cmp_eq, l_eq, lz] at g
      rw [hy, di_L ha]; simp [bnN, g]
def b32 (b : Bool) : Int32 := if b = true then 1 else 0
theorem r_asked {o : Nat} {Ψ : Int32 → Me → Prop} (ho : o = 10 ∨ o = 11 ∨ o = 12 ∨ o = 13 ∨ o = 14 ∨ o = 15) (h : Ψ (b32 (bnC o a.toInt b.toInt)) μ) : VI N 1 mX12_isAsked [.int (nI o), .long a, .null, .long b, .null] μ Ψ := by
  refine vb_wk (ls' := [.int (nI o), .long a, .null, .long b]) ⟨rfl, rfl, rfl, trivial⟩ ?_
  have fin : ∀ c : Bool, c = bnC o a.toInt b.toInt → ∀ v : Int32, v = b32 c → ∃ w, some (Value.int v) = some (Value.int w) ∧ Ψ w μ := fun c hc v hv => by subst hv; subst hc; exact ⟨_, rfl, h⟩
  rcases ho with rfl | rfl | rfl | rfl | rfl | rfl
  · refine tX12_isAsked_0 ⟨fun _ => ⟨fun g => fin false ?_ _ rfl, fun g => fin true ?_ _ rfl⟩, fun e => absurd rfl e⟩
    · rw [lg_cmp_ge, l_le] at g
      simp [bnC]; omega
    · rw [lg_cmp_ge, l_le] at g
      simp [bnC]; omega
  · refine tX12_isAsked_0 ⟨fun e => absurd e (by decide), fun _ => ⟨fun _ => ⟨fun g => fin false ?_ _ rfl, fun g => fin true ?_ _ rfl⟩, fun e => absurd rfl e⟩⟩
    · rw [lg_cmp_gt, l_lt] at g
      simp [bnC]; omega
    · rw [lg_cmp_gt, l_lt] at g
      simp [bnC]; omega
  · refine tX12_isAsked_0 ⟨fun e => absurd e (by decide), fun _ => ⟨fun e => absurd e (by decide), fun _ => ⟨fun _ => ⟨fun g => fin false ?_ _ rfl, fun g => fin true ?_ _ rfl⟩, fun e => absurd rfl e⟩⟩⟩
    · rw [lg_cmp_le, l_le] at g
      simp [bnC]; omega
    · rw [lg_cmp_le, l_le] at g
      simp [bnC]; omega
  · refine tX12_isAsked_0 ⟨fun e => absurd e (by decide), fun _ => ⟨fun e => absurd e (by decide), fun _ => ⟨fun e => absurd e (by decide), fun _ => ⟨fun _ => ⟨fun g => fin false ?_ _ rfl, fun g => fin true ?_ _ rfl⟩, fun e => absurd rfl e⟩⟩⟩⟩
    · rw [lg_cmp_lt, l_lt] at g
      simp [bnC]; omega
    · rw [lg_cmp_lt, l_lt] at g
      simp [bnC]; omega
  · refine tX12_isAsked_0 ⟨fun e => absurd e (by decide), fun _ => ⟨fun e => absurd e (by decide), fun _ => ⟨fun e => absurd e (by decide), fun _ => ⟨fun e => absurd e (by decide), fun _ => ⟨fun _ => ⟨fun g => fin true ?_ _ rfl, fun g => fin false ?_ _ rfl⟩, fun e => absurd rfl e⟩⟩⟩⟩⟩
    · rw [lg_cmp_eq, l_eq] at g
      simp [bnC]; omega
    · rw [lg_cmp_eq, l_eq] at g
      simp [bnC]; omega
  · refine tX12_isAsked_0 ⟨fun e => absurd e (by decide), fun _ => ⟨fun e => absurd e (by decide), fun _ => ⟨fun e => absurd e (by decide), fun _ => ⟨fun e => absurd e (by decide), fun _ => ⟨fun e => absurd e (by decide), fun _ => ⟨fun g => fin false ?_ _ rfl, fun g => fin true ?_ _ rfl⟩⟩⟩⟩⟩⟩
    · rw [lg_cmp_eq, l_eq] at g
      simp [bnC]; omega
    · rw [lg_cmp_eq, l_eq] at g
      simp [bnC]; omega
end ES
