/-! contracts: the smallest members of the reference -/
section C1
variable {N : Nat} {μ : Me} {Ψ : Int32 → Me → Prop} {v a b : Int32}
theorem i32_nlt {x y : Int32} : ¬ x < y ↔ y ≤ x := Int32.not_lt
theorem c_isIn (h1 : a ≤ v → v ≤ b → Ψ 1 μ) (h0 : ¬ (a ≤ v ∧ v ≤ b) → Ψ 0 μ) : VI N 1 mX12_isIn [.int v, .int a, .int b] μ Ψ := by
  refine tX12_isIn_0 ⟨fun g1 => ⟨_, rfl, h0 (fun h => absurd g1 (i32_nlt.mpr h.1))⟩, fun g1 => ⟨fun g2 => ⟨_, rfl, h0 (fun h => absurd g2 (i32_nlt.mpr h.2))⟩, fun g2 => ⟨_, rfl, h1 (i32_nlt.mp g1) (i32_nlt.mp g2)⟩⟩⟩
theorem c_has (h1 : ((v >>> (a &&& 31)) &&& 1) = 1 → Ψ 1 μ) (h0 : ¬ ((v >>> (a &&& 31)) &&& 1) = 1 → Ψ 0 μ) : VI N 1 mX12_has [.int v, .int a] μ Ψ :=
  tX12_has_0 ⟨fun g => ⟨_, rfl, h1 g⟩, fun g => ⟨_, rfl, h0 g⟩⟩
theorem c_hour (h1 : 0 ≤ v → v ≤ 23 → Ψ 1 ((up2 μ.1 131 2 v), μ.2)) (h0 : ¬ (0 ≤ v ∧ v ≤ 23) → Ψ 0 μ) : VI N 2 mX12_hour [.ref 130, .int v] μ Ψ :=
  tX12_hour_0 (c_isIn (fun g1 g2 => ⟨fun h => absurd h (by decide), fun _ => ⟨_, rfl, h1 g1 g2⟩⟩) (fun g => ⟨fun _ => ⟨_, rfl, h0 g⟩, fun h => absurd rfl h⟩))
theorem c_fault : (v = 0 → Ψ (μ.1 130 5) μ) → (v = 1 → Ψ (μ.1 130 6) μ) → (¬ v = 0 → ¬ v = 1 → Ψ (-1) μ) → VI N 1 mX12_fault [.ref 130, .int v] μ Ψ :=
  fun h0 h1 h2 => tX12_fault_0 ⟨fun g => ⟨_, rfl, h0 g⟩, fun g => ⟨fun g1 => ⟨_, rfl, h1 g1⟩, fun g1 => ⟨_, rfl, h2 g g1⟩⟩⟩
theorem c_by (h1 : -1 ≤ v → v ≤ μ.1 131 3 - 1 → Ψ 1 ((up2 μ.1 131 4 v), μ.2)) (h0 : ¬ (-1 ≤ v ∧ v ≤ μ.1 131 3 - 1) → Ψ 0 μ) : VI N 2 mX12_by [.ref 130, .int v] μ Ψ :=
  tX12_by_0 (c_isIn (fun g1 g2 => ⟨fun h => absurd h (by decide), fun _ => ⟨_, rfl, h1 g1 g2⟩⟩) (fun g => ⟨fun _ => ⟨_, rfl, h0 g⟩, fun h => absurd rfl h⟩))
theorem c_isWitness (h1 : 0 ≤ v → v ≤ μ.1 131 0 - 1 → Ψ 1 μ) (h0 : ¬ (0 ≤ v ∧ v ≤ μ.1 131 0 - 1) → Ψ 0 μ) : VI N 2 mX12_isWitness [.ref 130, .int v] μ Ψ :=
  tX12_isWitness_0 (c_isIn (fun g1 g2 => ⟨Or.inr rfl, _, rfl, h1 g1 g2⟩) (fun g => ⟨Or.inl rfl, _, rfl, h0 g⟩))
theorem c_isVerdict (h1 : 0 ≤ v → v ≤ μ.1 131 1 - 1 → Ψ 1 μ) (h0 : ¬ (0 ≤ v ∧ v ≤ μ.1 131 1 - 1) → Ψ 0 μ) : VI N 2 mX12_isVerdict [.ref 130, .int v] μ Ψ :=
  tX12_isVerdict_0 (c_isIn (fun g1 g2 => ⟨Or.inr rfl, _, rfl, h1 g1 g2⟩) (fun g => ⟨Or.inl rfl, _, rfl, h0 g⟩))
theorem c_image (h : Ψ (μ.1 131 0) (cpI μ.1, μ.2)) : VI N 2 mX12_image [.ref 130] μ Ψ :=
  tX12_image_0 (copy_go (Or.inl rfl) (Or.inr rfl) (by decide) ⟨rfl, _, rfl, h⟩)
end C1
