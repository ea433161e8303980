/-! the law's own body, behind its start -/
def VL (N : Nat) (pc : Nat) (ls st : List Value) (μ : Me) (Ψ : Option Value → Me → Prop) : Prop := V room_1 mL_law 146 10608 pc ls st (SH N, μ) (fun r σ' => ∃ μ', σ' = (SH N, μ') ∧ Ψ r μ')
section VLRows
variable {N d' pc nx tg idx na : Nat} {M' : Mth} {ls ls' lsa st st' As rest : List Value} {μ μ' : Me} {Ψ : Option Value → Me → Prop} {o : List Prop}
theorem vl_blk (n : Nat) {pc' : Nat} (h : stps mL_law n pc ls st (SH N, μ) = some (o, pc', ls', st', (SH N, μ'))) (ho : allP o) (hV : VL N pc' ls' st' μ' Ψ) : VL N pc ls st μ Ψ := v_blk n h ho hV
theorem vl_wk (hw : wk ls' ls) (hV : VL N pc ls' st μ Ψ) : VL N pc ls st μ Ψ := v_wk hw hV
theorem vl_ite {c : Prop} {dc : Decidable c} {a b : Nat} (h1 : c → VL N a ls st μ Ψ) (h2 : ¬ c → VL N b ls st μ Ψ) : VL N (@ite Nat c dc a b) ls st μ Ψ := v_ite h1 h2
theorem vl_iret {v : Int32} (hl : lk2 (mtab mL_law) pc = some (.ireturn, nx, tg)) (hr : rok (mret mL_law) (some (.int v)) .ireturn) (hq : Ψ (some (.int v)) μ) : VL N pc ls [.int v] μ Ψ := v_iret hl hr (Nat.le_of_ble_eq_true rfl) (Nat.le_of_ble_eq_true rfl) ⟨μ, rfl, hq⟩
theorem callRl (h : d' ≤ 100) (hm : mml M' ≤ 41) : callR room_1 (rmD d') M' 146 10608 := by
  refine ⟨?_, ?_, Nat.le_of_ble_eq_true rfl, Nat.le_of_ble_eq_true rfl⟩
  · show d' + 1 ≤ 2048
    omega
  · show 8 + (mml M' + 11) + 60 * d' ≤ 84000
    omega
theorem vl_virt {j ci : Nat} {rs : List (Option Nat)} (hl : lk2 (mtab mL_law) pc = some (.invokevirtual idx, nx, tg)) (hm : mlk 13 idx = some (M', 1, na)) (hst : st = As.reverse ++ .ref (j + 2) :: rest) (hlen : As.length = na) (hsh : (SH N)[j + 2]? = some (.inl (ci, rs))) (hci : cnm ci = (my M').cls) (hcl : ci < 13) (hdd : d' ≤ 100) (hmm : mml M' ≤ 41) (hcat : catS rest ≤ 8) (he : ent (.ref (j + 2) :: As) = lsa) (hln : lsa.length ≤ mml M')
    (hw : wk ls' ls) (hV : VB N d' M' 0 lsa [] μ (fun r μ' => VL N nx ls' (r.toList ++ rest) μ' Ψ)) : VL N pc ls st μ Ψ := by
  subst he
  exact v_virt (R' := rmD d') hl hm hst hlen hsh hci hcl (callRl hdd hmm) hcat hln (V.post hV (fun r σ' h => by
    obtain ⟨μ', rfl, h⟩ := h
    exact ⟨Or.inl rfl, v_wk hw h⟩))
theorem vl_tsw {d0 lo hi : Int} {offs : Array Int} {x : Int32} (hl : lk2 (mtab mL_law) pc = some (.tableswitch d0 lo hi offs, nx, tg)) (h1 : 0 ≤ (pc : Int) + d0 ∧ ∀ i, i < offs.size → 0 ≤ (pc : Int) + offs.getD i d0) (h2 : (hi - lo).toNat + 1 = offs.size) (hw : wk ls' ls)
    (ho : x.toInt < lo ∨ hi < x.toInt → VL N ((pc : Int) + d0).toNat ls' rest μ Ψ) (hV : ∀ i, i < offs.size → x.toInt = lo + i → VL N ((pc : Int) + offs.getD i d0).toNat ls' rest μ Ψ) : VL N pc ls (.int x :: rest) μ Ψ := by
  have key : ∀ (pc' : Nat), ((pc : Int) + tsw d0 lo hi offs x.toInt).toNat = pc' → 0 ≤ (pc : Int) + tsw d0 lo hi offs x.toInt → ((x.toInt < lo ∨ hi < x.toInt) ∨ (x.toInt - lo).toNat < offs.size) → VL N pc' ls' rest μ Ψ → VL N pc ls (.int x :: rest) μ Ψ := by
    intro pc' e g1 g2 hv
    refine stp_ok (o := [0 ≤ (pc : Int) + tsw d0 lo hi offs x.toInt, (x.toInt < lo ∨ hi < x.toInt) ∨ (x.toInt - lo).toNat < offs.size]) (pc' := pc') (ls' := ls) (st' := rest) (σ' := (SH N, μ)) ?_ ⟨g1, g2⟩ (v_wk hw hv)
    unfold stp
    rw [hl]
    subst e
    rfl
  by_cases hc : x.toInt < lo ∨ hi < x.toInt
  · have e1 : tsw d0 lo hi offs x.toInt = d0 := by unfold tsw; rw [if_pos hc]
    exact key _ rfl (by rw [e1]; exact h1.1) (Or.inl hc) (by rw [e1]; exact ho hc)
  · have e1 : tsw d0 lo hi offs x.toInt = offs.getD (x.toInt - lo).toNat d0 := by unfold tsw; rw [if_neg hc]
    have hlt : (x.toInt - lo).toNat < offs.size := by omega
    exact key _ rfl (by rw [e1]; exact h1.2 _ hlt) (Or.inr hlt) (by rw [e1]; exact hV _ hlt (by omega))
end VLRows
