theorem agr_sh {σ σ1 σ' : St} {f f' : Nat → Nat} (h : σ1.1 = σ.1) (ha : agr σ1 σ' f f') : agr σ σ' f f' := by
  unfold agr at *
  rw [h] at ha
  exact ha
set_option maxHeartbeats 2000000 in
theorem stp_ok {R : Room} {M : Mth} {k n pc pc' : Nat} {ls st ls' st' : List Value} {σ σ' : St} {Q : Option Value → St → Prop} {o : List Prop} (h : stp M pc ls st σ = some (o, pc', ls', st', σ')) (ho : allP o) (hV : V R M k n pc' ls' st' σ' Q) : V R M k n pc ls st σ Q := by
  intro p l e s m args below meth c D ca f n0 Qf C HF H locs lsC hR hS hL
  have C' := C
  obtain ⟨hx, hb, hml, hrt, hown, hts, hlk, hin, hT, hB⟩ := C'
  unfold stp at h
  split at h
  · cases h
  · rename_i ins nx tg hl
    obtain ⟨hd, hn, htg⟩ := tab_ok hT hl
    split at h
    · rename_i q hq
      cases h
      exact psk_ok hx hb hown hts hd hn hq ho (hV p l e s m args below meth c D ca f n0 Qf C HF H locs lsC hR hS hL)
    · split at h
      · rename_i q hq2
        cases h
        exact lop_ok hx hb hd hn htg hL hq2 ho (fun es lsC' hL' => by subst es; exact hV p l e s m args below meth c D ca f n0 Qf C HF H locs lsC' hR hS hL')
      · refine hop_ok hx hb hown hts hd hn hB hR hS h ho (fun H' locs' hR' hS' hsh hls => ?_)
        rw [hls] at hV
        exact hV p l e s m args below meth c D ca f n0 Qf C (fun f' σ'' r H'' locs'' k' n' pc'' ls'' ins' ha => HF f' σ'' r H'' locs'' k' n' pc'' ls'' ins' (agr_sh hsh ha)) H' locs' lsC hR' hS' hL
theorem v_blk (N : Nat) {R : Room} {M : Mth} {k n pc pc' : Nat} {ls st ls' st' : List Value} {σ σ' : St} {Q : Option Value → St → Prop} {o : List Prop} (h : stps M N pc ls st σ = some (o, pc', ls', st', σ')) (ho : allP o) (hV : V R M k n pc' ls' st' σ' Q) : V R M k n pc ls st σ Q := by
  induction N generalizing pc ls st σ o with
  | zero =>
    unfold stps at h
    cases h
    exact hV
  | succ N ih =>
    unfold stps at h
    split at h
    · cases h
    · rename_i q hq
      split at h
      · cases h
      · rename_i w hw
        have h' := Option.some.inj h
        have e1 : q.1 ++ w.1 = o := congrArg Prod.fst h'
        have e2 : w.2 = (pc', ls', st', σ') := congrArg Prod.snd h'
        obtain ⟨w1, w2⟩ := w
        obtain ⟨q1, q2, q3, q4, q5⟩ := q
        dsimp only at e1 e2 hw
        subst e1
        subst e2
        obtain ⟨h1, h2⟩ := allP_app ho
        exact stp_ok hq h1 (ih hw h2)
theorem v_ret {R : Room} {M : Mth} {k n pc nx tg : Nat} {ls : List Value} {σ : St} {Q : Option Value → St → Prop} {ins : Instr} (r : Option Value) (hl : lk2 (mtab M) pc = some (ins, nx, tg)) (hln : lnI ins = 1) (hr : rok (mret M) r ins) (hk : k ≤ R.cells) (hn : n ≤ R.slots) (hq : Q r σ) : V R M k n pc ls r.toList σ Q := by
  intro p l e s m args below meth c D ca f n0 Qf C HF H locs lsC hR hS hL
  obtain ⟨hd, hn', -⟩ := tab_ok C.2.2.2.2.2.2.2.2.1 hl
  rw [hln] at hn'
  exact HF f σ r H locs k n pc lsC ins (agr.rf rfl) hq hr (dec_of hd (hn'.resolve_left (by simp [lnI]))) hR hS hk hn
theorem v_iret {R : Room} {M : Mth} {k n pc nx tg : Nat} {ls : List Value} {σ : St} {Q : Option Value → St → Prop} {v : Int32} (hl : lk2 (mtab M) pc = some (.ireturn, nx, tg)) (hr : rok (mret M) (some (.int v)) .ireturn) (hk : k ≤ R.cells) (hn : n ≤ R.slots) (hq : Q (some (.int v)) σ) : V R M k n pc ls [.int v] σ Q := v_ret (some (.int v)) hl rfl hr hk hn hq
theorem v_lret {R : Room} {M : Mth} {k n pc nx tg : Nat} {ls : List Value} {σ : St} {Q : Option Value → St → Prop} {v : Int64} (hl : lk2 (mtab M) pc = some (.lreturn, nx, tg)) (hr : rok (mret M) (some (.long v)) .lreturn) (hk : k ≤ R.cells) (hn : n ≤ R.slots) (hq : Q (some (.long v)) σ) : V R M k n pc ls [.long v] σ Q := v_ret (some (.long v)) hl rfl hr hk hn hq
theorem v_aret {R : Room} {M : Mth} {k n pc nx tg : Nat} {ls : List Value} {σ : St} {Q : Option Value → St → Prop} {v : Nat} (hl : lk2 (mtab M) pc = some (.areturn, nx, tg)) (hr : rok (mret M) (some (.ref v)) .areturn) (hk : k ≤ R.cells) (hn : n ≤ R.slots) (hq : Q (some (.ref v)) σ) : V R M k n pc ls [.ref v] σ Q := v_ret (some (.ref v)) hl rfl hr hk hn hq
theorem v_vret {R : Room} {M : Mth} {k n pc nx tg : Nat} {ls : List Value} {σ : St} {Q : Option Value → St → Prop} (hl : lk2 (mtab M) pc = some (.return_, nx, tg)) (hr : rok (mret M) none .return_) (hk : k ≤ R.cells) (hn : n ≤ R.slots) (hq : Q none σ) : V R M k n pc ls [] σ Q := v_ret none hl rfl hr hk hn hq
theorem v_ite {R : Room} {M : Mth} {k n a b : Nat} {ls st : List Value} {σ : St} {Q : Option Value → St → Prop} {c : Prop} {dc : Decidable c} (h1 : c → V R M k n a ls st σ Q) (h2 : ¬ c → V R M k n b ls st σ Q) : V R M k n (@ite Nat c dc a b) ls st σ Q := by
  by_cases hc : c
  · rw [if_pos hc]; exact h1 hc
  · rw [if_neg hc]; exact h2 hc
theorem V.post {R : Room} {M : Mth} {k n pc : Nat} {ls st : List Value} {σ : St} {Q Q' : Option Value → St → Prop} (h : V R M k n pc ls st σ Q') (hQ : ∀ r σ', Q' r σ' → Q r σ') : V R M k n pc ls st σ Q :=
  fun p l e s m args below meth c D ca f n0 Qf C HF H locs lsC hR hS hL => h p l e s m args below meth c D ca f n0 Qf C (fun f' σ' r H' locs' k' n' pc' ls' ins ha hq => HF f' σ' r H' locs' k' n' pc' ls' ins ha (hQ _ _ hq)) H locs lsC hR hS hL
