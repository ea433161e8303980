section Sound
variable {p : Program} {l : Launch} {e : Env} {R : Room} {s : State} {m : MethodId} {args : Array Value} {below : List Frame} {meth : Method} {c : Code} {H : Heap} {locs : List Loc} {k n : Nat} {Qf : State → Prop} {cc : ByteArray} {pc nx tg : Nat} {lsC : Array Slot} {f : Nat → Nat}
set_option maxHeartbeats 4000000 in
theorem psk_ok {own : Nat} {ins : Instr} {st st' : List Value} {o : List Prop} (hx : p.tables.exec = Jvm.exec) (hb : c.code = cc) (hown : s.vm.findClass (cnm own) = some m.cls) (hts : ∀ w ∈ lw_g, w.before args s = true) (hd : decode cc pc = .ok (ins, nx - pc)) (hn : lnI ins = 0 ∨ nx = pc + lnI ins)
    (h : psk own ins st = some (o, st')) (ho : allP o) (kW : W p l e R s m args below meth c H locs k n Qf (F0 m nx lsC (st'.map (cvv f)))) : W p l e R s m args below meth c H locs k n Qf (F0 m pc lsC (st.map (cvv f))) := by
  unfold psk at h
  split at h
  · cases h; obtain rfl := hn.resolve_left (by simp [lnI]); exact lv_iconst hx hb (dec_of hd rfl) rfl kW
  · cases h; obtain rfl := hn.resolve_left (by simp [lnI]); exact lv_bipush hx hb (dec_of hd rfl) rfl kW
  · cases h; obtain rfl := hn.resolve_left (by simp [lnI]); exact lv_sipush hx hb (dec_of hd rfl) rfl kW
  · cases h; obtain rfl := hn.resolve_left (by simp [lnI]); exact lv_lconst hx hb (dec_of hd rfl) rfl kW
  · split at h
    · rename_i v hv; cases h; obtain rfl := hn.resolve_left (by simp [lnI])
      exact lv_ldc hx hb hown (hts _ (ki_all own _ (lk2_mem hv))) (dec_of hd rfl) kW
    · cases h
  · split at h
    · rename_i v hv; cases h; obtain rfl := hn.resolve_left (by simp [lnI])
      exact lv_ldcw hx hb hown (hts _ (ki_all own _ (lk2_mem hv))) (dec_of hd rfl) kW
    · cases h
  · split at h
    · rename_i v hv; cases h; obtain rfl := hn.resolve_left (by simp [lnI])
      exact lv_ldc2 hx hb hown (hts _ (kl_all own _ (lk2_mem hv))) (dec_of hd rfl) kW
    · cases h
  · split at h
    · cases h; obtain rfl := hn.resolve_left (by simp [lnI]); exact lv_iadd hx hb (dec_of hd rfl) kW
    · cases h
  · split at h
    · cases h; obtain rfl := hn.resolve_left (by simp [lnI]); exact lv_isub hx hb (dec_of hd rfl) kW
    · cases h
  · split at h
    · cases h; obtain rfl := hn.resolve_left (by simp [lnI]); exact lv_imul hx hb (dec_of hd rfl) kW
    · cases h
  · split at h
    · cases h; obtain rfl := hn.resolve_left (by simp [lnI]); exact lv_idiv hx hb (dec_of hd rfl) ho kW
    · cases h
  · split at h
    · cases h; obtain rfl := hn.resolve_left (by simp [lnI]); exact lv_irem hx hb (dec_of hd rfl) ho kW
    · cases h
  · split at h
    · cases h; obtain rfl := hn.resolve_left (by simp [lnI]); exact lv_iand hx hb (dec_of hd rfl) kW
    · cases h
  · split at h
    · cases h; obtain rfl := hn.resolve_left (by simp [lnI]); exact lv_ior hx hb (dec_of hd rfl) kW
    · cases h
  · split at h
    · cases h; obtain rfl := hn.resolve_left (by simp [lnI]); exact lv_ixor hx hb (dec_of hd rfl) kW
    · cases h
  · split at h
    · cases h; obtain rfl := hn.resolve_left (by simp [lnI]); exact lv_ishl hx hb (dec_of hd rfl) kW
    · cases h
  · split at h
    · cases h; obtain rfl := hn.resolve_left (by simp [lnI]); exact lv_ishr hx hb (dec_of hd rfl) kW
    · cases h
  · split at h
    · cases h; obtain rfl := hn.resolve_left (by simp [lnI]); exact lv_iushr hx hb (dec_of hd rfl) rfl kW
    · cases h
  · split at h
    · cases h; obtain rfl := hn.resolve_left (by simp [lnI]); exact lv_ineg hx hb (dec_of hd rfl) kW
    · cases h
  · split at h
    · cases h; obtain rfl := hn.resolve_left (by simp [lnI]); exact lv_i2l hx hb (dec_of hd rfl) rfl kW
    · cases h
  · split at h
    · cases h; obtain rfl := hn.resolve_left (by simp [lnI]); exact lv_l2i hx hb (dec_of hd rfl) rfl kW
    · cases h
  · split at h
    · cases h; obtain rfl := hn.resolve_left (by simp [lnI]); exact lv_ladd hx hb (dec_of hd rfl) kW
    · cases h
  · split at h
    · cases h; obtain rfl := hn.resolve_left (by simp [lnI]); exact lv_lsub hx hb (dec_of hd rfl) kW
    · cases h
  · split at h
    · cases h; obtain rfl := hn.resolve_left (by simp [lnI]); exact lv_lmul hx hb (dec_of hd rfl) kW
    · cases h
  · split at h
    · cases h; obtain rfl := hn.resolve_left (by simp [lnI]); exact lv_ldiv hx hb (dec_of hd rfl) ho kW
    · cases h
  · split at h
    · cases h; obtain rfl := hn.resolve_left (by simp [lnI]); exact lv_land hx hb (dec_of hd rfl) kW
    · cases h
  · split at h
    · cases h; obtain rfl := hn.resolve_left (by simp [lnI]); exact lv_lor hx hb (dec_of hd rfl) kW
    · cases h
  · split at h
    · cases h; obtain rfl := hn.resolve_left (by simp [lnI]); exact lv_lneg hx hb (dec_of hd rfl) kW
    · cases h
  · split at h
    · cases h; obtain rfl := hn.resolve_left (by simp [lnI]); exact lv_lshl hx hb (dec_of hd rfl) rfl kW
    · cases h
  · split at h
    · cases h; obtain rfl := hn.resolve_left (by simp [lnI]); exact W.lcmp hx hb (dec_of hd rfl) kW
    · cases h
  · split at h
    · cases h; obtain rfl := hn.resolve_left (by simp [lnI]); exact lv_dup hx hb (dec_of hd rfl) rfl kW
    · cases h; obtain rfl := hn.resolve_left (by simp [lnI]); exact lv_dup hx hb (dec_of hd rfl) rfl kW
    · cases h
  · split at h
    · cases h; obtain rfl := hn.resolve_left (by simp [lnI]); exact lv_dup2_11 hx hb (dec_of hd rfl) rfl rfl kW
    · cases h; obtain rfl := hn.resolve_left (by simp [lnI]); exact lv_dup2_11 hx hb (dec_of hd rfl) rfl rfl kW
    · cases h
  · cases h
theorem cnd_W {cd : Jvm.ClassFile.Cond} {x y : Int32} {off : Int} {rest : List Value} (hx : p.tables.exec = Jvm.exec) (hb : c.code = cc) (hd : decode cc pc = .ok (.if_icmp cd off, 3)) (ht : (pc : Int) + off = (tg : Int)) (kW : W p l e R s m args below meth c H locs k n Qf (F0 m (cnd cd x y (pc + 3) tg) lsC rest)) : W p l e R s m args below meth c H locs k n Qf (F0 m pc lsC (.int y :: .int x :: rest)) := by
  cases cd with
  | eq => exact lv_icmp_eq hx hb hd ht (fun h => by rw [cnd, if_pos h] at kW; exact kW) (fun h => by rw [cnd, if_neg h] at kW; exact kW)
  | ne => exact lv_icmp_ne hx hb hd ht (fun h => by rw [cnd, if_neg h] at kW; exact kW) (fun h => by rw [cnd, if_pos h] at kW; exact kW)
  | lt => exact lv_icmp_lt hx hb hd ht (fun h => by rw [cnd, if_pos h] at kW; exact kW) (fun h => by rw [cnd, if_neg h] at kW; exact kW)
  | ge => exact lv_icmp_ge hx hb hd ht (fun h => by rw [cnd, if_pos h] at kW; exact kW) (fun h => by rw [cnd, if_neg h] at kW; exact kW)
  | gt => exact lv_icmp_gt hx hb hd ht (fun h => by rw [cnd, if_pos h] at kW; exact kW) (fun h => by rw [cnd, if_neg h] at kW; exact kW)
  | le => exact lv_icmp_le hx hb hd ht (fun h => by rw [cnd, if_pos h] at kW; exact kW) (fun h => by rw [cnd, if_neg h] at kW; exact kW)
theorem cnd_W0 {cd : Jvm.ClassFile.Cond} {x : Int32} {off : Int} {rest : List Value} (hx : p.tables.exec = Jvm.exec) (hb : c.code = cc) (hd : decode cc pc = .ok (.ifCond cd off, 3)) (ht : (pc : Int) + off = (tg : Int)) (kW : W p l e R s m args below meth c H locs k n Qf (F0 m (cnd cd x 0 (pc + 3) tg) lsC rest)) : W p l e R s m args below meth c H locs k n Qf (F0 m pc lsC (.int x :: rest)) := by
  cases cd with
  | eq => exact lv_if_eq hx hb hd ht (fun h => by rw [cnd, if_pos h] at kW; exact kW) (fun h => by rw [cnd, if_neg h] at kW; exact kW)
  | ne => exact lv_if_ne hx hb hd ht (fun h => by rw [cnd, if_neg h] at kW; exact kW) (fun h => by rw [cnd, if_pos h] at kW; exact kW)
  | lt => exact lv_if_lt hx hb hd ht (fun h => by rw [cnd, if_pos h] at kW; exact kW) (fun h => by rw [cnd, if_neg h] at kW; exact kW)
  | ge => exact lv_if_ge hx hb hd ht (fun h => by rw [cnd, if_pos h] at kW; exact kW) (fun h => by rw [cnd, if_neg h] at kW; exact kW)
  | gt => exact lv_if_gt hx hb hd ht (fun h => by rw [cnd, if_pos h] at kW; exact kW) (fun h => by rw [cnd, if_neg h] at kW; exact kW)
  | le => exact lv_if_le hx hb hd ht (fun h => by rw [cnd, if_pos h] at kW; exact kW) (fun h => by rw [cnd, if_neg h] at kW; exact kW)
set_option maxHeartbeats 4000000 in
theorem lop_ok {ins : Instr} {nL pc' : Nat} {ls st ls' st' : List Value} {σ σ' : St} {o : List Prop} (hx : p.tables.exec = Jvm.exec) (hb : c.code = cc) (hd : decode cc pc = .ok (ins, nx - pc)) (hn : lnI ins = 0 ∨ nx = pc + lnI ins) (htg : tgQ (pc, ins, nx, tg) = true) (hL : LR f nL lsC ls)
    (h : lop nL ins pc nx tg ls st σ = some (o, pc', ls', st', σ')) (ho : allP o) (kW : σ' = σ → ∀ lsC' : Array Slot, LR f nL lsC' ls' → W p l e R s m args below meth c H locs k n Qf (F0 m pc' lsC' (st'.map (cvv f)))) : W p l e R s m args below meth c H locs k n Qf (F0 m pc lsC (st.map (cvv f))) := by
  unfold lop at h
  split at h
  · split at h
    · rename_i v hv; cases h; obtain rfl := hn.resolve_left (by simp [lnI])
      obtain ⟨h1, ⟨-, x, rfl⟩ | ⟨h2, -⟩ | ⟨h2, -⟩⟩ := ldv_ok hL hv
      · exact lv_iload_n hx hb (dec_of hd rfl) rfl h1 (kW rfl lsC hL)
      · cases h2
      · cases h2
    · cases h
  · split at h
    · rename_i v hv; cases h; obtain rfl := hn.resolve_left (by simp [lnI])
      obtain ⟨h1, ⟨-, x, rfl⟩ | ⟨h2, -⟩ | ⟨h2, -⟩⟩ := ldv_ok hL hv
      · exact lv_iload hx hb (dec_of hd rfl) h1 (kW rfl lsC hL)
      · cases h2
      · cases h2
    · cases h
  · split at h
    · rename_i v hv; cases h; obtain rfl := hn.resolve_left (by simp [lnI])
      obtain ⟨h1, ⟨h2, -⟩ | ⟨-, x, rfl⟩ | ⟨h2, -⟩⟩ := ldv_ok hL hv
      · cases h2
      · exact lv_lload_n hx hb (dec_of hd rfl) rfl h1 (kW rfl lsC hL)
      · cases h2
    · cases h
  · split at h
    · rename_i v hv; cases h; obtain rfl := hn.resolve_left (by simp [lnI])
      obtain ⟨h1, ⟨h2, -⟩ | ⟨-, x, rfl⟩ | ⟨h2, -⟩⟩ := ldv_ok hL hv
      · cases h2
      · exact lv_lload hx hb (dec_of hd rfl) h1 (kW rfl lsC hL)
      · cases h2
    · cases h
  · split at h
    · rename_i v hv; cases h; obtain rfl := hn.resolve_left (by simp [lnI])
      obtain ⟨h1, ⟨h2, -⟩ | ⟨h2, -⟩ | ⟨-, x, rfl⟩⟩ := ldv_ok hL hv
      · cases h2
      · cases h2
      · exact lv_aload_n hx hb (dec_of hd rfl) rfl h1 (kW rfl lsC hL)
    · cases h
  · split at h
    · rename_i v hv; cases h; obtain rfl := hn.resolve_left (by simp [lnI])
      obtain ⟨h1, ⟨h2, -⟩ | ⟨h2, -⟩ | ⟨-, x, rfl⟩⟩ := ldv_ok hL hv
      · cases h2
      · cases h2
      · exact lv_aload hx hb (dec_of hd rfl) h1 (kW rfl lsC hL)
    · cases h
  · split at h
    · cases hk : okS nL ls _ <;> rw [hk] at h <;> cases h
      obtain rfl := hn.resolve_left (by simp [lnI])
      exact lv_istore_n hx hb (dec_of hd rfl) rfl hL.has (okS_lt hk) rfl (fun ls' h' => kW rfl ls' (LR.store hk h'))
    · cases h
  · split at h
    · cases hk : okS nL ls _ <;> rw [hk] at h <;> cases h
      obtain rfl := hn.resolve_left (by simp [lnI])
      exact lv_istore hx hb (dec_of hd rfl) hL.has (okS_lt hk) rfl (fun ls' h' => kW rfl ls' (LR.store hk h'))
    · cases h
  · split at h
    · cases hk : okS nL ls _ <;> rw [hk] at h <;> cases h
      obtain rfl := hn.resolve_left (by simp [lnI])
      exact lv_astore_n hx hb (dec_of hd rfl) rfl hL.has (okS_lt hk) rfl (fun ls' h' => kW rfl ls' (LR.store hk h'))
    · cases h
  · split at h
    · cases hk : okS nL ls _ <;> rw [hk] at h <;> cases h
      obtain rfl := hn.resolve_left (by simp [lnI])
      exact lv_astore hx hb (dec_of hd rfl) hL.has (okS_lt hk) rfl (fun ls' h' => kW rfl ls' (LR.store hk h'))
    · cases h
  · split at h
    · rename_i x hv
      cases hk : okS nL ls _ <;> rw [hk] at h <;> cases h
      obtain rfl := hn.resolve_left (by simp [lnI])
      obtain ⟨q, hq⟩ := List.getElem?_of_mem (asc_mem (f := f) hv (by intro h; cases h))
      exact lv_iinc hx hb (dec_of hd rfl) hL.has hq rfl (okS_lt hk) rfl (fun ls' h' => kW rfl ls' (LR.store (v := .int _) hk h'))
    · cases h
  · cases h; obtain rfl := hn.resolve_left (by simp [lnI])
    exact lv_goto hx hb (dec_of hd rfl) (of_decide_eq_true htg) (kW rfl lsC hL)
  · split at h
    · cases h; obtain rfl := hn.resolve_left (by simp [lnI])
      exact cnd_W0 hx hb (dec_of hd rfl) (of_decide_eq_true htg) (kW rfl lsC hL)
    · cases h
  · split at h
    · cases h; obtain rfl := hn.resolve_left (by simp [lnI])
      exact cnd_W hx hb (dec_of hd rfl) (of_decide_eq_true htg) (kW rfl lsC hL)
    · cases h
  · split at h
    · rename_i d lo hi offs _ x r
      cases h
      obtain ⟨h1, h2⟩ := ho
      have h3 : (pc : Int) + tsw d lo hi offs x.toInt = ((((pc : Int) + tsw d lo hi offs x.toInt).toNat : Nat) : Int) := (Int.toNat_of_nonneg h1).symm
      by_cases hc : x.toInt < lo ∨ hi < x.toInt
      · refine lv_tableOut hx hb hd hc ?_ (kW rfl lsC hL)
        have e1 : tsw d lo hi offs x.toInt = d := by unfold tsw; rw [if_pos hc]
        rw [e1] at h3 ⊢
        exact h3
      · have e1 : tsw d lo hi offs x.toInt = offs.getD (x.toInt - lo).toNat d := by unfold tsw; rw [if_neg hc]
        have h4 : (x.toInt - lo).toNat < offs.size := h2.resolve_left hc
        refine lv_tableIn hx hb hd (fun h => hc (Or.inl h)) (fun h => hc (Or.inr h)) (off := offs.getD (x.toInt - lo).toNat d) ?_ ?_ (kW rfl lsC hL)
        · rw [Array.getD_eq_getD_getElem?, Array.getElem?_eq_getElem h4]; rfl
        · rw [e1] at h3 ⊢
          exact h3
    · cases h
  · split at h
    · cases h
      obtain ⟨h1, h2⟩ := ho
      exact lv_lookup hx hb hd h2 rfl (Int.toNat_of_nonneg h1).symm (kW rfl lsC hL)
    · cases h
  · cases h
end Sound
