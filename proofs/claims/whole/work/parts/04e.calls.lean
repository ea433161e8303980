def ent (vs : List Value) : List Value := match vs with
  | [] => []
  | .long x :: r => .long x :: .null :: ent r
  | .double x :: r => .double x :: .null :: ent r
  | v :: r => v :: ent r
theorem ent_cons {v : Value} {r : List Value} (h : v.category ≠ 2) : ent (v :: r) = v :: ent r := by
  cases v <;> first | rfl | exact absurd rfl h
theorem ent_cons2 {v : Value} {r : List Value} (h : v.category = 2) : ent (v :: r) = v :: .null :: ent r := by
  cases v <;> first | rfl | cases h
theorem lg_len (f : Nat → Nat) (vs : List Value) : (lg_sl (vs.map (cvv f))).length = (ent vs).length := by
  induction vs with
  | nil => rfl
  | cons v r ih =>
    by_cases h : v.category = 2
    · rw [ent_cons2 h]
      simp only [List.map_cons, lg_sl, List.flatMap_cons, cvv_cat, h, if_true, List.length_append, List.length_cons, List.length_nil]
      unfold lg_sl at ih
      omega
    · rw [ent_cons h]
      simp only [List.map_cons, lg_sl, List.flatMap_cons, cvv_cat, h, if_false, List.length_append, List.length_cons, List.length_nil]
      unfold lg_sl at ih
      omega
theorem ent_args (f : Nat → Nat) (vs : List Value) : ∀ (off i : Nat) (v : Value), (ent vs)[i]? = some v → v ≠ .null → (off + i, cvv f v) ∈ lv_args off (vs.map (cvv f)) := by
  induction vs with
  | nil => intro off i v h; simp [ent] at h
  | cons w r ih =>
    intro off i v h hv
    rw [List.map_cons, lv_args]
    by_cases hc : w.category = 2
    · rw [ent_cons2 hc] at h
      rw [if_pos (by rw [cvv_cat]; exact hc)]
      match i, h with
      | 0, h => simp at h; subst h; exact List.mem_cons_self
      | 1, h => simp at h; exact absurd h.symm hv
      | i + 2, h =>
        refine List.mem_cons_of_mem _ ?_
        have := ih (off + 2) i v (by simpa using h) hv
        rwa [show off + 2 + i = off + (i + 2) by omega] at this
    · rw [ent_cons hc] at h
      rw [if_neg (by rw [cvv_cat]; exact hc)]
      match i, h with
      | 0, h => simp at h; subst h; exact List.mem_cons_self
      | i + 1, h =>
        refine List.mem_cons_of_mem _ ?_
        have := ih (off + 1) i v (by simpa using h) hv
        rwa [show off + 1 + i = off + (i + 1) by omega] at this
def wsM (M : Mth) : List Cond := Cond.code (my M) (mcc M) (mml M) (mret M) :: lw_g
def Pcv (D : va_G) (ca f : Nat → Nat) (n0 : Nat) (σ : St) (As : List Value) : Array Value → State → Prop := fun a U => a = (As.map (cvv f)).toArray ∧ Bas D ca f n0 U ∧ Rel D ca f n0 U σ U.heap
def Qcv (D : va_G) (ca f : Nat → Nat) (n0 : Nat) (σ : St) (Q : Option Value → St → Prop) : Array Value → State → Outcome → State → Prop := fun _ st oc t => ∃ (r : Option Value) (σ' : St) (f' : Nat → Nat), oc = .returned (r.map (cvv f')) ∧ agr σ σ' f f' ∧ Q r σ' ∧ Rel D ca f' n0 t σ' t.heap ∧ va_F (fun q => n0 ≤ q) st t
theorem Rel.moved {D : va_G} {ca f : Nat → Nat} {n0 : Nat} {u U : State} {σ : St} {H : Heap} (hvm : u.vm.Alike U.vm) (h : Rel D ca f n0 u σ H) : Rel D ca f n0 U σ H :=
  ⟨h.1, h.2.1, fun j t n rs hs => ⟨(h.2.2.1 j t n rs hs).1, arrOfT_moved hvm (h.2.2.1 j t n rs hs).2.1, (h.2.2.1 j t n rs hs).2.2.moved hvm⟩, fun n rs hs => (h.2.2.2 n rs hs).moved hvm⟩
theorem Bas.mv {D : va_G} {ca f : Nat → Nat} {n0 : Nat} {u U : State} (h : Bas D ca f n0 u) (hvm : u.vm.Alike U.vm) (hk : vk_R RX10 62 wTx (f 1) u → vk_R RX10 62 wTx (f 1) U) (hN : ∀ w ∈ lw_n, va_Nw w u → va_Nw w U) (hz : u.heap.size ≤ U.heap.size) (hq : ∀ a : Nat, a < u.heap.size → ¬ n0 ≤ a → U.heap[a]? = u.heap[a]?) : Bas D ca f n0 U := by
  obtain ⟨h1, h2, h3, h4, h5, ⟨adV, h6⟩, h7, h8, h9, h10⟩ := h
  exact ⟨va_K.moved hvm h1, Nat.le_trans h2 hz, h3, fun t cA ht he => h4 t cA ht (by rw [← hvm.findClass]; exact he), hk h5, ⟨adV, (h6.moved hvm).kept hq⟩, (h7.moved hvm).kept hq, fun w hw => hN w hw (h8 w hw), h9.moved hvm, (h10.moved hvm).kept hq⟩
theorem Bas.f' {D : va_G} {ca f f' : Nat → Nat} {n0 : Nat} {u : State} (h : Bas D ca f n0 u) (h0 : f' 0 = f 0) (h1 : f' 1 = f 1) : Bas D ca f' n0 u := by
  unfold Bas at *
  rw [h0, h1]
  exact h
set_option maxHeartbeats 2000000 in
theorem met_V {R : Room} {M : Mth} {As : List Value} {σ : St} {Q : Option Value → St → Prop} {kd na : Nat} (hM : MOk M kd na) (hln : (ent As).length ≤ mml M) (hV : V R M 0 0 0 (ent As) [] σ Q) (l : Launch) (D : va_G) (ca f : Nat → Nat) (n0 : Nat) :
    Met l (my M) (wsM M) R (Pcv D ca f n0 σ As) (Qcv D ca f n0 σ Q) R.cells R.slots (fun q => n0 ≤ q) := by
  obtain ⟨m1, m2, m3, m4, m5, m6, m7⟩ := hM
  refine Met.ofW (cc := mcc M) (maxL := mml M) (ret := mret M) m3 rfl ?_
  intro p e s m args below meth c s₁ B hml hv
  obtain ⟨rfl, hB, hR⟩ := hv
  have hts := atoms_spec (ws := wsM M) B.pre
  have hown : s.vm.findClass (my M).cls = some m.cls := findClass_of_methodNamed B.named
  have hl := lv_entry (As.map (cvv f)) (n := mml M) (by rw [lg_len]; exact hln)
  rw [lg_entry_eq]
  refine hV p l e s m _ below meth c D ca f n0 _ ⟨B.exec, B.bytes, hml, B.returns, by rw [m6]; exact hown, fun w hw => hts w (List.mem_cons_of_mem _ hw), B.notSynchronized, fun h => (name_of_methodNamed B.named B.method).1.trans h, m5, hB⟩ ?_ s.heap [] _ hR va_S.rf ⟨hl.1, hl.2.1, fun i v hi hv => hl.2.2 (i, cvv f v) (by have := ent_args f As 0 i v hi hv; rwa [Nat.zero_add] at this)⟩
  intro f' σ' r H' locs' k' n' pc' ls' ins ha hq hrk hdc hR' hS' hk hn
  refine W.widen (k := R.cells) (n := R.slots) hk hn ?_
  have key : ∀ t : State, t.heap = H' → s.WarmedH t.vm → Qcv D ca f n0 σ Q (As.map (cvv f)).toArray s (.returned (r.map (cvv f'))) t := fun t ht hW => ⟨r, σ', f', rfl, ha, hq, by rw [ht]; exact hR'.moved hW.alike, hS'.F ht⟩
  have hx := B.exec
  have hb := B.bytes
  have hr := B.returns
  have hlk := B.notSynchronized
  unfold rok at hrk
  split at hrk
  · rename_i e1
    rw [e1] at hr
    exact W.vret hx hb hr key hS'.2.2 hdc
  · rename_i v e1
    rw [e1] at hr
    exact W.iret hx hb hr key hS'.2.2 hdc
  · rename_i v e1
    rw [e1] at hr
    exact W.zret hx hb hr hrk key hS'.2.2 hdc
  · rename_i v e1
    rw [e1] at hr
    exact W.lret hx hb hr key hS'.2.2 hdc
  · rename_i nmo v e1
    rw [e1] at hr
    exact W.aret hx hb hr (Or.inl ⟨_, rfl⟩) (Or.inr ⟨_, rfl⟩) key hS'.2.2 hdc
  · exact hrk.elim
theorem good_in {Ts : List Cond} (h : ∀ w ∈ lw_g, w ∈ Ts) {M : Mth} {kd na : Nat} (hM : MOk M kd na) : GoodIn Ts (wsM M) := by
  intro w hw
  have h1 : w ∈ lw_g := by
    rcases List.mem_cons.mp hw with rfl | hw
    · exact hM.1
    · exact hw
  exact ⟨h w h1, good_of_word (List.mem_filter.mp h1).2⟩
def inR (N : Nat) (v : Value) : Prop := match v with
  | .ref j => j < N
  | _ => True
theorem cvv_agr {N : Nat} {f f' : Nat → Nat} (h : ∀ j, j < N → f' j = f j) {v : Value} (hv : inR N v) : cvv f' v = cvv f v := by
  cases v <;> first | rfl | (show Value.ref _ = Value.ref _; rw [h _ hv])
/-- the locals and what lies below the arguments mean the same behind a call -/
def keepR (σ σ' : St) (ls rest : List Value) : Prop := σ'.1.length = σ.1.length ∨ ((∀ v ∈ ls, inR σ.1.length v) ∧ ∀ v ∈ rest, inR σ.1.length v)
theorem LR.agr {f f' : Nat → Nat} {nL N : Nat} {lsC : Array Slot} {ls : List Value} (h : LR f nL lsC ls) (ha : ∀ j, j < N → f' j = f j) (hr : ∀ v ∈ ls, inR N v) : LR f' nL lsC ls :=
  ⟨h.1, h.2.1, fun i v hi hv => by rw [cvv_agr ha (hr v (List.mem_of_getElem? hi))]; exact h.2.2 i v hi hv⟩
section CallRows
variable {p : Program} {l : Launch} {e : Env} {R R' : Room} {s : State} {m : MethodId} {args : Array Value} {below : List Frame} {meth : Method} {c : Code} {H : Heap} {locs : List Loc} {k n : Nat} {Qf : State → Prop} {pc nx tg idx na : Nat} {lsC : Array Slot} {D : va_G} {ca f : Nat → Nat} {n0 : Nat} {M M' : Mth} {ls st As rest : List Value} {σ : St} {Q : Option Value → St → Prop}
theorem run_W {Q' : Option Value → St → Prop} {a : Array Value} {mc ms : Nat} {st0 restC : List Value} (hr : va_Run p l e R s m args below meth c H locs k n mc ms (F0 m pc lsC st0) restC (Qcv D ca f n0 σ Q' a) (fun q => n0 ≤ q)) (hS : va_S (fun q => n0 ≤ q) s.heap H locs)
    (kk : ∀ (r : Option Value) (σ' : St) (f' : Nat → Nat) (H1 : Heap) (locs1 : List Loc), agr σ σ' f f' → Q' r σ' → Rel D ca f' n0 s σ' H1 → va_S (fun q => n0 ≤ q) s.heap H1 locs1 → W p l e R s m args below meth c H1 locs1 (k + mc) (n + ms) Qf (F0 m (pc + 3) lsC ((r.map (cvv f')).toList ++ restC))) : W p l e R s m args below meth c H locs k n Qf (F0 m pc lsC st0) := by
  intro T hT X
  obtain ⟨v, st₀, t, T', L, h0, X', hL, e1, e2, ⟨r, σ', f', hv, ha, hq, hR', hz, hk⟩, st⟩ := hr T hT X
  cases hv
  rw [h0] at hz hk
  have hvm : t.vm.Alike s.vm := by rw [← e2]; exact X'.warmed.alike.symm
  obtain ⟨t2, a1, b1⟩ := kk r σ' f' T'.heap (locs ++ L) ha hq (by rw [e1]; exact hR'.moved hvm)
    ⟨Nat.le_trans hS.1 (by rw [e1]; exact hz), fun q h1 h2 => by rw [e1, hk q (Nat.lt_of_lt_of_le h1 hS.1) h2]; exact hS.2.1 q h1 h2, fun q hq => by
      rcases List.mem_append.mp hq with h | h
      · exact hS.2.2 q h
      · exact hL q h⟩ T' rfl X'
  exact ⟨t2, st t2 a1, b1⟩
theorem pre_s (hB : Bas D ca f n0 s) (hR : Rel D ca f n0 s σ H) (hS : va_S (fun q => n0 ≤ q) s.heap H locs) : PreS s H (Pcv D ca f n0 σ As) (As.map (cvv f)) := by
  refine ⟨fun a U g mk q => ⟨q.1, q.2.1.mv (Vm.Alike.refl U.vm) (fun h => vk_R.same rfl h) (fun w hw h => nw_same (s := U) (U := U.calling g mk a) rfl hw h) (Nat.le_refl _) (fun _ _ _ => rfl), q.2.2.moved (Vm.Alike.refl U.vm)⟩, fun U hU hW => ⟨rfl, hB.mv hW.alike (fun h => vk_R.warm hW h) (fun w hw h => nw_warm hW hw h) (by rw [hU]; exact hS.1) (fun a h1 h2 => by rw [hU]; exact hS.2.1 a h1 h2), by rw [hU]; exact hR.moved hW.alike⟩⟩
def callR (R R' : Room) (M' : Mth) (k n : Nat) : Prop := R'.frames + 1 ≤ R.frames ∧ 8 + (mml M' + 11) + R'.locals ≤ R.locals ∧ k + R'.cells ≤ R.cells ∧ n + R'.slots ≤ R.slots
def catS (rest : List Value) : Nat := (rest.map fun v => v.category).sum
theorem catS_map : ((rest.map (cvv f)).map fun v => v.category).sum = catS rest := by
  unfold catS
  rw [List.map_map]
  congr 1
  exact List.map_congr_left (fun v _ => cvv_cat f v)
theorem back_V {σ' : St} {f' : Nat → Nat} {r : Option Value} {H1 : Heap} {locs1 : List Loc} {mc ms : Nat} (C : Cx M p s m args meth c D ca f n0) (HF : HFv R M Q p l e s m args below meth c D ca n0 Qf f σ) (hL : LR f (mml M) lsC ls) (ha : agr σ σ' f f') (hkp : keepR σ σ' ls rest) (hV : V R M (k + mc) (n + ms) nx ls (r.toList ++ rest) σ' Q) (hR1 : Rel D ca f' n0 s σ' H1) (hS1 : va_S (fun q => n0 ≤ q) s.heap H1 locs1) : W p l e R s m args below meth c H1 locs1 (k + mc) (n + ms) Qf (F0 m nx lsC ((r.map (cvv f')).toList ++ rest.map (cvv f))) := by
  obtain ⟨c1, c2, c3, c4, c5, c6, c7, c8, c9, c10⟩ := C
  have hls : LR f' (mml M) lsC ls ∧ rest.map (cvv f') = rest.map (cvv f) := by
    rcases hkp with h | ⟨h1, h2⟩
    · have := ha.2.2.1 h
      subst this
      exact ⟨hL, rfl⟩
    · exact ⟨hL.agr ha.1 h1, List.map_congr_left (fun v hv => cvv_agr ha.1 (h2 v hv))⟩
  have := hV p l e s m args below meth c D ca f' n0 Qf ⟨c1, c2, c3, c4, c5, c6, c7, c8, c9, c10.f' ha.2.2.2.1 ha.2.2.2.2⟩ (fun f2 σ2 r2 H2 locs2 k2 n2 pc2 ls2 ins2 ha2 => HF f2 σ2 r2 H2 locs2 k2 n2 pc2 ls2 ins2 (ha.tr ha2)) H1 locs1 lsC hR1 hS1 hls.1
  rw [List.map_append, hls.2] at this
  cases r with
  | none => exact this
  | some v => exact this
set_option maxHeartbeats 2000000 in
theorem v_virt {j ci : Nat} {rs : List (Option Nat)} (hl : lk2 (mtab M) pc = some (.invokevirtual idx, nx, tg)) (hm : mlk M.1 idx = some (M', 1, na)) (hst : st = As.reverse ++ .ref (j + 2) :: rest) (hlen : As.length = na) (hsh : σ.1[j + 2]? = some (.inl (ci, rs))) (hci : cnm ci = (my M').cls) (hcl : ci < 13) (hR' : callR R R' M' k n) (hcat : catS rest ≤ 8) (hln : (ent (.ref (j + 2) :: As)).length ≤ mml M')
    (hV : V R' M' 0 0 0 (ent (.ref (j + 2) :: As)) [] σ (fun r σ' => keepR σ σ' ls rest ∧ V R M (k + R'.cells) (n + R'.slots) nx ls (r.toList ++ rest) σ' Q)) : V R M k n pc ls st σ Q := by
  intro p l e s m args below meth c D ca f n0 Qf C HF H locs lsC hR hS hL
  have C' := C
  obtain ⟨hx, hb, hml, hrt, hown, hts, hlk, hin, hT, hB⟩ := C'
  obtain ⟨hd, hn', -⟩ := tab_ok hT hl
  obtain rfl := hn'.resolve_left (by simp [lnI])
  obtain ⟨hlink, hM⟩ := mk_all M.1 _ (lk2_mem hm)
  have hM2 := hM
  obtain ⟨m1, m2, m3, m4, m5, m6, m7, m8⟩ := hM2
  obtain ⟨⟨C0, T0, N0⟩, hc⟩ : ∃ q, vwCl[ci]? = some q := ⟨_, List.getElem?_eq_getElem (show ci < vwCl.length from hcl)⟩
  have hCn : C0 = (my M').cls := by rw [(ck_all _ _ _ _ hc).2.2.2.2.2.2, hci]
  have hmet := met_V hM hln hV l D ca f n0
  have hpre := pre_s (As := .ref (j + 2) :: As) hB hR hS
  have hrecv := va_recv hB.1 hR.1 hc (wld_at hsh)
  have hp : PreV s H C0 (f (j + 2)) (Pcv D ca f n0 σ (.ref (j + 2) :: As)) (As.map (cvv f)) := ⟨hpre.1, hrecv, hpre.2⟩
  rw [hst, List.map_append, List.map_reverse, List.map_cons]
  subst hCn
  rcases hlink with hlink | ⟨host, hlink⟩
  · refine run_W (va_runV (n := na) (C := (my M').cls) ⟨hx, hb, hml, hown, hts⟩ hmet ⟨callB_of na hts (good_in (fun _ h => h) hM) rfl rfl rfl (hts _ m2) (hts _ hlink) m4 ⟨hR'.1, hR'.2.1⟩, hts _ m7, hts _ m8⟩ hp rfl (by rw [List.length_map]; exact hlen) hL.1 rfl (by rw [catS_map]; show 2 * 0 + _ ≤ _; omega) (dec_of hd rfl) hR'.2.2) hS (fun r σ' f' H1 locs1 ha hq hR1 hS1 => back_V C HF hL ha hq.1 hq.2 hR1 hS1)
  · refine run_W (va_runVN (n := na) (C := (my M').cls) ⟨hx, hb, hml, hown, hts⟩ hmet ⟨va_cnB na hts (good_in (fun _ h => h) hM) rfl rfl rfl (hB.2.2.2.2.2.2.2.1 _ hlink) (hts _ m2) m4 ⟨hR'.1, hR'.2.1⟩, hts _ m7, hts _ m8⟩ hp rfl (by rw [List.length_map]; exact hlen) hL.1 rfl (by rw [catS_map]; show 2 * 0 + _ ≤ _; omega) (dec_of hd rfl) hR'.2.2) hS (fun r σ' f' H1 locs1 ha hq hR1 hS1 => back_V C HF hL ha hq.1 hq.2 hR1 hS1)
set_option maxHeartbeats 2000000 in
theorem v_stat (hl : lk2 (mtab M) pc = some (.invokestatic idx, nx, tg)) (hm : mlk M.1 idx = some (M', 0, na)) (hst : st = As.reverse ++ rest) (hlen : As.length = na) (hR' : callR R R' M' k n) (hcat : catS rest ≤ 8) (hln : (ent As).length ≤ mml M')
    (hV : V R' M' 0 0 0 (ent As) [] σ (fun r σ' => keepR σ σ' ls rest ∧ V R M (k + R'.cells) (n + R'.slots) nx ls (r.toList ++ rest) σ' Q)) : V R M k n pc ls st σ Q := by
  intro p l e s m args below meth c D ca f n0 Qf C HF H locs lsC hR hS hL
  have C' := C
  obtain ⟨hx, hb, hml, hrt, hown, hts, hlk, hin, hT, hB⟩ := C'
  obtain ⟨hd, hn', -⟩ := tab_ok hT hl
  obtain rfl := hn'.resolve_left (by simp [lnI])
  obtain ⟨hlink, hM⟩ := mk_all M.1 _ (lk2_mem hm)
  have hM2 := hM
  obtain ⟨m1, m2, m3, m4, m5, m6, m7⟩ := hM2
  have hmet := met_V hM hln hV l D ca f n0
  have hp := pre_s (As := As) hB hR hS
  rw [hst, List.map_append, List.map_reverse]
  rcases hlink with hlink | ⟨host, hlink⟩
  · refine run_W (va_runS (n := na) ⟨hx, hb, hml, hown, hts⟩ hmet ⟨callB_of na hts (good_in (fun _ h => h) hM) rfl rfl rfl (hts _ m2) (hts _ hlink) m4 ⟨hR'.1, hR'.2.1⟩, hts _ m7⟩ hp rfl (by rw [List.length_map]; exact hlen) hL.1 rfl (by rw [catS_map]; show 2 * 0 + _ ≤ _; omega) (dec_of hd rfl) hR'.2.2) hS (fun r σ' f' H1 locs1 ha hq hR1 hS1 => back_V C HF hL ha hq.1 hq.2 hR1 hS1)
  · refine run_W (va_runSN (n := na) ⟨hx, hb, hml, hown, hts⟩ hmet ⟨va_cnB na hts (good_in (fun _ h => h) hM) rfl rfl rfl (hB.2.2.2.2.2.2.2.1 _ hlink) (hts _ m2) m4 ⟨hR'.1, hR'.2.1⟩, hts _ m7, trivial⟩ hp rfl (by rw [List.length_map]; exact hlen) hL.1 rfl (by rw [catS_map]; show 2 * 0 + _ ≤ _; omega) (dec_of hd rfl) hR'.2.2) hS (fun r σ' f' H1 locs1 ha hq hR1 hS1 => back_V C HF hL ha hq.1 hq.2 hR1 hS1)
set_option maxHeartbeats 2000000 in
theorem v_spec {j : Nat} (hl : lk2 (mtab M) pc = some (.invokespecial idx, nx, tg)) (hm : mlk M.1 idx = some (M', 2, na)) (hst : st = As.reverse ++ .ref (j + 2) :: rest) (hlen : As.length = na) (hR' : callR R R' M' k n) (hcat : catS rest ≤ 8) (hln : (ent (.ref (j + 2) :: As)).length ≤ mml M')
    (hV : V R' M' 0 0 0 (ent (.ref (j + 2) :: As)) [] σ (fun r σ' => keepR σ σ' ls rest ∧ V R M (k + R'.cells) (n + R'.slots) nx ls (r.toList ++ rest) σ' Q)) : V R M k n pc ls st σ Q := by
  intro p l e s m args below meth c D ca f n0 Qf C HF H locs lsC hR hS hL
  have C' := C
  obtain ⟨hx, hb, hml, hrt, hown, hts, hlk, hin, hT, hB⟩ := C'
  obtain ⟨hd, hn', -⟩ := tab_ok hT hl
  obtain rfl := hn'.resolve_left (by simp [lnI])
  obtain ⟨hlink, hM⟩ := mk_all M.1 _ (lk2_mem hm)
  have hM2 := hM
  obtain ⟨m1, m2, m3, m4, m5, m6, m7, m8, m9⟩ := hM2
  have hmet := met_V hM hln hV l D ca f n0
  have hp := pre_s (As := .ref (j + 2) :: As) hB hR hS
  rw [hst, List.map_append, List.map_reverse, List.map_cons]
  rcases hlink with hlink | ⟨host, hlink⟩
  · refine run_W (va_runI (n := na) ⟨hx, hb, hml, hown, hts⟩ hmet ⟨callB_of na hts (good_in (fun _ h => h) hM) (by rw [← m9]; rfl) rfl rfl (hts _ m2) (hts _ hlink) m4 ⟨hR'.1, hR'.2.1⟩, m7, hts _ m8⟩ hp rfl (by rw [List.length_map]; exact hlen) hL.1 rfl (by rw [catS_map]; show 2 * 0 + _ ≤ _; omega) (dec_of hd rfl) hR'.2.2) hS (fun r σ' f' H1 locs1 ha hq hR1 hS1 => back_V C HF hL ha hq.1 hq.2 hR1 hS1)
  · refine run_W (va_runIN (n := na) ⟨hx, hb, hml, hown, hts⟩ hmet ⟨va_cnB na hts (good_in (fun _ h => h) hM) (by rw [← m9]; rfl) rfl rfl (hB.2.2.2.2.2.2.2.1 _ hlink) (hts _ m2) m4 ⟨hR'.1, hR'.2.1⟩, m7, hts _ m8⟩ hp rfl (by rw [List.length_map]; exact hlen) hL.1 rfl (by rw [catS_map]; show 2 * 0 + _ ≤ _; omega) (dec_of hd rfl) hR'.2.2) hS (fun r σ' f' H1 locs1 ha hq hR1 hS1 => back_V C HF hL ha hq.1 hq.2 hR1 hS1)
end CallRows
