theorem gfv_ok {f : Nat → Nat} {ci k : Nat} {rs : List (Option Nat)} {i : Nat → Int32} {l : Nat → Int64} {v : Value} (h : gfv ci k rs i l = some v) : fvl f ci k rs i l = cvv f v := by
  unfold gfv at h
  unfold fvl
  split at h
  · cases h; rfl
  · cases h; rfl
  · cases h; rfl
  · split at h
    · rename_i j e
      cases h
      rw [e]
      rfl
    · cases h
def fds (f : Nat → Nat) (ci : Nat) (rs : List (Option Nat)) (i : Nat → Int32) (l : Nat → Int64) : List Value := (List.range (nmF ci)).map (fun k => fvl f ci k rs i l)
theorem fds_get {f : Nat → Nat} {ci : Nat} {rs : List (Option Nat)} {i : Nat → Int32} {l : Nat → Int64} {k : Nat} (h : k < nmF ci) : (fds f ci rs i l)[k]? = some (fvl f ci k rs i l) := by
  unfold fds
  rw [List.getElem?_map, List.getElem?_range h]
  rfl
theorem fds_len {f : Nat → Nat} {ci : Nat} {rs : List (Option Nat)} {i : Nat → Int32} {l : Nat → Int64} : (fds f ci rs i l).length = nmF ci := by simp [fds]
theorem fds_set {f : Nat → Nat} {ci : Nat} {rs rs' : List (Option Nat)} {i i' : Nat → Int32} {l l' : Nat → Int64} {k : Nat} {v : Value} (hk : k < nmF ci) (hv : fvl f ci k rs' i' l' = v) (hr : ∀ q, q ≠ k → rs'.getD q none = rs.getD q none) (hi : ∀ q, q ≠ k → i' q = i q) (hl : ∀ q, q ≠ k → l' q = l q) : (fds f ci rs i l).set k v = fds f ci rs' i' l' := by
  apply List.ext_getElem?
  intro q
  by_cases hq : q < nmF ci
  · rw [fds_get hq]
    by_cases hqk : k = q
    · subst hqk
      rw [List.getElem?_set_self (by rw [fds_len]; exact hk), hv]
    · rw [List.getElem?_set_ne hqk, fds_get hq]
      unfold fvl
      rw [hr q (fun h => hqk h.symm), hi q (fun h => hqk h.symm), hl q (fun h => hqk h.symm)]
  · rw [List.getElem?_eq_none (by rw [List.length_set, fds_len]; omega), List.getElem?_eq_none (by rw [fds_len]; omega)]
theorem K_arr {D : va_G} {s : State} {cA : Nat} {ty : FieldType} (hK : va_K D vwCl [] s) (h1 : ArrOfT s cA ty) (h2 : va_RA s cA ty) : va_K D vwCl [(cA, ty)] s := by
  refine ⟨hK.1, fun k q hk => ?_⟩
  have hz : k < 1 := (List.getElem?_eq_some_iff.mp hk).1
  rw [show k = 0 by omega] at hk
  cases hk
  exact ⟨h1, h2⟩
theorem getD_of {σ : St} {j : Nat} {x : Shp} (h : σ.1[j]? = some x) : σ.1.getD j sh0 = x := by rw [List.getD_eq_getElem?_getD, h]; rfl
theorem lt_of {σ : St} {j : Nat} {x : Shp} (h : σ.1[j]? = some x) : j < σ.1.length := (List.getElem?_eq_some_iff.mp h).1
theorem up2_ne {α : Type} {I : Nat → Nat → α} {j k i : Nat} {x : α} (h : i ≠ j) : up2 I j k x i = I i := by funext b; simp [up2, h]
theorem up2_eq {α : Type} {I : Nat → Nat → α} {j k : Nat} {x : α} : up2 I j k x j = fun b => if b = k then x else I j b := by funext b; simp [up2]
/-- the world behind a write of one cell's ints or longs -/
theorem Rel_set {D : va_G} {ca f : Nat → Nat} {n0 : Nat} {s : State} {σ : St} {H H1 : Heap} {j : Nat} {x : Shp} {I : Nat → Nat → Int32} {L : Nat → Nat → Int64} {e : va_E} (hR : Rel D ca f n0 s σ H) (hsh : σ.1[j + 2]? = some x) (hI : ∀ i, i ≠ j + 2 → I i = σ.2.1 i) (hL : ∀ i, i ≠ j + 2 → L i = σ.2.2 i)
    (he : e = cel f ca (j + 2) x I L) (hP1 : va_P D vwCl ((wld f ca σ).set j (f (j + 2), e)) H1) (hD1 : va_D (fun q => n0 ≤ q) ((wld f ca σ).set j (f (j + 2), e))) (hq : H1[f 0]? = H[f 0]?) : Rel D ca f n0 s (σ.1, I, L) H1 := by
  have hw : (wld f ca σ).set j (f (j + 2), e) = wld f ca (σ.1, I, L) := wld_set (lt_of hsh) rfl (fun _ _ => rfl) hI hL (by rw [he]; show _ = cel f ca (j + 2) (σ.1.getD (j + 2) sh0) I L; rw [getD_of hsh])
  rw [hw] at hP1 hD1
  refine ⟨hP1, hD1, hR.2.2.1, fun n rs h => ?_⟩
  have := (hR.2.2.2 n rs h).kept hq
  show va_X (f 0) n (I 0) s H1
  rw [hI 0 (by omega)]
  exact this
theorem at0 {D : va_G} {ca f : Nat → Nat} {n0 : Nat} {s : State} {H H1 : Heap} {locs locs1 : List Loc} (hB : Bas D ca f n0 s) (h : va_S (fun q => n0 ≤ q) s.heap H locs) (h1 : va_S (fun q => n0 ≤ q) s.heap H1 locs1) : H1[f 0]? = H[f 0]? := by
  have hlt : f 0 < s.heap.size := Nat.lt_of_lt_of_le hB.2.2.1 hB.2.1
  have hn : ¬ n0 ≤ f 0 := by have := hB.2.2.1; omega
  rw [h.2.1 _ hlt hn, h1.2.1 _ hlt hn]
section SoundH
variable {p : Program} {l : Launch} {e : Env} {R : Room} {s : State} {m : MethodId} {args : Array Value} {below : List Frame} {meth : Method} {c : Code} {H : Heap} {locs : List Loc} {k n : Nat} {Qf : State → Prop} {cc : ByteArray} {pc nx tg : Nat} {lsC : Array Slot} {D : va_G} {ca f : Nat → Nat} {n0 own i pc' : Nat} {ls st ls' st' : List Value} {σ σ' : St} {o : List Prop}

set_option maxHeartbeats 4000000 in
theorem hGet_ok (hx : p.tables.exec = Jvm.exec) (hb : c.code = cc) (hown : s.vm.findClass (cnm own) = some m.cls) (hts : ∀ w ∈ lw_g, w.before args s = true) (hd : decode cc pc = .ok (.getfield i, 3)) (hB : Bas D ca f n0 s) (hR : Rel D ca f n0 s σ H) (hS : va_S (fun q => n0 ≤ q) s.heap H locs) (h : hGet own i (pc + 3) ls st σ = some (o, pc', ls', st', σ')) (ho : allP o)
    (kW : ∀ (H' : Heap) (locs' : List Loc), Rel D ca f n0 s σ' H' → va_S (fun q => n0 ≤ q) s.heap H' locs' → σ'.1 = σ.1 → pc' = pc + 3 → ls' = ls → W p l e R s m args below meth c H' locs' k n Qf (F0 m pc' lsC (st'.map (cvv f)))) : W p l e R s m args below meth c H locs k n Qf (F0 m pc lsC (st.map (cvv f))) := by
  unfold hGet at h
  split at h
  · rename_i j r
    split at h
    · rename_i q ob hfl hsh
      cases hbq : Nat.beq ob.1 q.1 <;> rw [hbq] at h
      · cases h
      · have hci := Nat.eq_of_beq_eq_true hbq
        simp only [cond_true] at h
        split at h
        · rename_i v hv
          cases h
          obtain ⟨C, T, N, hc, hk, hlink⟩ := fk_all own _ (lk2_mem hfl)
          obtain ⟨c1, -, -, -, -, c6, -⟩ := ck_all _ _ _ _ hc
          have he : (wld f ca σ)[j]? = some (f (j + 2), .inr (q.1, fds f q.1 ob.2 (σ.2.1 (j + 2)) (σ.2.2 (j + 2)))) := by rw [wld_at hsh, ← hci]; rfl
          have hv' : (fds f q.1 ob.2 (σ.2.1 (j + 2)) (σ.2.2 (j + 2)))[q.2]? = some (cvv f v) := by rw [fds_get (by rw [← c6]; exact hk), gfv_ok hv]
          have kk := kW H locs hR hS rfl rfl rfl
          rcases hlink with hlink | ⟨host, hlink⟩
          · exact va_get hx hb hts c1 hown hB.1 hR.1 j he hc q.2 hk (hts _ hlink) (fun _ h => h) hv' hd kk
          · exact va_getN hx hb hts c1 hown hB.1 hR.1 j he hc q.2 hk (hB.nw hlink) (fun _ h => h) hv' hd kk
        · cases h
    · cases h
  · cases h

set_option maxHeartbeats 4000000 in
theorem hPutI_ok {q : Nat × Nat} {j : Nat} {x : Int32} {r : List Value} {ob : Nat × List (Option Nat)} (hx : p.tables.exec = Jvm.exec) (hb : c.code = cc) (hown : s.vm.findClass (cnm own) = some m.cls) (hts : ∀ w ∈ lw_g, w.before args s = true) (hd : decode cc pc = .ok (.putfield i, 3)) (hfl : flk own i = some q) (hsh : σ.1[j + 2]? = some (.inl ob)) (hci : ob.1 = q.1) (hB : Bas D ca f n0 s) (hR : Rel D ca f n0 s σ H) (hS : va_S (fun q => n0 ≤ q) s.heap H locs) (h : hPutI q j x (pc + 3) ls r σ = some (o, pc', ls', st', σ')) (ho : allP o)
    (kW : ∀ (H' : Heap) (locs' : List Loc), Rel D ca f n0 s σ' H' → va_S (fun q => n0 ≤ q) s.heap H' locs' → σ'.1 = σ.1 → pc' = pc + 3 → ls' = ls → W p l e R s m args below meth c H' locs' k n Qf (F0 m pc' lsC (st'.map (cvv f)))) : W p l e R s m args below meth c H locs k n Qf (F0 m pc lsC ((.int x :: .ref (j + 2) :: r).map (cvv f))) := by
  obtain ⟨C, T, N, hc, hk, hlink⟩ := fk_all own _ (lk2_mem hfl)
  obtain ⟨c1, ⟨ty, c2, c2'⟩, c3, c4, -, c6, -⟩ := ck_all _ _ _ _ hc
  have he : (wld f ca σ)[j]? = some (f (j + 2), .inr (q.1, fds f q.1 ob.2 (σ.2.1 (j + 2)) (σ.2.2 (j + 2)))) := by rw [wld_at hsh, ← hci]; rfl
  have hkn : q.2 < nmF q.1 := by rw [← c6]; exact hk
  unfold hPutI at h
  split at h
  · rename_i hty
    cases h
    have hfin : (T q.2).2.2.2 = false := by rw [c4 q.2 hk, hty]
    have hpd : parseFieldDescriptor (T q.2).2.2.1 = some .int := by rw [c2 q.2 hk, (c2' q.2 hk).1 (by rw [hty])]
    rcases hlink with hlink | ⟨host, hlink⟩
    · refine va_put hx hb hts c1 ty c2 c3 hown hB.1 hR.1 hR.2.1 hS j he hc q.2 hk (hts _ hlink) (fun _ h => h) hfin hpd (vp_nar_int x) rfl (by rw [fds_len]; exact hkn) hd (fun H1 locs1 hP1 hD1 hS1 => ?_)
      refine kW H1 locs1 (Rel_set hR hsh (fun i hi => up2_ne hi) (fun _ _ => rfl) ?_ hP1 hD1 (at0 hB hS hS1)) hS1 rfl rfl rfl
      rw [fds_set (rs' := ob.2) (i' := up2 σ.2.1 (j + 2) q.2 x (j + 2)) (l' := σ.2.2 (j + 2)) hkn (by unfold fvl; rw [hty]; simp [up2, cvv]) (fun _ _ => rfl) (fun a ha => by simp [up2, ha]) (fun _ _ => rfl), ← hci]
      rfl
    · refine va_putN hx hb hts c1 ty c2 c3 hown hB.1 hR.1 hR.2.1 hS j he hc q.2 hk (hB.nw hlink) (fun _ h => h) hfin hpd (vp_nar_int x) rfl (by rw [fds_len]; exact hkn) hd (fun H1 locs1 hP1 hD1 hS1 => ?_)
      refine kW H1 locs1 (Rel_set hR hsh (fun i hi => up2_ne hi) (fun _ _ => rfl) ?_ hP1 hD1 (at0 hB hS hS1)) hS1 rfl rfl rfl
      rw [fds_set (rs' := ob.2) (i' := up2 σ.2.1 (j + 2) q.2 x (j + 2)) (l' := σ.2.2 (j + 2)) hkn (by unfold fvl; rw [hty]; simp [up2, cvv]) (fun _ _ => rfl) (fun a ha => by simp [up2, ha]) (fun _ _ => rfl), ← hci]
      rfl
  · rename_i hty
    cases h
    have hfin : (T q.2).2.2.2 = false := by rw [c4 q.2 hk, hty]
    have hpd : parseFieldDescriptor (T q.2).2.2.1 = some .boolean := by rw [c2 q.2 hk, (c2' q.2 hk).2.2.1 (by rw [hty])]
    rcases hlink with hlink | ⟨host, hlink⟩
    · refine va_put hx hb hts c1 ty c2 c3 hown hB.1 hR.1 hR.2.1 hS j he hc q.2 hk (hts _ hlink) (fun _ h => h) hfin hpd (isB_nar ho).1 (isB_nar ho).2 (by rw [fds_len]; exact hkn) hd (fun H1 locs1 hP1 hD1 hS1 => ?_)
      refine kW H1 locs1 (Rel_set hR hsh (fun i hi => up2_ne hi) (fun _ _ => rfl) ?_ hP1 hD1 (at0 hB hS hS1)) hS1 rfl rfl rfl
      rw [fds_set (rs' := ob.2) (i' := up2 σ.2.1 (j + 2) q.2 x (j + 2)) (l' := σ.2.2 (j + 2)) hkn (by unfold fvl; rw [hty]; simp [up2, cvv]) (fun _ _ => rfl) (fun a ha => by simp [up2, ha]) (fun _ _ => rfl), ← hci]
      rfl
    · refine va_putN hx hb hts c1 ty c2 c3 hown hB.1 hR.1 hR.2.1 hS j he hc q.2 hk (hB.nw hlink) (fun _ h => h) hfin hpd (isB_nar ho).1 (isB_nar ho).2 (by rw [fds_len]; exact hkn) hd (fun H1 locs1 hP1 hD1 hS1 => ?_)
      refine kW H1 locs1 (Rel_set hR hsh (fun i hi => up2_ne hi) (fun _ _ => rfl) ?_ hP1 hD1 (at0 hB hS hS1)) hS1 rfl rfl rfl
      rw [fds_set (rs' := ob.2) (i' := up2 σ.2.1 (j + 2) q.2 x (j + 2)) (l' := σ.2.2 (j + 2)) hkn (by unfold fvl; rw [hty]; simp [up2, cvv]) (fun _ _ => rfl) (fun a ha => by simp [up2, ha]) (fun _ _ => rfl), ← hci]
      rfl
  · cases h

set_option maxHeartbeats 4000000 in
theorem hPutL_ok {q : Nat × Nat} {j : Nat} {x : Int64} {r : List Value} {ob : Nat × List (Option Nat)} (hx : p.tables.exec = Jvm.exec) (hb : c.code = cc) (hown : s.vm.findClass (cnm own) = some m.cls) (hts : ∀ w ∈ lw_g, w.before args s = true) (hd : decode cc pc = .ok (.putfield i, 3)) (hfl : flk own i = some q) (hsh : σ.1[j + 2]? = some (.inl ob)) (hci : ob.1 = q.1) (hB : Bas D ca f n0 s) (hR : Rel D ca f n0 s σ H) (hS : va_S (fun q => n0 ≤ q) s.heap H locs) (h : hPutL q j x (pc + 3) ls r σ = some (o, pc', ls', st', σ')) (ho : allP o)
    (kW : ∀ (H' : Heap) (locs' : List Loc), Rel D ca f n0 s σ' H' → va_S (fun q => n0 ≤ q) s.heap H' locs' → σ'.1 = σ.1 → pc' = pc + 3 → ls' = ls → W p l e R s m args below meth c H' locs' k n Qf (F0 m pc' lsC (st'.map (cvv f)))) : W p l e R s m args below meth c H locs k n Qf (F0 m pc lsC ((.long x :: .ref (j + 2) :: r).map (cvv f))) := by
  obtain ⟨C, T, N, hc, hk, hlink⟩ := fk_all own _ (lk2_mem hfl)
  obtain ⟨c1, ⟨ty, c2, c2'⟩, c3, c4, -, c6, -⟩ := ck_all _ _ _ _ hc
  have he : (wld f ca σ)[j]? = some (f (j + 2), .inr (q.1, fds f q.1 ob.2 (σ.2.1 (j + 2)) (σ.2.2 (j + 2)))) := by rw [wld_at hsh, ← hci]; rfl
  have hkn : q.2 < nmF q.1 := by rw [← c6]; exact hk
  unfold hPutL at h
  split at h
  · rename_i hty
    cases h
    have hfin : (T q.2).2.2.2 = false := by rw [c4 q.2 hk, hty]
    have hpd : parseFieldDescriptor (T q.2).2.2.1 = some .long := by rw [c2 q.2 hk, (c2' q.2 hk).2.1 (by rw [hty])]
    rcases hlink with hlink | ⟨host, hlink⟩
    · refine va_put hx hb hts c1 ty c2 c3 hown hB.1 hR.1 hR.2.1 hS j he hc q.2 hk (hts _ hlink) (fun _ h => h) hfin hpd (by rfl) (by rfl) (by rw [fds_len]; exact hkn) hd (fun H1 locs1 hP1 hD1 hS1 => ?_)
      refine kW H1 locs1 (Rel_set hR hsh (fun _ _ => rfl) (fun i hi => up2_ne hi) ?_ hP1 hD1 (at0 hB hS hS1)) hS1 rfl rfl rfl
      rw [fds_set (rs' := ob.2) (i' := σ.2.1 (j + 2)) (l' := up2 σ.2.2 (j + 2) q.2 x (j + 2)) hkn (by unfold fvl; rw [hty]; simp [up2, cvv]) (fun _ _ => rfl) (fun _ _ => rfl) (fun a ha => by simp [up2, ha]), ← hci]
      rfl
    · refine va_putN hx hb hts c1 ty c2 c3 hown hB.1 hR.1 hR.2.1 hS j he hc q.2 hk (hB.nw hlink) (fun _ h => h) hfin hpd (by rfl) (by rfl) (by rw [fds_len]; exact hkn) hd (fun H1 locs1 hP1 hD1 hS1 => ?_)
      refine kW H1 locs1 (Rel_set hR hsh (fun _ _ => rfl) (fun i hi => up2_ne hi) ?_ hP1 hD1 (at0 hB hS hS1)) hS1 rfl rfl rfl
      rw [fds_set (rs' := ob.2) (i' := σ.2.1 (j + 2)) (l' := up2 σ.2.2 (j + 2) q.2 x (j + 2)) hkn (by unfold fvl; rw [hty]; simp [up2, cvv]) (fun _ _ => rfl) (fun _ _ => rfl) (fun a ha => by simp [up2, ha]), ← hci]
      rfl
  · cases h

set_option maxHeartbeats 4000000 in
theorem hPut_ok (hx : p.tables.exec = Jvm.exec) (hb : c.code = cc) (hown : s.vm.findClass (cnm own) = some m.cls) (hts : ∀ w ∈ lw_g, w.before args s = true) (hd : decode cc pc = .ok (.putfield i, 3)) (hB : Bas D ca f n0 s) (hR : Rel D ca f n0 s σ H) (hS : va_S (fun q => n0 ≤ q) s.heap H locs) (h : hPut own i (pc + 3) ls st σ = some (o, pc', ls', st', σ')) (ho : allP o)
    (kW : ∀ (H' : Heap) (locs' : List Loc), Rel D ca f n0 s σ' H' → va_S (fun q => n0 ≤ q) s.heap H' locs' → σ'.1 = σ.1 → pc' = pc + 3 → ls' = ls → W p l e R s m args below meth c H' locs' k n Qf (F0 m pc' lsC (st'.map (cvv f)))) : W p l e R s m args below meth c H locs k n Qf (F0 m pc lsC (st.map (cvv f))) := by
  unfold hPut at h
  split at h
  · split at h
    · rename_i q ob hfl hsh
      cases hbq : Nat.beq ob.1 q.1 <;> rw [hbq] at h
      · cases h
      · exact hPutI_ok hx hb hown hts hd hfl hsh (Nat.eq_of_beq_eq_true hbq) hB hR hS h ho kW
    · cases h
  · split at h
    · rename_i q ob hfl hsh
      cases hbq : Nat.beq ob.1 q.1 <;> rw [hbq] at h
      · cases h
      · exact hPutL_ok hx hb hown hts hd hfl hsh (Nat.eq_of_beq_eq_true hbq) hB hR hS h ho kW
    · cases h
  · cases h

set_option maxHeartbeats 4000000 in
theorem hIal_ok (hx : p.tables.exec = Jvm.exec) (hb : c.code = cc) (hown : s.vm.findClass (cnm own) = some m.cls) (hts : ∀ w ∈ lw_g, w.before args s = true) (hd : decode cc pc = .ok (.iaload, 1)) (hB : Bas D ca f n0 s) (hR : Rel D ca f n0 s σ H) (hS : va_S (fun q => n0 ≤ q) s.heap H locs) (h : hIal (pc + 1) ls st σ = some (o, pc', ls', st', σ')) (ho : allP o)
    (kW : ∀ (H' : Heap) (locs' : List Loc), Rel D ca f n0 s σ' H' → va_S (fun q => n0 ≤ q) s.heap H' locs' → σ'.1 = σ.1 → pc' = pc + 1 → ls' = ls → W p l e R s m args below meth c H' locs' k n Qf (F0 m pc' lsC (st'.map (cvv f)))) : W p l e R s m args below meth c H locs k n Qf (F0 m pc lsC (st.map (cvv f))) := by
  unfold hIal at h
  split at h
  · split at h
    · rename_i hsh
      cases h
      exact va_sld hx hb ((hR.2.2.2 _ _ hsh).kept (at0 hB hS va_S.rf)) (Nat.lt_of_lt_of_le hB.2.2.1 hB.2.1) (by have := hB.2.2.1; omega) hS ho hd (kW H locs hR hS rfl rfl rfl)
    · cases h
  · split at h
    · rename_i hsh
      cases h
      obtain ⟨-, a1, a2⟩ := hR.2.2.1 _ _ _ _ hsh
      exact va_iald hx hb (K_arr hB.1 a1 a2) hR.1 _ 0 (wld_at hsh) rfl ho hd (kW H locs hR hS rfl rfl rfl)
    · cases h
  · cases h

set_option maxHeartbeats 4000000 in
theorem hBal_ok (hx : p.tables.exec = Jvm.exec) (hb : c.code = cc) (hown : s.vm.findClass (cnm own) = some m.cls) (hts : ∀ w ∈ lw_g, w.before args s = true) (hd : decode cc pc = .ok (.baload, 1)) (hB : Bas D ca f n0 s) (hR : Rel D ca f n0 s σ H) (hS : va_S (fun q => n0 ≤ q) s.heap H locs) (h : hBal (pc + 1) ls st σ = some (o, pc', ls', st', σ')) (ho : allP o)
    (kW : ∀ (H' : Heap) (locs' : List Loc), Rel D ca f n0 s σ' H' → va_S (fun q => n0 ≤ q) s.heap H' locs' → σ'.1 = σ.1 → pc' = pc + 1 → ls' = ls → W p l e R s m args below meth c H' locs' k n Qf (F0 m pc' lsC (st'.map (cvv f)))) : W p l e R s m args below meth c H locs k n Qf (F0 m pc lsC (st.map (cvv f))) := by
  unfold hBal at h
  split at h
  · split at h
    · rename_i hsh
      cases h
      obtain ⟨-, a1, a2⟩ := hR.2.2.1 _ _ _ _ hsh
      exact va_zald hx hb (K_arr hB.1 a1 a2) hR.1 _ 0 (wld_at hsh) rfl ho hd (kW H locs hR hS rfl rfl rfl)
    · cases h
  · cases h

set_option maxHeartbeats 4000000 in
theorem hLal_ok (hx : p.tables.exec = Jvm.exec) (hb : c.code = cc) (hown : s.vm.findClass (cnm own) = some m.cls) (hts : ∀ w ∈ lw_g, w.before args s = true) (hd : decode cc pc = .ok (.laload, 1)) (hB : Bas D ca f n0 s) (hR : Rel D ca f n0 s σ H) (hS : va_S (fun q => n0 ≤ q) s.heap H locs) (h : hLal (pc + 1) ls st σ = some (o, pc', ls', st', σ')) (ho : allP o)
    (kW : ∀ (H' : Heap) (locs' : List Loc), Rel D ca f n0 s σ' H' → va_S (fun q => n0 ≤ q) s.heap H' locs' → σ'.1 = σ.1 → pc' = pc + 1 → ls' = ls → W p l e R s m args below meth c H' locs' k n Qf (F0 m pc' lsC (st'.map (cvv f)))) : W p l e R s m args below meth c H locs k n Qf (F0 m pc lsC (st.map (cvv f))) := by
  unfold hLal at h
  split at h
  · split at h
    · rename_i hsh
      cases h
      obtain ⟨-, a1, a2⟩ := hR.2.2.1 _ _ _ _ hsh
      exact va_lald hx hb (K_arr hB.1 a1 a2) hR.1 _ 0 (wld_at hsh) rfl ho hd (kW H locs hR hS rfl rfl rfl)
    · cases h
  · cases h

set_option maxHeartbeats 4000000 in
theorem hAal_ok (hx : p.tables.exec = Jvm.exec) (hb : c.code = cc) (hown : s.vm.findClass (cnm own) = some m.cls) (hts : ∀ w ∈ lw_g, w.before args s = true) (hd : decode cc pc = .ok (.aaload, 1)) (hB : Bas D ca f n0 s) (hR : Rel D ca f n0 s σ H) (hS : va_S (fun q => n0 ≤ q) s.heap H locs) (h : hAal (pc + 1) ls st σ = some (o, pc', ls', st', σ')) (ho : allP o)
    (kW : ∀ (H' : Heap) (locs' : List Loc), Rel D ca f n0 s σ' H' → va_S (fun q => n0 ≤ q) s.heap H' locs' → σ'.1 = σ.1 → pc' = pc + 1 → ls' = ls → W p l e R s m args below meth c H' locs' k n Qf (F0 m pc' lsC (st'.map (cvv f)))) : W p l e R s m args below meth c H locs k n Qf (F0 m pc lsC (st.map (cvv f))) := by
  unfold hAal at h
  split at h
  · split at h
    · rename_i hsh
      cases h
      obtain ⟨-, a1, a2⟩ := hR.2.2.1 _ _ _ _ hsh
      obtain ⟨ho1, ho2⟩ := ho
      obtain ⟨j', hj'⟩ := Option.isSome_iff_exists.mp ho2
      have kk := kW H locs hR hS rfl rfl rfl
      refine va_aldq hx hb (K_arr hB.1 a1 a2) hR.1 _ 0 (wld_at hsh) rfl ho1 hd ?_
      rw [hj'] at kk
      simp only [hj', Option.map_some]
      exact kk
    · cases h
  · cases h

set_option maxHeartbeats 4000000 in
theorem hIas_ok (hx : p.tables.exec = Jvm.exec) (hb : c.code = cc) (hown : s.vm.findClass (cnm own) = some m.cls) (hts : ∀ w ∈ lw_g, w.before args s = true) (hd : decode cc pc = .ok (.iastore, 1)) (hB : Bas D ca f n0 s) (hR : Rel D ca f n0 s σ H) (hS : va_S (fun q => n0 ≤ q) s.heap H locs) (h : hIas (pc + 1) ls st σ = some (o, pc', ls', st', σ')) (ho : allP o)
    (kW : ∀ (H' : Heap) (locs' : List Loc), Rel D ca f n0 s σ' H' → va_S (fun q => n0 ≤ q) s.heap H' locs' → σ'.1 = σ.1 → pc' = pc + 1 → ls' = ls → W p l e R s m args below meth c H' locs' k n Qf (F0 m pc' lsC (st'.map (cvv f)))) : W p l e R s m args below meth c H locs k n Qf (F0 m pc lsC (st.map (cvv f))) := by
  unfold hIas at h
  split at h
  · split at h
    · rename_i hsh
      cases h
      obtain ⟨-, a1, a2⟩ := hR.2.2.1 _ _ _ _ hsh
      refine va_iast hx hb (K_arr hB.1 a1 a2) hR.1 hR.2.1 hS _ 0 (wld_at hsh) rfl ho hd (fun H1 locs1 hP1 hD1 hS1 => ?_)
      refine kW H1 locs1 (Rel_set hR hsh (fun i hi => up2_ne hi) (fun _ _ => rfl) ?_ hP1 hD1 (at0 hB hS hS1)) hS1 rfl rfl rfl
      unfold cel
      rw [up2_eq]
      rfl
    · cases h
  · cases h

set_option maxHeartbeats 4000000 in
theorem hLas_ok (hx : p.tables.exec = Jvm.exec) (hb : c.code = cc) (hown : s.vm.findClass (cnm own) = some m.cls) (hts : ∀ w ∈ lw_g, w.before args s = true) (hd : decode cc pc = .ok (.lastore, 1)) (hB : Bas D ca f n0 s) (hR : Rel D ca f n0 s σ H) (hS : va_S (fun q => n0 ≤ q) s.heap H locs) (h : hLas (pc + 1) ls st σ = some (o, pc', ls', st', σ')) (ho : allP o)
    (kW : ∀ (H' : Heap) (locs' : List Loc), Rel D ca f n0 s σ' H' → va_S (fun q => n0 ≤ q) s.heap H' locs' → σ'.1 = σ.1 → pc' = pc + 1 → ls' = ls → W p l e R s m args below meth c H' locs' k n Qf (F0 m pc' lsC (st'.map (cvv f)))) : W p l e R s m args below meth c H locs k n Qf (F0 m pc lsC (st.map (cvv f))) := by
  unfold hLas at h
  split at h
  · split at h
    · rename_i hsh
      cases h
      obtain ⟨-, a1, a2⟩ := hR.2.2.1 _ _ _ _ hsh
      refine va_last hx hb (K_arr hB.1 a1 a2) hR.1 hR.2.1 hS _ 0 (wld_at hsh) rfl ho hd (fun H1 locs1 hP1 hD1 hS1 => ?_)
      refine kW H1 locs1 (Rel_set hR hsh (fun _ _ => rfl) (fun i hi => up2_ne hi) ?_ hP1 hD1 (at0 hB hS hS1)) hS1 rfl rfl rfl
      unfold cel
      rw [up2_eq]
      rfl
    · cases h
  · cases h

set_option maxHeartbeats 4000000 in
theorem hBas_ok (hx : p.tables.exec = Jvm.exec) (hb : c.code = cc) (hown : s.vm.findClass (cnm own) = some m.cls) (hts : ∀ w ∈ lw_g, w.before args s = true) (hd : decode cc pc = .ok (.bastore, 1)) (hB : Bas D ca f n0 s) (hR : Rel D ca f n0 s σ H) (hS : va_S (fun q => n0 ≤ q) s.heap H locs) (h : hBas (pc + 1) ls st σ = some (o, pc', ls', st', σ')) (ho : allP o)
    (kW : ∀ (H' : Heap) (locs' : List Loc), Rel D ca f n0 s σ' H' → va_S (fun q => n0 ≤ q) s.heap H' locs' → σ'.1 = σ.1 → pc' = pc + 1 → ls' = ls → W p l e R s m args below meth c H' locs' k n Qf (F0 m pc' lsC (st'.map (cvv f)))) : W p l e R s m args below meth c H locs k n Qf (F0 m pc lsC (st.map (cvv f))) := by
  unfold hBas at h
  split at h
  · split at h
    · rename_i hsh
      cases h
      obtain ⟨-, a1, a2⟩ := hR.2.2.1 _ _ _ _ hsh
      obtain ⟨ho1, ho2⟩ := ho
      have hnar : ∀ x : Int32, isB x → vp_nar .boolean x = x := by
        intro x hx
        rcases hx with rfl | rfl <;> decide
      refine va_zast hx hb (K_arr hB.1 a1 a2) hR.1 hR.2.1 hS _ 0 (wld_at hsh) rfl ho1 hd (fun H1 locs1 hP1 hD1 hS1 => ?_)
      rw [hnar _ ho2] at hP1 hD1
      refine kW H1 locs1 (Rel_set hR hsh (fun i hi => up2_ne hi) (fun _ _ => rfl) ?_ hP1 hD1 (at0 hB hS hS1)) hS1 rfl rfl rfl
      unfold cel
      rw [up2_eq]
      rfl
    · cases h
  · cases h

set_option maxHeartbeats 4000000 in
theorem hLen_ok (hx : p.tables.exec = Jvm.exec) (hb : c.code = cc) (hown : s.vm.findClass (cnm own) = some m.cls) (hts : ∀ w ∈ lw_g, w.before args s = true) (hd : decode cc pc = .ok (.arraylength, 1)) (hB : Bas D ca f n0 s) (hR : Rel D ca f n0 s σ H) (hS : va_S (fun q => n0 ≤ q) s.heap H locs) (h : hLen (pc + 1) ls st σ = some (o, pc', ls', st', σ')) (ho : allP o)
    (kW : ∀ (H' : Heap) (locs' : List Loc), Rel D ca f n0 s σ' H' → va_S (fun q => n0 ≤ q) s.heap H' locs' → σ'.1 = σ.1 → pc' = pc + 1 → ls' = ls → W p l e R s m args below meth c H' locs' k n Qf (F0 m pc' lsC (st'.map (cvv f)))) : W p l e R s m args below meth c H locs k n Qf (F0 m pc lsC (st.map (cvv f))) := by
  unfold hLen at h
  split at h
  · split at h
    · rename_i hsh
      cases h
      exact va_slen hx hb ((hR.2.2.2 _ _ hsh).kept (at0 hB hS va_S.rf)) (Nat.lt_of_lt_of_le hB.2.2.1 hB.2.1) (by have := hB.2.2.1; omega) hS hd (kW H locs hR hS rfl rfl rfl)
    · cases h
  · split at h
    · rename_i q hsh
      cases h
      obtain ⟨t, n', rs⟩ := q
      obtain ⟨ht4, a1, a2⟩ := hR.2.2.1 _ _ _ _ hsh
      have kk := kW H locs hR hS rfl rfl rfl
      match t, ht4, a1, a2, hsh with
      | 0, _, a1, a2, hsh => exact va_alen hx hb (K_arr hB.1 a1 a2) hR.1 _ 0 (wld_at hsh) rfl rfl hd kk
      | 1, _, a1, a2, hsh => exact va_alen hx hb (K_arr hB.1 a1 a2) hR.1 _ 0 (wld_at hsh) rfl rfl hd kk
      | 2, _, a1, a2, hsh => exact va_alen hx hb (K_arr hB.1 a1 a2) hR.1 _ 0 (wld_at hsh) rfl rfl hd kk
      | 3, _, a1, a2, hsh => exact va_alen hx hb (K_arr hB.1 a1 a2) hR.1 _ 0 (wld_at hsh) rfl rfl hd kk
      | t + 4, ht4, _, _, _ => exact absurd ht4 (by omega)
    · cases h
  · cases h

set_option maxHeartbeats 4000000 in
theorem hop_ok {ins : Instr} (hx : p.tables.exec = Jvm.exec) (hb : c.code = cc) (hown : s.vm.findClass (cnm own) = some m.cls) (hts : ∀ w ∈ lw_g, w.before args s = true) (hd : decode cc pc = .ok (ins, nx - pc)) (hn : lnI ins = 0 ∨ nx = pc + lnI ins) (hB : Bas D ca f n0 s) (hR : Rel D ca f n0 s σ H) (hS : va_S (fun q => n0 ≤ q) s.heap H locs) (h : hop own ins nx ls st σ = some (o, pc', ls', st', σ')) (ho : allP o)
    (kW : ∀ (H' : Heap) (locs' : List Loc), Rel D ca f n0 s σ' H' → va_S (fun q => n0 ≤ q) s.heap H' locs' → σ'.1 = σ.1 → ls' = ls → W p l e R s m args below meth c H' locs' k n Qf (F0 m pc' lsC (st'.map (cvv f)))) : W p l e R s m args below meth c H locs k n Qf (F0 m pc lsC (st.map (cvv f))) := by
  unfold hop at h
  split at h
  · obtain rfl := hn.resolve_left (by simp [lnI])
    exact hGet_ok hx hb hown hts (dec_of hd rfl) hB hR hS h ho (fun H1 l1 a b c _ d => kW H1 l1 a b c d)
  · obtain rfl := hn.resolve_left (by simp [lnI])
    exact hPut_ok hx hb hown hts (dec_of hd rfl) hB hR hS h ho (fun H1 l1 a b c _ d => kW H1 l1 a b c d)
  · obtain rfl := hn.resolve_left (by simp [lnI])
    exact hIal_ok hx hb hown hts (dec_of hd rfl) hB hR hS h ho (fun H1 l1 a b c _ d => kW H1 l1 a b c d)
  · obtain rfl := hn.resolve_left (by simp [lnI])
    exact hBal_ok hx hb hown hts (dec_of hd rfl) hB hR hS h ho (fun H1 l1 a b c _ d => kW H1 l1 a b c d)
  · obtain rfl := hn.resolve_left (by simp [lnI])
    exact hLal_ok hx hb hown hts (dec_of hd rfl) hB hR hS h ho (fun H1 l1 a b c _ d => kW H1 l1 a b c d)
  · obtain rfl := hn.resolve_left (by simp [lnI])
    exact hAal_ok hx hb hown hts (dec_of hd rfl) hB hR hS h ho (fun H1 l1 a b c _ d => kW H1 l1 a b c d)
  · obtain rfl := hn.resolve_left (by simp [lnI])
    exact hIas_ok hx hb hown hts (dec_of hd rfl) hB hR hS h ho (fun H1 l1 a b c _ d => kW H1 l1 a b c d)
  · obtain rfl := hn.resolve_left (by simp [lnI])
    exact hBas_ok hx hb hown hts (dec_of hd rfl) hB hR hS h ho (fun H1 l1 a b c _ d => kW H1 l1 a b c d)
  · obtain rfl := hn.resolve_left (by simp [lnI])
    exact hLas_ok hx hb hown hts (dec_of hd rfl) hB hR hS h ho (fun H1 l1 a b c _ d => kW H1 l1 a b c d)
  · obtain rfl := hn.resolve_left (by simp [lnI])
    exact hLen_ok hx hb hown hts (dec_of hd rfl) hB hR hS h ho (fun H1 l1 a b c _ d => kW H1 l1 a b c d)
  · cases h
end SoundH
