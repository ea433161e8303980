/-! the law's entry: what every state carries holds there; the claim out of the loop -/
def inI (xs : Nat → Int32) : Nat → Nat → Int32 := fun a b => if a = 0 then xs b else 0
theorem inI_Z (xs : Nat → Int32) : Zr 2 (inI xs) := fun a ha b => by unfold inI; rw [if_neg (by omega)]
theorem str_el : ∀ j, j < 91 → Cond.eq (.elem (.field (.string "VerdictFirst$Tape" 62) "java/lang/String" "value" "[B") (.int (Int32.ofNat j))) (.int (wB.getD j 0)) ∈ flatC (Jvm.Cond.and given_1 narrow_1) := by decide +kernel
set_option maxHeartbeats 4000000 in
theorem bas_entry {p : Program} {s : State} {m : MethodId} {meth : Method} {c : Code} {b L : Nat} {xs : Nat → Int32} (C0 : lw_At p s m meth c b L xs) : ∃ (D : va_G) (ca f : Nat → Nat), f 0 = b ∧ Bas D ca f s.heap.size s := by
  obtain ⟨hx, hb, hr, hml, hown, hts, hX, hbl, hlk, hgv⟩ := C0
  have hg : ∀ w ∈ lw_g, w.before #[Value.ref b] s = true := fun w h => hts w (List.mem_filter.mp h).1
  have hs := flat_of_before _ hgv
  have hA : ∀ a : Nat, a < s.heap.size → ¬ (fun q : Nat => s.heap.size ≤ q) a := fun a h => Nat.not_le.mpr h
  obtain ⟨dC, dI, hKc⟩ : ∃ (dC : Nat → ClassId) (dI : Nat → Nat → Nat), ∀ (k : Nat) (q : vw_C), vwCl[k]? = some q → u_Kn s q.1 q.2.1 q.2.2 (dC k) (dI k) := by
    have h1 : ∀ k : Nat, ∃ z : ClassId × (Nat → Nat), ∀ q : vw_C, vwCl[k]? = some q → u_Kn s q.1 q.2.1 q.2.2 z.1 z.2 := by
      intro k
      cases hq : vwCl[k]? with
      | none => exact ⟨(0, fun _ => 0), fun q h => by cases h⟩
      | some q =>
        obtain ⟨C, T, N⟩ := q
        have hck := ck_all _ _ _ _ hq
        obtain ⟨cC, iS, h⟩ := u_known (C := C) (T := T) (N := N) (n := N) hg hck.1 (hg _ (inst_all k C T N hq))
        exact ⟨(cC, iS), fun q h' => by cases h'; exact h⟩
    obtain ⟨z, hz⟩ := Classical.axiomOfChoice h1
    exact ⟨fun k => (z k).1, fun k => (z k).2, hz⟩
  obtain ⟨adK, adV, hSt, hEv⟩ := vk_Sof (args := #[Value.ref b]) (s := s) (N := 1) (tm := fun _ => .string "VerdictFirst$Tape" 62) (len := [91]) (byt := [wB]) (A := fun q => s.heap.size ≤ q) (by decide) (fun i hi => hs _ (by decide +kernel)) (fun i hi => hs _ (by decide +kernel)) (fun i hi => hs _ (by decide +kernel)) (fun i hi => by (have h0 : i = 0 := (by omega)); subst h0; exact hs _ (by decide +kernel)) (fun i hi j hj => by (have h0 : i = 0 := (by omega)); subst h0; exact hs _ (str_el j hj)) (fun i j hi hj hne => absurd (by omega) hne) hA
  refine ⟨(dC, dI), fun t => (s.vm.findClass ("[" ++ (tyOf t).toString)).getD 0, fun j => if j = 0 then b else adK 0, rfl, ⟨hKc, fun k q h => by simp at h⟩, Nat.le_refl _, hbl, ?_, ?_, ?_, ?_, ?_, ?_, ?_⟩
  · intro t cA ht he
    show cA = (s.vm.findClass ("[" ++ (tyOf t).toString)).getD 0
    rw [he]; rfl
  · exact vk_R.of (A := #[Value.ref b]) (hts _ strw) (hEv 0 (by decide))
  · refine ⟨adV, ?_⟩
    have e : (fun _ : Nat => (fun j : Nat => if j = 0 then b else adK 0) 1) = fun _ => adK 0 := rfl
    refine ⟨fun i hi => ?_, fun i j hi hj _ => by omega⟩
    obtain rfl : i = 0 := by omega
    exact hSt.1 0 (by decide)
  · exact va_Zof (hts _ lsw1) (hg _ sn_String) (va_eqt (hs _ (by decide +kernel))) hA
  · intro w hw
    have h2 := (List.mem_filter.mp hw)
    refine va_Nw.of ?_ (hts w h2.1)
    have h3 := h2.2
    cases w <;> first | rfl | cases h3
  · exact va_AO.of (hts _ aow)
  · exact va_Zqof (hts _ lsw2) (hg _ sn_Preconditions) (hs _ (by decide +kernel)) hA
set_option maxHeartbeats 4000000 in
theorem whole_start_open (K : ∀ (N : Nat) (xs : Nat → Int32), N ≤ 384 → VL N 18 [.ref 0, .ref 2, .ref 130, .int 0] [] (wI0 (inI xs), L0) (fun r _ => r = some (.int 1))) {p : Program} {e : Env} {s : State} {m : MethodId} {below : List Frame} {meth : Method} {c : Code} (l : Launch) {b L : Nat} {xs : Nat → Int32} (hL : L ≤ 384) (C0 : lw_At p s m meth c b L xs) : W p l e room_1 s m #[Value.ref b] below meth c s.heap [] 0 0 (lw_Z below #[Value.ref b] s) (entryFrame m ([Value.ref b] : List Value).toArray 4) := by
  obtain ⟨D, ca, f, hf0, hB⟩ := bas_entry C0
  obtain ⟨hx, hb, hr, hml, hown, hts, hX, hbl, hlk, hgv⟩ := C0
  have hg : ∀ w ∈ lw_g, w.before #[Value.ref b] s = true := fun w h => hts w (List.mem_filter.mp h).1
  have hl := lv_entry ([.ref b]) (n := 4) (Nat.le_of_ble_eq_true rfl)
  rw [lg_entry_eq]
  have hV := law_start (N := L) (I := inI xs) (inI_Z xs) (K L xs hL)
  have := hV p l e s m #[Value.ref b] below meth c D ca f s.heap.size (lw_Z below #[Value.ref b] s) ⟨hx, hb, hml, hr, hown, hg, hlk, fun h => absurd h (by decide), okL_law, hB⟩ ?_ s.heap [] _ ?_ va_S.rf ⟨hl.1, hl.2.1, fun i v hi hv => ?_⟩
  · exact this
  · intro f' σ' r H' locs' k' n' pc' ls' ins ha hq hrk hdc hR' hS' hk hn
    obtain ⟨μ', -, hq⟩ := hq
    subst hq
    have hi : ins = .ireturn := by
      unfold rok at hrk
      split at hrk <;> first | rfl | (rename_i h1 h2; cases h2) | exact hrk.elim | (rename_i h2; cases h2) | skip
      all_goals first | rfl | contradiction
    subst hi
    refine va_forget (fun q h => hS'.2.2 q h) ?_
    refine W.widen (k := 600000) (n := 7302250) hk hn ?_
    exact lw_ret hx hb hr hlk hdc
  · refine ⟨fun k q h => ?_, ⟨fun i j p q h => ?_, fun k q h => ?_⟩, fun j t n rs h => ?_, fun n rs h => ?_⟩
    · have h : ([] : va_W)[k]? = some q := h
      simp at h
    · have h : ([] : va_W)[i]? = some p := h
      simp at h
    · have h : ([] : va_W)[k]? = some q := h
      simp at h
    · have h : ([.inr (9, L, []), .inr (8, 91, [])] : List Shp)[j + 2]? = some (.inr (t, n, rs)) := h
      simp at h
    · have h : ([.inr (9, L, []), .inr (8, 91, [])] : List Shp)[0]? = some (.inr (9, n, rs)) := h
      cases h
      rw [hf0]
      exact hX
  · match i, hi with
    | 0, hi =>
      cases hi
      have := hl.2.2 (0, .ref b) (by simp [lv_args])
      subst hf0
      exact this
    | i + 1, hi => cases hi
