/-! what constructors do: new cells, references put into fields and rows -/
def refsOf (x : Shp) : List (Option Nat) := match x with
  | .inl o => o.2
  | .inr q => q.2.2
def wfB (sh : List Shp) : Bool := sh.all (fun x => (refsOf x).all (fun r => match r with
  | some j => Nat.blt j sh.length
  | none => true))
theorem wfB_ok {sh : List Shp} (h : wfB sh = true) {x : Shp} (hx : x ∈ sh) {k j : Nat} (hr : (refsOf x).getD k none = some j) : j < sh.length := by
  have h1 := List.all_eq_true.mp h x hx
  have hm : some j ∈ refsOf x := by
    rw [List.getD_eq_getElem?_getD] at hr
    cases hg : (refsOf x)[k]? with
    | none => rw [hg] at hr; cases hr
    | some y => rw [hg] at hr; cases hr; exact List.mem_of_getElem? hg
  have h2 := List.all_eq_true.mp h1 (some j) hm
  exact Nat.le_of_ble_eq_true h2
theorem fvl_f {f f' : Nat → Nat} {ci k : Nat} {rs : List (Option Nat)} {i : Nat → Int32} {l : Nat → Int64} (h : ∀ j, rs.getD k none = some j → f' j = f j) : fvl f' ci k rs i l = fvl f ci k rs i l := by
  unfold fvl
  split <;> first | rfl | skip
  cases hr : rs.getD k none with
  | none => rfl
  | some j => simp only [Option.map_some]; rw [h j hr]
theorem cel_f {f f' ca : Nat → Nat} {j : Nat} {x : Shp} {I : Nat → Nat → Int32} {L : Nat → Nat → Int64} (h : ∀ k i, (refsOf x).getD k none = some i → f' i = f i) : cel f' ca j x I L = cel f ca j x I L := by
  unfold cel
  split
  · rename_i o
    congr 2
    exact List.map_congr_left (fun k _ => fvl_f (h k))
  · rfl
  · rfl
  · rfl
  · rename_i t n rs _ _ _
    congr 7
    funext k
    cases hr : rs.getD k none with
    | none => rfl
    | some i => simp only [Option.map_some]; rw [h k i hr]
/-- the world with one more cell -/
theorem wld_push {f f' ca : Nat → Nat} {σ : St} {x : Shp} {I : Nat → Nat → Int32} {L : Nat → Nat → Int64} (h2 : 2 ≤ σ.1.length) (hwf : wfB σ.1 = true) (hf : ∀ j, j < σ.1.length → f' j = f j) (hI : ∀ i, i < σ.1.length → I i = σ.2.1 i) (hL : ∀ i, i < σ.1.length → L i = σ.2.2 i) :
    wld f' ca (σ.1 ++ [x], I, L) = wld f ca σ ++ [(f' σ.1.length, cel f' ca σ.1.length x I L)] := by
  apply List.ext_getElem?
  intro i
  have hlen : (σ.1 ++ [x]).length = σ.1.length + 1 := by simp
  by_cases hi : i + 2 < σ.1.length
  · rw [wld_get f' ca _ (by show i + 2 < (σ.1 ++ [x]).length; omega), List.getElem?_append_left (by rw [wld_len]; omega), wld_get f ca σ hi]
    have e1 : (σ.1 ++ [x]).getD (i + 2) sh0 = σ.1.getD (i + 2) sh0 := by
      rw [List.getD_eq_getElem?_getD, List.getD_eq_getElem?_getD, List.getElem?_append_left hi]
    show some (f' (i + 2), cel f' ca (i + 2) ((σ.1 ++ [x]).getD (i + 2) sh0) I L) = _
    rw [e1, hf _ hi, cel_congr (hI _ hi) (hL _ hi)]
    congr 2
    refine cel_f (fun k j hr => hf j (wfB_ok hwf ?_ hr))
    rw [List.getD_eq_getElem?_getD, List.getElem?_eq_getElem hi]
    exact List.getElem_mem hi
  · by_cases hi2 : i + 2 = σ.1.length
    · rw [wld_get f' ca _ (by show i + 2 < (σ.1 ++ [x]).length; omega), List.getElem?_append_right (by rw [wld_len]; omega), wld_len]
      have e1 : (σ.1 ++ [x]).getD (i + 2) sh0 = x := by
        rw [List.getD_eq_getElem?_getD, hi2, List.getElem?_append_right (Nat.le_refl _)]
        simp
      show some (f' (i + 2), cel f' ca (i + 2) ((σ.1 ++ [x]).getD (i + 2) sh0) I L) = _
      rw [e1, hi2, show i - (σ.1.length - 2) = 0 by omega]
      rfl
    · rw [List.getElem?_eq_none (by rw [wld_len]; show (σ.1 ++ [x]).length - 2 ≤ i; omega), List.getElem?_eq_none (by rw [List.length_append, wld_len]; simp; omega)]
def upF (f : Nat → Nat) (n q : Nat) : Nat → Nat := fun j => if j = n then q else f j
theorem upF_lt {f : Nat → Nat} {n q j : Nat} (h : j < n) : upF f n q j = f j := by unfold upF; rw [if_neg (by omega)]
theorem upF_eq {f : Nat → Nat} {n q : Nat} : upF f n q n = q := by unfold upF; rw [if_pos rfl]
theorem agr_push {σ : St} {x : Shp} {I : Nat → Nat → Int32} {L : Nat → Nat → Int64} {f : Nat → Nat} {q : Nat} (h2 : 2 ≤ σ.1.length) : agr σ (σ.1 ++ [x], I, L) f (upF f σ.1.length q) := by
  refine ⟨fun j hj => upF_lt hj, ?_, ?_, upF_lt (by omega), upF_lt (by omega)⟩
  · show σ.1.length ≤ (σ.1 ++ [x]).length
    simp
  · intro h
    have : (σ.1 ++ [x]).length = σ.1.length := h
    simp at this
def newM (σ : St) (x : Shp) : St := (σ.1 ++ [x], upR σ.2.1 σ.1.length (fun _ => 0), upR σ.2.2 σ.1.length (fun _ => 0))
theorem upR_lt {α : Type} {I : Nat → Nat → α} {n i : Nat} {g : Nat → α} (h : i < n) : upR I n g i = I i := by unfold upR; rw [if_neg (by omega)]
theorem upR_eq {α : Type} {I : Nat → Nat → α} {n : Nat} {g : Nat → α} : upR I n g n = g := by unfold upR; rw [if_pos rfl]
theorem fds_zero {f : Nat → Nat} {ci : Nat} {C : String} {T : u_T} {N : Nat} (hck : CK ci C T N) : ∃ ty : Nat → FieldType, (∀ k, k < N → parseFieldDescriptor (T k).2.2.1 = some (ty k)) ∧ ∀ j, j < N → defaultValue (ty j) = vp_V (fds f ci [] (fun _ => 0) (fun _ => 0)) j := by
  obtain ⟨-, ⟨ty, c2, c2'⟩, -, -, -, c6, -⟩ := hck
  refine ⟨ty, c2, fun j hj => ?_⟩
  unfold vp_V
  rw [List.getD_eq_getElem?_getD, fds_get (by rw [← c6]; exact hj)]
  obtain ⟨g0, g1, g2, g3, g4⟩ := c2' j hj
  show _ = fvl f ci j [] (fun _ => 0) (fun _ => 0)
  unfold fvl
  split
  · rename_i e; rw [g0 e]; rfl
  · rename_i e; rw [g1 e]; rfl
  · rename_i e; rw [g2 e]; rfl
  · rename_i e0 e1 e2
    have h3 : (fty ci j).1 = 3 := by
      have := e0; have := e1; have := e2
      match hq : (fty ci j).1, g4 with
      | 0, _ => exact absurd hq e0
      | 1, _ => exact absurd hq e1
      | 2, _ => exact absurd hq e2
      | 3, _ => rfl
    rcases g3 h3 with ⟨n, e⟩ | ⟨t, e⟩ <;> rw [e] <;> rfl
section NewRows
variable {R : Room} {M : Mth} {k n pc nx tg idx : Nat} {ls st rest : List Value} {σ : St} {Q : Option Value → St → Prop}
/-- from a world with one more cell on: the rest of the walk -/
theorem push_W {p : Program} {l : Launch} {e : Env} {s : State} {m : MethodId} {args : Array Value} {below : List Frame} {meth : Method} {c : Code} {D : va_G} {ca f : Nat → Nat} {n0 : Nat} {Qf : State → Prop} {H1 : Heap} {locs1 : List Loc} {lsC : Array Slot} {x : Shp} {q k' n' : Nat} (C : Cx M p s m args meth c D ca f n0) (HF : HFv R M Q p l e s m args below meth c D ca n0 Qf f σ) (h2 : 2 ≤ σ.1.length) (hls : ∀ v ∈ ls, inR σ.1.length v) (hst : ∀ v ∈ st, inR σ.1.length v) (hL : LR f (mml M) lsC ls) (hV : V R M k' n' nx ls (.ref σ.1.length :: st) (newM σ x) Q)
    (hR1 : Rel D ca (upF f σ.1.length q) n0 s (newM σ x) H1) (hS1 : va_S (fun q => n0 ≤ q) s.heap H1 locs1) : W p l e R s m args below meth c H1 locs1 k' n' Qf (F0 m nx lsC (.ref q :: st.map (cvv f))) := by
  have ha : agr σ (newM σ x) f (upF f σ.1.length q) := agr_push h2
  obtain ⟨c1, c2, c3, c4, c5, c6, c7, c8, c9, c10⟩ := C
  have := hV p l e s m args below meth c D ca (upF f σ.1.length q) n0 Qf ⟨c1, c2, c3, c4, c5, c6, c7, c8, c9, c10.f' ha.2.2.2.1 ha.2.2.2.2⟩ (fun f2 σ2 r2 H2 locs2 k2 n2 pc2 ls2 ins2 ha2 => HF f2 σ2 r2 H2 locs2 k2 n2 pc2 ls2 ins2 (ha.tr ha2)) H1 locs1 lsC hR1 hS1 (hL.agr ha.1 hls)
  rw [List.map_cons, List.map_congr_left (fun v hv => cvv_agr ha.1 (hst v hv))] at this
  have e1 : cvv (upF f σ.1.length q) (.ref σ.1.length) = .ref q := by show Value.ref _ = _; rw [upF_eq]
  rw [e1] at this
  exact this
theorem Rel_push {D : va_G} {ca f : Nat → Nat} {n0 q : Nat} {s : State} {H H1 : Heap} {x : Shp} (h2 : 2 ≤ σ.1.length) (hwf : wfB σ.1 = true) (hR : Rel D ca f n0 s σ H) (hP1 : va_P D vwCl (wld f ca σ ++ [(q, cel (upF f σ.1.length q) ca σ.1.length x (fun _ _ => 0) (fun _ _ => 0))]) H1) (hD1 : va_D (fun q => n0 ≤ q) (wld f ca σ ++ [(q, cel (upF f σ.1.length q) ca σ.1.length x (fun _ _ => 0) (fun _ _ => 0))])) (hq : H1[f 0]? = H[f 0]?)
    (hx : ∀ t n rs, x = .inr (t, n, rs) → t < 4 ∧ ArrOfT s (ca t) (tyOf t) ∧ va_RA s (ca t) (tyOf t)) : Rel D ca (upF f σ.1.length q) n0 s (newM σ x) H1 := by
  have hw : wld (upF f σ.1.length q) ca (newM σ x) = wld f ca σ ++ [(q, cel (upF f σ.1.length q) ca σ.1.length x (fun _ _ => 0) (fun _ _ => 0))] := by
    unfold newM
    rw [wld_push h2 hwf (fun j hj => upF_lt hj) (fun i hi => upR_lt hi) (fun i hi => upR_lt hi), upF_eq, cel_congr (I' := fun _ _ => 0) (L' := fun _ _ => 0) upR_eq upR_eq]
  rw [← hw] at hP1 hD1
  refine ⟨hP1, hD1, fun j t n' rs hs => ?_, fun n' rs hs => ?_⟩
  · have hs : (σ.1 ++ [x])[j + 2]? = some (.inr (t, n', rs)) := hs
    by_cases hj : j + 2 < σ.1.length
    · rw [List.getElem?_append_left hj] at hs
      exact hR.2.2.1 j t n' rs hs
    · rw [List.getElem?_append_right (by omega)] at hs
      have hz : j + 2 - σ.1.length < 1 := (List.getElem?_eq_some_iff.mp hs).1
      rw [show j + 2 - σ.1.length = 0 by omega] at hs
      cases hs
      exact hx _ _ _ rfl
  · have hs : (σ.1 ++ [x])[0]? = some (.inr (9, n', rs)) := hs
    rw [List.getElem?_append_left (by omega)] at hs
    have h9 := (hR.2.2.2 n' rs hs).kept hq
    rw [upF_lt (by omega)]
    show va_X (f 0) n' (upR σ.2.1 σ.1.length (fun _ => 0) 0) s H1
    rw [upR_lt (by omega)]
    exact h9
theorem v_new {ci : Nat} (hl : lk2 (mtab M) pc = some (.new idx, nx, tg)) (hm : nlk M.1 idx = some ci) (h2 : 2 ≤ σ.1.length) (hwf : wfB σ.1 = true) (hls : ∀ v ∈ ls, inR σ.1.length v) (hst : ∀ v ∈ st, inR σ.1.length v) (hk : k + 1 ≤ R.cells) (hn : n + nmF ci ≤ R.slots) (hV : V R M (k + 1) (n + nmF ci) nx ls (.ref σ.1.length :: st) (newM σ (.inl (ci, []))) Q) : V R M k n pc ls st σ Q := by
  intro p l e s m args below meth c D ca f n0 Qf C HF H locs lsC hR hS hL
  have C' := C
  obtain ⟨hx, hb, hml, hrt, hown, hts, hlk, hin, hT, hB⟩ := C'
  obtain ⟨hd, hn', -⟩ := tab_ok hT hl
  obtain rfl := hn'.resolve_left (by simp [lnI])
  obtain ⟨C0, T, N, hc, w1, w2, w3⟩ := nk_all M.1 _ (lk2_mem hm)
  have hck := ck_all _ _ _ _ hc
  have c6 := hck.2.2.2.2.2.1
  have hnn : n + N ≤ R.slots := by rw [c6]; exact hn
  obtain ⟨ty, t1, t2⟩ := fds_zero (f := f) hck
  refine va_new (ci := ci) (fs := fds f ci [] (fun _ => 0) (fun _ => 0)) hx hb hts hck.1 ty t1 hown (hts _ w1) (hts _ w2) (hts _ w3) hB.1 hR.1 hR.2.1 hS (fun q h => Nat.le_trans hB.2.1 h) hc t2 hk hnn (dec_of hd rfl) (fun q H1 hP1 hD1 hS1 => ?_)
  have ec : cel (upF f σ.1.length q) ca σ.1.length (.inl (ci, [])) (fun _ _ => 0) (fun _ _ => 0) = .inr (ci, fds f ci [] (fun _ => 0) (fun _ => 0)) := by
    rw [cel_f (f := f) (fun k i h => by simp [refsOf] at h)]
    rfl
  rw [c6]
  rw [← ec] at hP1 hD1
  exact push_W C HF h2 hls hst hL hV (Rel_push h2 hwf hR hP1 hD1 (at0 hB hS hS1) (fun t n rs h => by cases h)) hS1
def atTy (t : Nat) : ArrayType := match t with
  | 0 => .int
  | 1 => .long
  | _ => .boolean
theorem v_newarr {t : Nat} {cnt : Int32} {N' : Nat} (ht : t < 3) (hl : lk2 (mtab M) pc = some (.newarray (atTy t), nx, tg)) (hc0 : ¬ cnt < 0) (hN : cnt.toNatClampNeg = N') (hb8 : N' ≤ 10000) (h2 : 2 ≤ σ.1.length) (hwf : wfB σ.1 = true) (hls : ∀ v ∈ ls, inR σ.1.length v) (hst : ∀ v ∈ rest, inR σ.1.length v) (hk : k + 1 ≤ R.cells) (hn : n + N' ≤ R.slots) (hV : V R M (k + 1) (n + N') nx ls (.ref σ.1.length :: rest) (newM σ (.inr (t, N', []))) Q) : V R M k n pc ls (.int cnt :: rest) σ Q := by
  intro p l e s m args below meth c D ca f n0 Qf C HF H locs lsC hR hS hL
  have C' := C
  obtain ⟨hx, hb, hml, hrt, hown, hts, hlk, hin, hT, hB⟩ := C'
  obtain ⟨hd, hn', -⟩ := tab_ok hT hl
  obtain rfl := hn'.resolve_left (by simp [lnI])
  have key : ∀ (a0 : vp_A), (Cond.arrayClass (newarray.typeOf (atTy t))) ∈ lw_g → newarray.typeOf (atTy t) = tyOf t → (∀ cA : ClassId, vp_cell cA a0 = arrV cA N' (fun _ => defaultValue (tyOf t))) → N' * componentBytes (tyOf t) ≤ 536870912 → (∀ cA : Nat, cA = ca t → (.inl (cA, a0) : va_E) = cel f ca σ.1.length (.inr (t, N', [])) (fun _ _ => 0) (fun _ _ => 0)) → (∀ cA, va_RA s cA (tyOf t) → s.vm.findClass ("[" ++ (tyOf t).toString) = some cA) → W p l e R s m args below meth c H locs k n Qf (F0 m pc lsC ((Value.int cnt :: rest).map (cvv f))) := by
    intro a0 g1 g2 g3 g4 g5 g6
    refine va_newa (a0 := a0) hx hb (hts _ g1) g2 hB.1 hR.1 hR.2.1 hS (fun q h => Nat.le_trans hB.2.1 h) g3 hc0 hN g4 hk hn (dec_of hd rfl) (fun q cA H1 hK1 hP1 hD1 hS1 => ?_)
    obtain ⟨a1, a2⟩ := hK1.2 0 (cA, tyOf t) rfl
    have eca : cA = ca t := hB.2.2.2.1 t cA (by omega) (g6 cA a2)
    have ec : cel (upF f σ.1.length q) ca σ.1.length (.inr (t, N', [])) (fun _ _ => 0) (fun _ _ => 0) = .inl (cA, a0) := by
      rw [cel_f (f := f) (fun k i h => by simp [refsOf] at h), g5 cA eca]
    rw [← ec] at hP1 hD1
    refine push_W C HF h2 hls hst hL hV (Rel_push h2 hwf hR hP1 hD1 (at0 hB hS hS1) (fun t' n' rs h => ?_)) hS1
    cases h
    subst eca
    exact ⟨by omega, a1, a2⟩
  match t, ht, key with
  | 0, _, key => exact key (N', .inl (fun _ => 0)) acw.1 rfl (fun _ => rfl) (by show N' * 4 ≤ _; omega) (fun cA e => by subst e; rfl) (fun cA h => h)
  | 1, _, key => exact key (N', .inr (.inl (fun _ => 0))) acw.2.1 rfl (fun _ => rfl) (by show N' * 8 ≤ _; omega) (fun cA e => by subst e; rfl) (fun cA h => h)
  | 2, _, key => exact key (N', .inl (fun _ => 0)) acw.2.2 rfl (fun _ => rfl) (by show N' * 1 ≤ _; omega) (fun cA e => by subst e; rfl) (fun cA h => h)
theorem v_newq {cnt : Int32} {N' : Nat} (hl : lk2 (mtab M) pc = some (.anewarray idx, nx, tg)) (hm : nlk M.1 idx = some 5) (hc0 : ¬ cnt < 0) (hN : cnt.toNatClampNeg = N') (hb8 : N' ≤ 10000) (h2 : 2 ≤ σ.1.length) (hwf : wfB σ.1 = true) (hls : ∀ v ∈ ls, inR σ.1.length v) (hst : ∀ v ∈ rest, inR σ.1.length v) (hk : k + 1 ≤ R.cells) (hn : n + N' ≤ R.slots) (hV : V R M (k + 1) (n + N') nx ls (.ref σ.1.length :: rest) (newM σ (.inr (3, N', []))) Q) : V R M k n pc ls (.int cnt :: rest) σ Q := by
  intro p l e s m args below meth c D ca f n0 Qf C HF H locs lsC hR hS hL
  have C' := C
  obtain ⟨hx, hb, hml, hrt, hown, hts, hlk, hin, hT, hB⟩ := C'
  obtain ⟨hd, hn', -⟩ := tab_ok hT hl
  obtain rfl := hn'.resolve_left (by simp [lnI])
  obtain ⟨C0, T, N, hc, w1, -, -⟩ := nk_all M.1 _ (lk2_mem hm)
  cases hc
  refine va_newq hx hb hown (hts _ w1) hB.2.2.2.2.2.2.2.2.1 hB.1 hR.1 hR.2.1 hS (fun q h => Nat.le_trans hB.2.1 h) hc0 hN (by omega) hk hn (dec_of hd rfl) (fun q cA H1 hK1 hP1 hD1 hS1 => ?_)
  obtain ⟨a1, a2⟩ := hK1.2 0 (cA, .object RX5) rfl
  have eca : cA = ca 3 := hB.2.2.2.1 3 cA (by omega) (by obtain ⟨_, _, _, _, _, h4⟩ := a2; exact h4)
  have ec : cel (upF f σ.1.length q) ca σ.1.length (.inr (3, N', [])) (fun _ _ => 0) (fun _ _ => 0) = .inl (cA, N', .inr (.inr (.inr (.inr (fun _ => none))))) := by
    rw [cel_f (f := f) (fun k i h => by simp [refsOf] at h), eca]
    rfl
  rw [← ec] at hP1 hD1
  refine push_W C HF h2 hls hst hL hV (Rel_push h2 hwf hR hP1 hD1 (at0 hB hS hS1) (fun t' n' rs h => ?_)) hS1
  cases h
  subst eca
  exact ⟨by omega, a1, a2⟩
def setO (rs : List (Option Nat)) (i : Nat) (v : Option Nat) : List (Option Nat) := match rs, i with
  | [], 0 => [v]
  | [], i + 1 => none :: setO [] i v
  | _ :: r, 0 => v :: r
  | x :: r, i + 1 => x :: setO r i v
theorem setO_get (rs : List (Option Nat)) (i : Nat) (v : Option Nat) : ∀ j, (setO rs i v).getD j none = if j = i then v else rs.getD j none := by
  induction rs, i using setO.induct with
  | case1 => intro j; unfold setO; cases j <;> simp
  | case2 i ih => intro j; unfold setO; cases j with
    | zero => simp
    | succ j => simp only [List.getD_cons_succ, ih j]; simp
  | case3 x r => intro j; unfold setO; cases j <;> simp
  | case4 x r i ih => intro j; unfold setO; cases j with
    | zero => simp
    | succ j => simp only [List.getD_cons_succ, ih j]; simp
theorem Rel_sh {D : va_G} {ca f : Nat → Nat} {n0 : Nat} {s : State} {H H1 : Heap} {j : Nat} {x x' : Shp} {e : va_E} (hR : Rel D ca f n0 s σ H) (hsh : σ.1[j + 2]? = some x) (he : e = cel f ca (j + 2) x' σ.2.1 σ.2.2) (hx : ∀ t n rs, x' = .inr (t, n, rs) → t < 4 ∧ ArrOfT s (ca t) (tyOf t) ∧ va_RA s (ca t) (tyOf t)) (hP1 : va_P D vwCl ((wld f ca σ).set j (f (j + 2), e)) H1) (hD1 : va_D (fun q => n0 ≤ q) ((wld f ca σ).set j (f (j + 2), e))) (hq : H1[f 0]? = H[f 0]?) : Rel D ca f n0 s (σ.1.set (j + 2) x', σ.2) H1 := by
  have hlt := lt_of hsh
  have hw : (wld f ca σ).set j (f (j + 2), e) = wld f ca (σ.1.set (j + 2) x', σ.2) := by
    refine wld_set hlt (by simp) (fun i hi => ?_) (fun _ _ => rfl) (fun _ _ => rfl) ?_
    · show (σ.1.set (j + 2) x').getD i sh0 = _
      rw [List.getD_eq_getElem?_getD, List.getD_eq_getElem?_getD, List.getElem?_set_ne (fun h => hi h.symm)]
    · rw [he]
      show _ = cel f ca (j + 2) ((σ.1.set (j + 2) x').getD (j + 2) sh0) σ.2.1 σ.2.2
      rw [List.getD_eq_getElem?_getD, List.getElem?_set_self hlt]
      rfl
  rw [hw] at hP1 hD1
  refine ⟨hP1, hD1, fun i t n' rs hs => ?_, fun n' rs hs => ?_⟩
  · have hs : (σ.1.set (j + 2) x')[i + 2]? = some (.inr (t, n', rs)) := hs
    by_cases hi : j + 2 = i + 2
    · rw [hi, List.getElem?_set_self (by omega)] at hs
      cases hs
      exact hx _ _ _ rfl
    · rw [List.getElem?_set_ne hi] at hs
      exact hR.2.2.1 i t n' rs hs
  · have hs : (σ.1.set (j + 2) x')[0]? = some (.inr (9, n', rs)) := hs
    rw [List.getElem?_set_ne (by omega)] at hs
    exact (hR.2.2.2 n' rs hs).kept hq
theorem set_agr {j : Nat} {x' : Shp} {σ'' : St} {f f' : Nat → Nat} (ha : agr (σ.1.set (j + 2) x', σ.2) σ'' f f') : agr σ σ'' f f' := by
  obtain ⟨a1, a2, a3, a4, a5⟩ := ha
  have hl : (σ.1.set (j + 2) x').length = σ.1.length := by simp
  have e : ((σ.1.set (j + 2) x', σ.2) : St).1.length = σ.1.length := hl
  rw [e] at a1 a2 a3
  exact ⟨a1, a2, a3, a4, a5⟩
theorem v_putR {j v ci kf : Nat} {rs : List (Option Nat)} (hl : lk2 (mtab M) pc = some (.putfield idx, nx, tg)) (hm : flk M.1 idx = some (ci, kf)) (hsh : σ.1[j + 2]? = some (.inl (ci, rs))) (hty : fty ci kf = (3, true)) (hin2 : (my M).name = "<init>") (hci : M.1 = ci) (hV : V R M k n nx ls rest (σ.1.set (j + 2) (.inl (ci, setO rs kf (some v))), σ.2) Q) : V R M k n pc ls (.ref v :: .ref (j + 2) :: rest) σ Q := by
  intro p l e s m args below meth c D ca f n0 Qf C HF H locs lsC hR hS hL
  have C' := C
  obtain ⟨hx, hb, hml, hrt, hown, hts, hlk, hin, hT, hB⟩ := C'
  obtain ⟨hd, hn', -⟩ := tab_ok hT hl
  obtain rfl := hn'.resolve_left (by simp [lnI])
  obtain ⟨C0, T, N, hc, hk, hlink⟩ := fp_all M.1 _ (lk2_mem hm) hci.symm
  obtain ⟨c1, ⟨ty, c2, c2'⟩, c3, c4, c5, c6, c7⟩ := ck_all _ _ _ _ hc
  have hlink : Cond.fieldLink (cnm M.1) idx (T kf).1 (T kf).2.1 (T kf).2.2.1 ∈ lw_g := hlink
  have hk : kf < N := hk
  have hkn : kf < nmF ci := by rw [← c6]; exact hk
  have he : (wld f ca σ)[j]? = some (f (j + 2), .inr (ci, fds f ci rs (σ.2.1 (j + 2)) (σ.2.2 (j + 2)))) := by rw [wld_at hsh]; rfl
  have hfin : (T kf).2.2.2 = true := by rw [c4 kf hk, hty]
  have hty3 := (c2' kf hk).2.2.2.1 (by rw [hty])
  refine va_putF (v := .ref (f v)) (ty := ty kf) hx hb hts c1 ty c2 c3 hown hB.1 hR.1 hR.2.1 hS j he hc kf hk (hts _ hlink) (fun _ h => h) hfin (hin hin2) (by rw [c5 kf hk, c7, hci]) (c2 kf hk) ?_ ?_ (by rw [fds_len]; exact hkn) (dec_of hd rfl) (fun H1 locs1 hP1 hD1 hS1 => ?_)
  · rcases hty3 with ⟨z, e⟩ | ⟨z, e⟩ <;> rw [e] <;> rfl
  · rcases hty3 with ⟨z, e⟩ | ⟨z, e⟩ <;> rw [e] <;> rfl
  · refine hV p l e s m args below meth c D ca f n0 Qf C (fun f' σ'' r H'' locs'' k' n' pc'' ls'' ins' ha => HF f' σ'' r H'' locs'' k' n' pc'' ls'' ins' (set_agr ha)) H1 locs1 lsC (Rel_sh hR hsh ?_ (fun t n rs h => by cases h) hP1 hD1 (at0 hB hS hS1)) hS1 hL
    rw [fds_set (rs' := setO rs kf (some v)) (i' := σ.2.1 (j + 2)) (l' := σ.2.2 (j + 2)) hkn (by unfold fvl; rw [hty]; show va_rf (((setO rs kf (some v)).getD kf none).map f) = _; rw [setO_get, if_pos rfl]; rfl) (fun q hq => by rw [setO_get, if_neg hq]) (fun _ _ => rfl) (fun _ _ => rfl)]
    rfl
theorem v_astR {j v ci na : Nat} {rs rv : List (Option Nat)} {i : Int32} (hl : lk2 (mtab M) pc = some (.aastore, nx, tg)) (hsh : σ.1[j + 2]? = some (.inr (3, na, rs))) (hv : σ.1[v + 2]? = some (.inl (5, rv))) (hi : vp_in i na) (hV : V R M k n nx ls rest (σ.1.set (j + 2) (.inr (3, na, setO rs i.toNatClampNeg (some (v + 2)))), σ.2) Q) : V R M k n pc ls (.ref (v + 2) :: .int i :: .ref (j + 2) :: rest) σ Q := by
  intro p l e s m args below meth c D ca f n0 Qf C HF H locs lsC hR hS hL
  have C' := C
  obtain ⟨hx, hb, hml, hrt, hown, hts, hlk, hin, hT, hB⟩ := C'
  obtain ⟨hd, hn', -⟩ := tab_ok hT hl
  obtain rfl := hn'.resolve_left (by simp [lnI])
  obtain ⟨a0, a1, a2⟩ := hR.2.2.1 _ _ _ _ hsh
  refine va_astq (r := (RX5, TX5, 13)) hx hb (K_arr hB.1 a1 a2) hR.1 hR.2.1 hS j 0 v 5 (wld_at hsh) rfl (wld_at hv) rfl hi (dec_of hd rfl) (fun H1 locs1 hP1 hD1 hS1 => ?_)
  refine hV p l e s m args below meth c D ca f n0 Qf C (fun f' σ'' r H'' locs'' k' n' pc'' ls'' ins' ha => HF f' σ'' r H'' locs'' k' n' pc'' ls'' ins' (set_agr ha)) H1 locs1 lsC (Rel_sh hR hsh ?_ (fun t n rs h => by cases h; exact ⟨a0, a1, a2⟩) hP1 hD1 (at0 hB hS hS1)) hS1 hL
  show _ = (.inl (ca 3, na, .inr (.inr (.inr (.inr (fun k => ((setO rs i.toNatClampNeg (some (v + 2))).getD k none).map f))))) : va_E)
  congr 7
  funext q
  rw [setO_get]
  unfold va_up
  by_cases hq : q = i.toNatClampNeg
  · rw [if_pos hq, if_pos hq]; rfl
  · rw [if_neg hq, if_neg hq]
theorem v_obj {v : Nat} (hl : lk2 (mtab M) pc = some (.invokespecial idx, nx, tg)) (hm : lk2 (obT M.1) idx = some 0) (hf : 1 ≤ R.frames) (hlo : catS rest + 12 ≤ R.locals) (hV : V R M k n nx ls rest σ Q) : V R M k n pc ls (.ref v :: rest) σ Q := by
  intro p l e s m args below meth c D ca f n0 Qf C HF H locs lsC hR hS hL
  have C' := C
  obtain ⟨hx, hb, hml, hrt, hown, hts, hlk, hin, hT, hB⟩ := C'
  obtain ⟨hd, hn', -⟩ := tab_ok hT hl
  obtain rfl := hn'.resolve_left (by simp [lnI])
  have hlink : Cond.methodLink (cnm M.1) idx objectInit ∈ lw_g := ob_all M.1 _ (lk2_mem hm)
  exact W.objInit hx hb hown (hts _ hlink) (hts _ nwo.1) (hts _ nwo.2) rfl (hL.sz hml).symm rfl (dec_of hd rfl) hf (by rw [catS_map]; show 2 * 0 + _ + 12 ≤ _; omega) (hV p l e s m args below meth c D ca f n0 Qf C HF H locs lsC hR hS hL)
end NewRows
