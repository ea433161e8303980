/-! members of the library that are taken as they are: max, min, arraycopy -/
section Nat9
variable {R : Room} {k n pc nx tg idx : Nat} {M : Mth} {ls rest : List Value} {σ : St} {Q : Option Value → St → Prop}
theorem LR.sz {f : Nat → Nat} {M : Mth} {lsC : Array Slot} {c : Code} (h : LR f (mml M) lsC ls) (hml : c.maxLocals = mml M) : c.maxLocals = lsC.size := by rw [hml, h.1]
theorem v_max {x y : Int32} (hl : lk2 (mtab M) pc = some (.invokestatic idx, nx, tg)) (hm : ntl M.1 idx = some 1) (hf : 1 ≤ R.frames) (hlo : catS rest + 20 ≤ R.locals) (hk : k ≤ R.cells) (hn : n ≤ R.slots) (hV : V R M k n nx ls (.int (if x < y then y else x) :: rest) σ Q) : V R M k n pc ls (.int y :: .int x :: rest) σ Q := by
  intro p l e s m args below meth c D ca f n0 Qf C HF H locs lsC hR hS hL
  have C' := C
  obtain ⟨hx, hb, hml, hrt, hown, hts, hlk, hin, hT, hB⟩ := C'
  obtain ⟨hd, hn', -⟩ := tab_ok hT hl
  obtain rfl := hn'.resolve_left (by simp [lnI])
  have hlink : Cond.methodLink (cnm M.1) idx Lib.Math.max.name ∈ lw_g := nt_all M.1 _ (lk2_mem hm)
  exact va_mmax hx hb (hL.sz hml) hown (hts _ hlink) (hts _ nw1.1) (hts _ ini15) (hts _ nw1.2) hf (by rw [catS_map]; omega) hk hn (dec_of hd rfl) (hV p l e s m args below meth c D ca f n0 Qf C HF H locs lsC hR hS hL)
theorem v_min {x y : Int32} (hl : lk2 (mtab M) pc = some (.invokestatic idx, nx, tg)) (hm : ntl M.1 idx = some 2) (hf : 1 ≤ R.frames) (hlo : catS rest + 20 ≤ R.locals) (hk : k ≤ R.cells) (hn : n ≤ R.slots) (hV : V R M k n nx ls (.int (if y < x then y else x) :: rest) σ Q) : V R M k n pc ls (.int y :: .int x :: rest) σ Q := by
  intro p l e s m args below meth c D ca f n0 Qf C HF H locs lsC hR hS hL
  have C' := C
  obtain ⟨hx, hb, hml, hrt, hown, hts, hlk, hin, hT, hB⟩ := C'
  obtain ⟨hd, hn', -⟩ := tab_ok hT hl
  obtain rfl := hn'.resolve_left (by simp [lnI])
  have hlink : Cond.methodLink (cnm M.1) idx Lib.Math.min.name ∈ lw_g := nt_all M.1 _ (lk2_mem hm)
  exact va_mmin hx hb (hL.sz hml) hown (hts _ hlink) (hts _ nw2.1) (hts _ ini15) (hts _ nw2.2) hf (by rw [catS_map]; omega) hk hn (dec_of hd rfl) (hV p l e s m args below meth c D ca f n0 Qf C HF H locs lsC hR hS hL)
theorem v_maxL {x y : Int64} (hl : lk2 (mtab M) pc = some (.invokestatic idx, nx, tg)) (hm : ntl M.1 idx = some 3) (hf : 1 ≤ R.frames) (hlo : catS rest + 20 ≤ R.locals) (hk : k ≤ R.cells) (hn : n ≤ R.slots) (hV : V R M k n nx ls (.long (if y < x then x else y) :: rest) σ Q) : V R M k n pc ls (.long y :: .long x :: rest) σ Q := by
  intro p l e s m args below meth c D ca f n0 Qf C HF H locs lsC hR hS hL
  have C' := C
  obtain ⟨hx, hb, hml, hrt, hown, hts, hlk, hin, hT, hB⟩ := C'
  obtain ⟨hd, hn', -⟩ := tab_ok hT hl
  obtain rfl := hn'.resolve_left (by simp [lnI])
  have hlink : Cond.methodLink (cnm M.1) idx Lib.MathLoose.max_long.x ∈ lw_g := nt_all M.1 _ (lk2_mem hm)
  exact va_mmax_long hx hb (hL.sz hml) hown (hts _ hlink) (hts _ nw3.1) (hts _ ini15) (hts _ nw3.2) hf (by rw [catS_map]; omega) hk hn (dec_of hd rfl) (hV p l e s m args below meth c D ca f n0 Qf C HF H locs lsC hR hS hL)
theorem v_minL {x y : Int64} (hl : lk2 (mtab M) pc = some (.invokestatic idx, nx, tg)) (hm : ntl M.1 idx = some 4) (hf : 1 ≤ R.frames) (hlo : catS rest + 20 ≤ R.locals) (hk : k ≤ R.cells) (hn : n ≤ R.slots) (hV : V R M k n nx ls (.long (if y < x then y else x) :: rest) σ Q) : V R M k n pc ls (.long y :: .long x :: rest) σ Q := by
  intro p l e s m args below meth c D ca f n0 Qf C HF H locs lsC hR hS hL
  have C' := C
  obtain ⟨hx, hb, hml, hrt, hown, hts, hlk, hin, hT, hB⟩ := C'
  obtain ⟨hd, hn', -⟩ := tab_ok hT hl
  obtain rfl := hn'.resolve_left (by simp [lnI])
  have hlink : Cond.methodLink (cnm M.1) idx Lib.MathLoose.min_long.x ∈ lw_g := nt_all M.1 _ (lk2_mem hm)
  exact va_mmin_long hx hb (hL.sz hml) hown (hts _ hlink) (hts _ nw4.1) (hts _ ini15) (hts _ nw4.2) hf (by rw [catS_map]; omega) hk hn (dec_of hd rfl) (hV p l e s m args below meth c D ca f n0 Qf C HF H locs lsC hR hS hL)
/-- arraycopy of the first cnt ints of a row to another row -/
theorem v_copy {a b na nb : Nat} {ra rb : List (Option Nat)} {cnt : Int32} (hl : lk2 (mtab M) pc = some (.invokestatic idx, nx, tg)) (hm : ntl M.1 idx = some 5) (ha : σ.1[a + 2]? = some (.inr (0, na, ra))) (hb2 : σ.1[b + 2]? = some (.inr (0, nb, rb))) (hc0 : ¬ cnt < 0) (hca : cnt.toNatClampNeg ≤ na) (hcb : cnt.toNatClampNeg ≤ nb) (hf : 1 ≤ R.frames) (hlo : catS rest + 40 ≤ R.locals)
    (hV : V R M k n nx ls rest (σ.1, upR σ.2.1 (b + 2) (fun j => if j < cnt.toNatClampNeg then σ.2.1 (a + 2) j else σ.2.1 (b + 2) j), σ.2.2) Q) : V R M k n pc ls (.int cnt :: .int 0 :: .ref (b + 2) :: .int 0 :: .ref (a + 2) :: rest) σ Q := by
  intro p l e s m args below meth c D ca f n0 Qf C HF H locs lsC hR hS hL
  have C' := C
  obtain ⟨hx, hb, hml, hrt, hown, hts, hlk, hin, hT, hB⟩ := C'
  obtain ⟨hd, hn', -⟩ := tab_ok hT hl
  obtain rfl := hn'.resolve_left (by simp [lnI])
  have hlink : Cond.methodLink (cnm M.1) idx arraycopyName ∈ lw_g := nt_all M.1 _ (lk2_mem hm)
  obtain ⟨-, a1, a2⟩ := hR.2.2.1 _ _ _ _ ha
  refine va_copyi (sp := 0) (dp := 0) hx hb (hL.sz hml) hown (hts _ hlink) (hts _ nw5.1) (hts _ nw5.2.1) (hts _ nw5.2.2) (K_arr hB.1 a1 a2) hR.1 hR.2.1 hS _ _ 0 0 (wld_at ha) (wld_at hb2) rfl rfl rfl (by decide) (by decide) hc0 (by rw [show (0 : Int32).toNatClampNeg = 0 from rfl]; omega) (by rw [show (0 : Int32).toNatClampNeg = 0 from rfl]; omega) (fun i _ => rfl) hf (by rw [catS_map]; have h9 : nativeFrameWords "java/lang/System" "arraycopy" 5 + 11 ≤ 40 := (by decide +kernel); omega) (dec_of hd rfl) (fun H1 locs1 hP1 hD1 hS1 => ?_)
  refine hV p l e s m args below meth c D ca f n0 Qf C (fun f' σ'' r H'' locs'' k' n' pc'' ls'' ins' ha => HF f' σ'' r H'' locs'' k' n' pc'' ls'' ins' (agr_sh rfl ha)) H1 locs1 lsC ?_ hS1 hL
  refine Rel_set hR hb2 (fun i hi => by simp [upR, hi]) (fun _ _ => rfl) ?_ hP1 hD1 (at0 hB hS hS1)
  unfold cel
  simp only [upR, if_true]
  congr 4
  funext j
  simp [va_cpy]
end Nat9
section VN9
variable {N d pc nx tg idx : Nat} {M : Mth} {ls ls' rest : List Value} {μ : Me} {Ψ : Option Value → Me → Prop}
theorem rm1 (h : catS rest ≤ 8) (hd : 1 ≤ d) : catS rest + 20 ≤ (rmD d).locals ∧ catS rest + 40 ≤ (rmD d).locals := by
  show catS rest + 20 ≤ 60 * d ∧ catS rest + 40 ≤ 60 * d
  omega
theorem vb_max {x y : Int32} (hl : lk2 (mtab M) pc = some (.invokestatic idx, nx, tg)) (hm : ntl M.1 idx = some 1) (hd : 1 ≤ d) (hc : catS rest ≤ 8) (hw : wk ls' ls) (hV : VB N d M nx ls' (.int (if x < y then y else x) :: rest) μ Ψ) : VB N d M pc ls (.int y :: .int x :: rest) μ Ψ := v_max hl hm hd (rm1 hc hd).1 (Nat.zero_le _) (Nat.zero_le _) (v_wk hw hV)
theorem vb_min {x y : Int32} (hl : lk2 (mtab M) pc = some (.invokestatic idx, nx, tg)) (hm : ntl M.1 idx = some 2) (hd : 1 ≤ d) (hc : catS rest ≤ 8) (hw : wk ls' ls) (hV : VB N d M nx ls' (.int (if y < x then y else x) :: rest) μ Ψ) : VB N d M pc ls (.int y :: .int x :: rest) μ Ψ := v_min hl hm hd (rm1 hc hd).1 (Nat.zero_le _) (Nat.zero_le _) (v_wk hw hV)
theorem vb_maxL {x y : Int64} (hl : lk2 (mtab M) pc = some (.invokestatic idx, nx, tg)) (hm : ntl M.1 idx = some 3) (hd : 1 ≤ d) (hc : catS rest ≤ 8) (hw : wk ls' ls) (hV : VB N d M nx ls' (.long (if y < x then x else y) :: rest) μ Ψ) : VB N d M pc ls (.long y :: .long x :: rest) μ Ψ := v_maxL hl hm hd (rm1 hc hd).1 (Nat.zero_le _) (Nat.zero_le _) (v_wk hw hV)
theorem vb_minL {x y : Int64} (hl : lk2 (mtab M) pc = some (.invokestatic idx, nx, tg)) (hm : ntl M.1 idx = some 4) (hd : 1 ≤ d) (hc : catS rest ≤ 8) (hw : wk ls' ls) (hV : VB N d M nx ls' (.long (if y < x then y else x) :: rest) μ Ψ) : VB N d M pc ls (.long y :: .long x :: rest) μ Ψ := v_minL hl hm hd (rm1 hc hd).1 (Nat.zero_le _) (Nat.zero_le _) (v_wk hw hV)
theorem vb_copy {a b na nb : Nat} {ra rb : List (Option Nat)} {cnt : Int32} (hl : lk2 (mtab M) pc = some (.invokestatic idx, nx, tg)) (hm : ntl M.1 idx = some 5) (ha : (SH N)[a + 2]? = some (.inr (0, na, ra))) (hb : (SH N)[b + 2]? = some (.inr (0, nb, rb))) (hc0 : ¬ cnt < 0) (hca : cnt.toNatClampNeg ≤ na) (hcb : cnt.toNatClampNeg ≤ nb) (hd : 1 ≤ d) (hc : catS rest ≤ 8) (hw : wk ls' ls)
    (hV : VB N d M nx ls' rest (upR μ.1 (b + 2) (fun j => if j < cnt.toNatClampNeg then μ.1 (a + 2) j else μ.1 (b + 2) j), μ.2) Ψ) : VB N d M pc ls (.int cnt :: .int 0 :: .ref (b + 2) :: .int 0 :: .ref (a + 2) :: rest) μ Ψ := v_copy (k := 0) (n := 0) hl hm ha hb hc0 hca hcb hd (rm1 hc hd).2 (v_wk hw hV)
/-- a table switch: by the value's case -/
theorem vb_tsw {d0 lo hi : Int} {offs : Array Int} {x : Int32} (hl : lk2 (mtab M) pc = some (.tableswitch d0 lo hi offs, nx, tg)) (h1 : 0 ≤ (pc : Int) + d0 ∧ ∀ i, i < offs.size → 0 ≤ (pc : Int) + offs.getD i d0) (h2 : (hi - lo).toNat + 1 = offs.size) (hw : wk ls' ls)
    (ho : x.toInt < lo ∨ hi < x.toInt → VB N d M ((pc : Int) + d0).toNat ls' rest μ Ψ) (hV : ∀ i, i < offs.size → x.toInt = lo + i → VB N d M ((pc : Int) + offs.getD i d0).toNat ls' rest μ Ψ) : VB N d M pc ls (.int x :: rest) μ Ψ := by
  have key : ∀ (pc' : Nat), ((pc : Int) + tsw d0 lo hi offs x.toInt).toNat = pc' → 0 ≤ (pc : Int) + tsw d0 lo hi offs x.toInt → ((x.toInt < lo ∨ hi < x.toInt) ∨ (x.toInt - lo).toNat < offs.size) → VB N d M pc' ls' rest μ Ψ → VB N d M pc ls (.int x :: rest) μ Ψ := by
    intro pc' e g1 g2 hv
    refine stp_ok (o := [0 ≤ (pc : Int) + tsw d0 lo hi offs x.toInt, (x.toInt < lo ∨ hi < x.toInt) ∨ (x.toInt - lo).toNat < offs.size]) (pc' := pc') (ls' := ls) (st' := rest) (σ' := (SH N, μ)) ?_ ⟨g1, g2⟩ (v_wk hw hv)
    unfold stp
    rw [hl]
    subst e
    rfl
  by_cases hc : x.toInt < lo ∨ hi < x.toInt
  · have e1 : tsw d0 lo hi offs x.toInt = d0 := by unfold tsw; rw [if_pos hc]
    exact key _ rfl (by rw [e1]; exact h1.1) (Or.inl hc) (by rw [e1]; exact ho hc)
  · have e1 : tsw d0 lo hi offs x.toInt = offs.getD (x.toInt - lo).toNat d0 := by unfold tsw; rw [if_neg hc]
    have hlt : (x.toInt - lo).toNat < offs.size := by omega
    exact key _ rfl (by rw [e1]; exact h1.2 _ hlt) (Or.inr hlt) (by rw [e1]; exact hV _ hlt (by omega))
end VN9
abbrev br (c A B : Prop) : Prop := (c → A) ∧ (¬ c → B)
theorem VI.mono {N d : Nat} {M : Mth} {ls : List Value} {μ : Me} {Ψ Ψ' : Int32 → Me → Prop} (h : VI N d M ls μ Ψ') (hQ : ∀ v μ', Ψ' v μ' → Ψ v μ') : VI N d M ls μ Ψ := VB.post h (fun _ _ ⟨v, e, h⟩ => ⟨v, e, hQ _ _ h⟩)
theorem VJ.mono {N d : Nat} {M : Mth} {ls : List Value} {μ : Me} {Ψ Ψ' : Int64 → Me → Prop} (h : VJ N d M ls μ Ψ') (hQ : ∀ v μ', Ψ' v μ' → Ψ v μ') : VJ N d M ls μ Ψ := VB.post h (fun _ _ ⟨v, e, h⟩ => ⟨v, e, hQ _ _ h⟩)
theorem VA.mono {N d : Nat} {M : Mth} {ls : List Value} {μ : Me} {Ψ Ψ' : Nat → Me → Prop} (h : VA N d M ls μ Ψ') (hQ : ∀ v μ', Ψ' v μ' → Ψ v μ') : VA N d M ls μ Ψ := VB.post h (fun _ _ ⟨v, e, h⟩ => ⟨v, e, hQ _ _ h⟩)
theorem VU.mono {N d : Nat} {M : Mth} {ls : List Value} {μ : Me} {Ψ Ψ' : Me → Prop} (h : VU N d M ls μ Ψ') (hQ : ∀ μ', Ψ' μ' → Ψ μ') : VU N d M ls μ Ψ := VB.post h (fun _ _ ⟨e, h⟩ => ⟨e, hQ _ h⟩)
theorem i32_of {x v : Int32} (h : x.toInt = v.toInt) : x = v := Int32.toInt_inj.mp h
abbrev isL5 (r : Nat) : Prop := r = 40 ∨ r = 86 ∨ r = 97 ∨ r = 108 ∨ r = 119
theorem nzl {x : Int32} (h : decide (¬ x = 0) = true) : ¬ x = 0 := of_decide_eq_true h
def lswK (P : Int → Prop) (ps : List (Int × Int)) (d k : Int) : Prop := match ps with
  | [] => P d
  | q :: r => (k = q.1 → P q.2) ∧ (¬ k = q.1 → lswK P r d k)
theorem lswK_ok {P : Int → Prop} {ps : List (Int × Int)} {d k : Int} (h : lswK P ps d k) : P (Op.lookupswitch.offset ps d k) := by
  induction ps with
  | nil => exact h
  | cons q r ih =>
    obtain ⟨a, o⟩ := q
    rw [Op.lookupswitch.offset_cons]
    by_cases hk : a = k
    · rw [if_pos hk]; exact h.1 hk.symm
    · rw [if_neg hk]; exact ih (h.2 (fun e => hk e.symm))
theorem lsw_nn {P : Int → Prop} {ps : List (Int × Int)} {d k : Int} (hd : P d) (h : ∀ q ∈ ps, P q.2) : P (Op.lookupswitch.offset ps d k) := by
  induction ps with
  | nil => exact hd
  | cons q r ih =>
    obtain ⟨a, o⟩ := q
    rw [Op.lookupswitch.offset_cons]
    by_cases hk : a = k
    · rw [if_pos hk]; exact h (a, o) List.mem_cons_self
    · rw [if_neg hk]; exact ih (fun q hq => h q (List.mem_cons_of_mem _ hq))
theorem vb_lsw {N d pc nx tg : Nat} {M : Mth} {ls rest : List Value} {μ : Me} {Ψ : Option Value → Me → Prop} {d0 : Int} {ps : Array (Int × Int)} {x : Int32} (hl : lk2 (mtab M) pc = some (.lookupswitch d0 ps, nx, tg)) (h1 : 0 ≤ (pc : Int) + d0 ∧ ∀ q ∈ ps.toList, 0 ≤ (pc : Int) + q.2) (h2 : (ps.toList.zip (ps.toList.drop 1)).all (fun (a, next) => a.1 < next.1) = true)
    (hV : lswK (fun off => VB N d M ((pc : Int) + off).toNat ls rest μ Ψ) ps.toList d0 x.toInt) : VB N d M pc ls (.int x :: rest) μ Ψ := by
  refine stp_ok (o := [0 ≤ (pc : Int) + Op.lookupswitch.offset ps.toList d0 x.toInt, (ps.toList.zip (ps.toList.drop 1)).all (fun (a, next) => a.1 < next.1) = true]) (pc' := ((pc : Int) + Op.lookupswitch.offset ps.toList d0 x.toInt).toNat) (ls' := ls) (st' := rest) (σ' := (SH N, μ)) ?_ ⟨lsw_nn (P := fun o => 0 ≤ (pc : Int) + o) h1.1 h1.2, h2⟩ (lswK_ok hV)
  unfold stp
  rw [hl]
  rfl
