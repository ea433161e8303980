/-! the judgement over the built world: shapes fixed, only ints and longs move -/
def SH (N : Nat) : List Shp := [.inr (9, N, []), .inr (8, 91, []), .inl (11, [some 3, some 21, some 39, some 40, some 51, some 68, some 70, some 72, some 75, some 82, some 83, some 84, some 85]), .inl (1, [some 4, some 9, some 13, some 17]), .inl (8, [none, none, some 5, some 6, some 7, some 8]), .inr (0, 10, []), .inr (0, 10, []), .inr (0, 10, []), .inr (0, 10, []), .inl (3, [none, some 10, some 11, some 12]), .inr (0, 6, []), .inr (0, 6, []), .inr (0, 6, []), .inl (7, [none, some 14, some 15, some 16]), .inr (0, 10, []), .inr (0, 10, []), .inr (0, 10, []), .inl (9, [none, some 18, some 19, some 20]), .inr (0, 20, []), .inr (0, 20, []), .inr (0, 20, []), .inl (1, [some 22, some 27, some 31, some 35]), .inl (8, [none, none, some 23, some 24, some 25, some 26]), .inr (0, 10, []), .inr (0, 10, []), .inr (0, 10, []), .inr (0, 10, []), .inl (3, [none, some 28, some 29, some 30]), .inr (0, 6, []), .inr (0, 6, []), .inr (0, 6, []), .inl (7, [none, some 32, some 33, some 34]), .inr (0, 10, []), .inr (0, 10, []), .inr (0, 10, []), .inl (9, [none, some 36, some 37, some 38]), .inr (0, 20, []), .inr (0, 20, []), .inr (0, 20, []), .inr (3, 4, [some 86, some 97, some 108, some 119]), .inl (5, [none, none, none, some 41, some 42, some 43, some 44, some 45, some 46, some 47, some 48, some 49, some 50]), .inr (0, 300, []), .inr (0, 3, []), .inr (0, 3, []), .inr (0, 16, []), .inr (0, 16, []), .inr (0, 16, []), .inr (0, 16, []), .inr (0, 16, []), .inr (0, 16, []), .inr (0, 32, []), .inl (6, [some 52, some 57]), .inl (10, [none, none, some 53, some 54, some 55, some 56]), .inr (0, 300, []), .inr (0, 301, []), .inr (0, 301, []), .inr (0, 301, []), .inl (5, [none, none, none, some 58, some 59, some 60, some 61, some 62, some 63, some 64, some 65, some 66, some 67]), .inr (0, 300, []), .inr (0, 3, []), .inr (0, 3, []), .inr (0, 16, []), .inr (0, 16, []), .inr (0, 16, []), .inr (0, 16, []), .inr (0, 16, []), .inr (0, 16, []), .inr (0, 32, []), .inl (4, [some 69]), .inr (0, 10, []), .inl (4, [some 71]), .inr (0, 10, []), .inl (0, [none, none, some 73, some 74]), .inr (0, 16, []), .inr (0, 16, []), .inl (2, [none, some 76, some 77, some 78, some 79, some 80, some 81]), .inr (0, 6, []), .inr (0, 36, []), .inr (0, 64, []), .inr (0, 64, []), .inr (0, 729, []), .inr (0, 729, []), .inr (0, 7, []), .inr (0, 10, []), .inr (0, 10, []), .inr (0, 6, []), .inl (5, [none, none, none, some 87, some 88, some 89, some 90, some 91, some 92, some 93, some 94, some 95, some 96]), .inr (0, 300, []), .inr (0, 3, []), .inr (0, 3, []), .inr (0, 16, []), .inr (0, 16, []), .inr (0, 16, []), .inr (0, 16, []), .inr (0, 16, []), .inr (0, 16, []), .inr (0, 32, []), .inl (5, [none, none, none, some 98, some 99, some 100, some 101, some 102, some 103, some 104, some 105, some 106, some 107]), .inr (0, 300, []), .inr (0, 3, []), .inr (0, 3, []), .inr (0, 16, []), .inr (0, 16, []), .inr (0, 16, []), .inr (0, 16, []), .inr (0, 16, []), .inr (0, 16, []), .inr (0, 32, []), .inl (5, [none, none, none, some 109, some 110, some 111, some 112, some 113, some 114, some 115, some 116, some 117, some 118]), .inr (0, 300, []), .inr (0, 3, []), .inr (0, 3, []), .inr (0, 16, []), .inr (0, 16, []), .inr (0, 16, []), .inr (0, 16, []), .inr (0, 16, []), .inr (0, 16, []), .inr (0, 32, []), .inl (5, [none, none, none, some 120, some 121, some 122, some 123, some 124, some 125, some 126, some 127, some 128, some 129]), .inr (0, 300, []), .inr (0, 3, []), .inr (0, 3, []), .inr (0, 16, []), .inr (0, 16, []), .inr (0, 16, []), .inr (0, 16, []), .inr (0, 16, []), .inr (0, 16, []), .inr (0, 32, []), .inl (12, [some 131, some 132, some 133, some 134, none, none, none, none, none, none, none, none, none, none, none, none, some 135, none, none, none, none, none, some 136, some 137, some 138, some 139, some 140, some 141, some 142, some 143, some 144, some 145, some 146, none, none, none, some 147]), .inr (0, 175, []), .inr (0, 175, []), .inr (0, 3000, []), .inr (0, 300, []), .inr (0, 160, []), .inr (0, 7, []), .inr (1, 330, []), .inr (2, 330, []), .inr (0, 16, []), .inr (0, 16, []), .inr (0, 10, []), .inr (0, 16, []), .inr (0, 3, []), .inr (0, 10, []), .inr (0, 13, []), .inr (0, 14, []), .inr (0, 6, [])]
abbrev Me : Type := (Nat → Nat → Int32) × (Nat → Nat → Int64)
theorem vp_lit {i : Int32} {n : Nat} (h : decide (¬ (i < 0 ∨ n ≤ i.toNatClampNeg)) = true) : vp_in i n := by
  unfold vp_in
  exact of_decide_eq_true h
def rmD (d : Nat) : Room := { frames := d, cells := 0, slots := 0, locals := 60 * d }
def wk (a b : List Value) : Prop := match a, b with
  | [], _ => True
  | .null :: a, [] => wk a []
  | .null :: a, _ :: b => wk a b
  | _ :: _, [] => False
  | v :: a, w :: b => v = w ∧ wk a b
theorem wk_get : ∀ (a b : List Value), wk a b → ∀ (i : Nat) (v : Value), a[i]? = some v → v ≠ .null → b[i]? = some v := by
  intro a
  induction a with
  | nil => intro b _ i v h; simp at h
  | cons x a ih =>
    intro b hw i v h hv
    by_cases hx : x = .null
    · subst hx
      match i, h with
      | 0, h => simp at h; exact absurd h.symm hv
      | i + 1, h =>
        cases b with
        | nil =>
          have := ih [] hw i v (by simpa using h) hv
          simp at this
        | cons w b => simpa using ih b hw i v (by simpa using h) hv
    · cases b with
      | nil => cases x <;> first | exact absurd rfl hx | exact hw.elim
      | cons w b =>
        have hw2 : x = w ∧ wk a b := by cases x <;> first | exact absurd rfl hx | exact hw
        obtain ⟨rfl, hw2⟩ := hw2
        match i, h with
        | 0, h => simpa using h
        | i + 1, h => simpa using ih b hw2 i v (by simpa using h) hv
theorem v_wk {R : Room} {M : Mth} {k n pc : Nat} {ls ls' st : List Value} {σ : St} {Q : Option Value → St → Prop} (hw : wk ls' ls) (hV : V R M k n pc ls' st σ Q) : V R M k n pc ls st σ Q :=
  fun p l e s m args below meth c D ca f n0 Qf C HF H locs lsC hR hS hL => hV p l e s m args below meth c D ca f n0 Qf C HF H locs lsC hR hS ⟨hL.1, hL.2.1, fun i v hi hv => hL.2.2 i v (wk_get _ _ hw i v hi hv) hv⟩
def VB (N d : Nat) (M : Mth) (pc : Nat) (ls st : List Value) (μ : Me) (Ψ : Option Value → Me → Prop) : Prop := V (rmD d) M 0 0 pc ls st (SH N, μ) (fun r σ' => ∃ μ', σ' = (SH N, μ') ∧ Ψ r μ')
abbrev VI (N d : Nat) (M : Mth) (ls : List Value) (μ : Me) (Ψ : Int32 → Me → Prop) : Prop := VB N d M 0 ls [] μ (fun r μ' => ∃ v, r = some (.int v) ∧ Ψ v μ')
abbrev VJ (N d : Nat) (M : Mth) (ls : List Value) (μ : Me) (Ψ : Int64 → Me → Prop) : Prop := VB N d M 0 ls [] μ (fun r μ' => ∃ v, r = some (.long v) ∧ Ψ v μ')
abbrev VA (N d : Nat) (M : Mth) (ls : List Value) (μ : Me) (Ψ : Nat → Me → Prop) : Prop := VB N d M 0 ls [] μ (fun r μ' => ∃ v, r = some (.ref v) ∧ Ψ v μ')
abbrev VU (N d : Nat) (M : Mth) (ls : List Value) (μ : Me) (Ψ : Me → Prop) : Prop := VB N d M 0 ls [] μ (fun r μ' => r = none ∧ Ψ μ')
theorem VB.post {N d : Nat} {M : Mth} {pc : Nat} {ls st : List Value} {μ : Me} {Ψ Ψ' : Option Value → Me → Prop} (h : VB N d M pc ls st μ Ψ') (hQ : ∀ r μ', Ψ' r μ' → Ψ r μ') : VB N d M pc ls st μ Ψ := V.post h (fun _ _ ⟨μ', e, h⟩ => ⟨μ', e, hQ _ _ h⟩)
theorem callRd {d d' : Nat} {M' : Mth} (h : d' + 1 ≤ d) (hm : mml M' ≤ 41) : callR (rmD d) (rmD d') M' 0 0 := by
  refine ⟨h, ?_, Nat.le_refl _, Nat.le_refl _⟩
  show 8 + (mml M' + 11) + 60 * d' ≤ 60 * d
  omega
section VBRows
variable {N d d' pc nx tg idx na : Nat} {M M' : Mth} {ls ls' lsa st st' As rest : List Value} {μ μ' : Me} {Ψ : Option Value → Me → Prop} {o : List Prop}
theorem vb_blk (n : Nat) {pc' : Nat} (h : stps M n pc ls st (SH N, μ) = some (o, pc', ls', st', (SH N, μ'))) (ho : allP o) (hV : VB N d M pc' ls' st' μ' Ψ) : VB N d M pc ls st μ Ψ := v_blk n h ho hV
theorem vb_wk (hw : wk ls' ls) (hV : VB N d M pc ls' st μ Ψ) : VB N d M pc ls st μ Ψ := v_wk hw hV
theorem vb_ite {c : Prop} {dc : Decidable c} {a b : Nat} (h1 : c → VB N d M a ls st μ Ψ) (h2 : ¬ c → VB N d M b ls st μ Ψ) : VB N d M (@ite Nat c dc a b) ls st μ Ψ := v_ite h1 h2
theorem vb_iret {v : Int32} (hl : lk2 (mtab M) pc = some (.ireturn, nx, tg)) (hr : rok (mret M) (some (.int v)) .ireturn) (hq : Ψ (some (.int v)) μ) : VB N d M pc ls [.int v] μ Ψ := v_iret hl hr (Nat.zero_le _) (Nat.zero_le _) ⟨μ, rfl, hq⟩
theorem vb_lret {v : Int64} (hl : lk2 (mtab M) pc = some (.lreturn, nx, tg)) (hr : rok (mret M) (some (.long v)) .lreturn) (hq : Ψ (some (.long v)) μ) : VB N d M pc ls [.long v] μ Ψ := v_lret hl hr (Nat.zero_le _) (Nat.zero_le _) ⟨μ, rfl, hq⟩
theorem vb_aret {v : Nat} (hl : lk2 (mtab M) pc = some (.areturn, nx, tg)) (hr : rok (mret M) (some (.ref v)) .areturn) (hq : Ψ (some (.ref v)) μ) : VB N d M pc ls [.ref v] μ Ψ := v_aret hl hr (Nat.zero_le _) (Nat.zero_le _) ⟨μ, rfl, hq⟩
theorem vb_vret (hl : lk2 (mtab M) pc = some (.return_, nx, tg)) (hr : rok (mret M) none .return_) (hq : Ψ none μ) : VB N d M pc ls [] μ Ψ := v_vret hl hr (Nat.zero_le _) (Nat.zero_le _) ⟨μ, rfl, hq⟩
theorem vb_virt {j ci : Nat} {rs : List (Option Nat)} (hl : lk2 (mtab M) pc = some (.invokevirtual idx, nx, tg)) (hm : mlk M.1 idx = some (M', 1, na)) (hst : st = As.reverse ++ .ref (j + 2) :: rest) (hlen : As.length = na) (hsh : (SH N)[j + 2]? = some (.inl (ci, rs))) (hci : cnm ci = (my M').cls) (hcl : ci < 13) (hdd : d' + 1 ≤ d) (hmm : mml M' ≤ 41) (hcat : catS rest ≤ 8) (he : ent (.ref (j + 2) :: As) = lsa) (hln : lsa.length ≤ mml M')
    (hw : wk ls' ls) (hV : VB N d' M' 0 lsa [] μ (fun r μ' => VB N d M nx ls' (r.toList ++ rest) μ' Ψ)) : VB N d M pc ls st μ Ψ := by
  subst he
  exact v_virt hl hm hst hlen hsh hci hcl (callRd hdd hmm) hcat hln (V.post hV (fun r σ' h => by
    obtain ⟨μ', rfl, h⟩ := h
    exact ⟨Or.inl rfl, v_wk hw h⟩))
theorem vb_stat (hl : lk2 (mtab M) pc = some (.invokestatic idx, nx, tg)) (hm : mlk M.1 idx = some (M', 0, na)) (hst : st = As.reverse ++ rest) (hlen : As.length = na) (hdd : d' + 1 ≤ d) (hmm : mml M' ≤ 41) (hcat : catS rest ≤ 8) (he : ent As = lsa) (hln : lsa.length ≤ mml M')
    (hw : wk ls' ls) (hV : VB N d' M' 0 lsa [] μ (fun r μ' => VB N d M nx ls' (r.toList ++ rest) μ' Ψ)) : VB N d M pc ls st μ Ψ := by
  subst he
  exact v_stat hl hm hst hlen (callRd hdd hmm) hcat hln (V.post hV (fun r σ' h => by
    obtain ⟨μ', rfl, h⟩ := h
    exact ⟨Or.inl rfl, v_wk hw h⟩))
theorem cn_i (h : VI N d M ls μ (fun v μ' => Ψ (some (.int v)) μ')) : VB N d M 0 ls [] μ Ψ := h.post (fun r μ' ⟨v, e, h⟩ => by rw [e]; exact h)
theorem cn_l (h : VJ N d M ls μ (fun v μ' => Ψ (some (.long v)) μ')) : VB N d M 0 ls [] μ Ψ := h.post (fun r μ' ⟨v, e, h⟩ => by rw [e]; exact h)
theorem cn_a (h : VA N d M ls μ (fun v μ' => Ψ (some (.ref v)) μ')) : VB N d M 0 ls [] μ Ψ := h.post (fun r μ' ⟨v, e, h⟩ => by rw [e]; exact h)
theorem cn_u (h : VU N d M ls μ (fun μ' => Ψ none μ')) : VB N d M 0 ls [] μ Ψ := h.post (fun r μ' ⟨e, h⟩ => by rw [e]; exact h)
end VBRows
