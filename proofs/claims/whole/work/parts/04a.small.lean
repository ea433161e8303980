/-! a small machine over abstract cells, and the judgement V: what it comes to is what the machine comes to -/
abbrev Shp : Type := (Nat × List (Option Nat)) ⊕ (Nat × Nat × List (Option Nat))
/-- the cells' shapes (0: the script, 1: the text of words, from 2 on: what was made), their ints, their longs -/
abbrev St : Type := List Shp × (Nat → Nat → Int32) × (Nat → Nat → Int64)
def up2 {α : Type} (I : Nat → Nat → α) (j k : Nat) (x : α) : Nat → Nat → α := fun a b => if a = j then (if b = k then x else I a b) else I a b
def upR {α : Type} (I : Nat → Nat → α) (j : Nat) (g : Nat → α) : Nat → Nat → α := fun a => if a = j then g else I a
theorem up2_row {α : Type} (I : Nat → Nat → α) (j k : Nat) (x : α) : up2 I j k x = upR I j (fun b => if b = k then x else I j b) := by
  funext a b
  unfold up2 upR
  by_cases h : a = j
  · subst h; simp
  · simp [h]
def tyOf (t : Nat) : FieldType := match t with
  | 0 => .int
  | 1 => .long
  | 2 => .boolean
  | _ => .object RX5
def cvv (f : Nat → Nat) (v : Value) : Value := match v with
  | .ref j => .ref (f j)
  | v => v
def fvl (f : Nat → Nat) (ci k : Nat) (rs : List (Option Nat)) (i : Nat → Int32) (l : Nat → Int64) : Value := match (fty ci k).1 with
  | 0 => .int (i k)
  | 1 => .long (l k)
  | 2 => .int (i k)
  | _ => va_rf ((rs.getD k none).map f)
def cel (f ca : Nat → Nat) (j : Nat) (x : Shp) (I : Nat → Nat → Int32) (L : Nat → Nat → Int64) : va_E := match x with
  | .inl o => .inr (o.1, (List.range (nmF o.1)).map (fun k => fvl f o.1 k o.2 (I j) (L j)))
  | .inr (0, n, _) => .inl (ca 0, n, .inl (I j))
  | .inr (1, n, _) => .inl (ca 1, n, .inr (.inl (L j)))
  | .inr (2, n, _) => .inl (ca 2, n, .inl (I j))
  | .inr (_, n, rs) => .inl (ca 3, n, .inr (.inr (.inr (.inr (fun k => (rs.getD k none).map f)))))
def sh0 : Shp := .inl (0, [])
def wld (f ca : Nat → Nat) (σ : St) : va_W := (List.range (σ.1.length - 2)).map (fun i => (f (i + 2), cel f ca (i + 2) (σ.1.getD (i + 2) sh0) σ.2.1 σ.2.2))
theorem wld_len (f ca : Nat → Nat) (σ : St) : (wld f ca σ).length = σ.1.length - 2 := by simp [wld]
theorem wld_get (f ca : Nat → Nat) (σ : St) {i : Nat} (h : i + 2 < σ.1.length) : (wld f ca σ)[i]? = some (f (i + 2), cel f ca (i + 2) (σ.1.getD (i + 2) sh0) σ.2.1 σ.2.2) := by
  unfold wld
  rw [List.getElem?_map, List.getElem?_range (by omega)]
  rfl
theorem wld_at {f ca : Nat → Nat} {σ : St} {j : Nat} {x : Shp} (h : σ.1[j + 2]? = some x) : (wld f ca σ)[j]? = some (f (j + 2), cel f ca (j + 2) x σ.2.1 σ.2.2) := by
  have hl : j + 2 < σ.1.length := (List.getElem?_eq_some_iff.mp h).1
  rw [wld_get f ca σ hl]
  have : σ.1.getD (j + 2) sh0 = x := by rw [List.getD_eq_getElem?_getD, h]; rfl
  rw [this]
theorem cel_congr {f ca : Nat → Nat} {j : Nat} {x : Shp} {I I' : Nat → Nat → Int32} {L L' : Nat → Nat → Int64} (hI : I j = I' j) (hL : L j = L' j) : cel f ca j x I L = cel f ca j x I' L' := by
  unfold cel
  rw [hI, hL]
theorem wld_set {f ca : Nat → Nat} {σ σ' : St} {j : Nat} {e : va_E} (hj : j + 2 < σ.1.length) (hlen : σ'.1.length = σ.1.length) (hsh : ∀ i, i ≠ j + 2 → σ'.1.getD i sh0 = σ.1.getD i sh0) (hI : ∀ i, i ≠ j + 2 → σ'.2.1 i = σ.2.1 i) (hL : ∀ i, i ≠ j + 2 → σ'.2.2 i = σ.2.2 i) (he : e = cel f ca (j + 2) (σ'.1.getD (j + 2) sh0) σ'.2.1 σ'.2.2) :
    (wld f ca σ).set j (f (j + 2), e) = wld f ca σ' := by
  apply List.ext_getElem?
  intro i
  by_cases hi : i + 2 < σ.1.length
  · rw [wld_get f ca σ' (by omega)]
    by_cases hij : j = i
    · subst hij
      rw [List.getElem?_set_self (by rw [wld_len]; omega), he]
    · rw [List.getElem?_set_ne hij, wld_get f ca σ hi, hsh (i + 2) (by omega), cel_congr (hI (i + 2) (by omega)) (hL (i + 2) (by omega))]
  · rw [List.getElem?_eq_none (by rw [List.length_set, wld_len]; omega), List.getElem?_eq_none (by rw [wld_len]; omega)]
def wB : List Int32 := [102, 101, 101, 32, 104, 105, 100, 101, 115, 32, 97, 100, 100, 115, 32, 114, 117, 108, 101, 32, 119, 111, 114, 116, 104, 32, 98, 101, 110, 100, 32, 98, 121, 32, 117, 110, 108, 101, 115, 115, 32, 111, 114, 32, 97, 110, 100, 32, 110, 111, 116, 32, 119, 104, 111, 32, 107, 105, 110, 100, 32, 115, 116, 114, 101, 110, 103, 116, 104, 32, 104, 111, 117, 114, 32, 112, 114, 105, 99, 101, 32, 109, 97, 110, 121, 32, 102, 97, 99, 116, 32]
def wTx : String := "fee hides adds rule worth bend by unless or and not who kind strength hour price many fact "
/-- what is known of a state from which a method begins: classes, the script's and the words' places, what lies below n0 is not written -/
def Bas (D : va_G) (ca f : Nat → Nat) (n0 : Nat) (s : State) : Prop :=
  va_K D vwCl [] s ∧ n0 ≤ s.heap.size ∧ f 0 < n0 ∧ (∀ (t : Nat) (cA : Nat), t < 4 → s.vm.findClass ("[" ++ (tyOf t).toString) = some cA → cA = ca t) ∧ vk_R RX10 62 wTx (f 1) s ∧ (∃ adV : Nat → Nat, vk_S 1 [91] [wB] (fun _ => f 1) adV (fun q => n0 ≤ q) s s.heap) ∧ va_Z "java/lang/String" "COMPACT_STRINGS" "Z" (.int 1) (fun q => n0 ≤ q) s s.heap ∧ (∀ w ∈ lw_n, va_Nw w s) ∧ va_AO RX5 s ∧ va_Zq "jdk/internal/util/Preconditions" "SIOOBE_FORMATTER" "Ljava/util/function/BiFunction;" (fun q => n0 ≤ q) s s.heap
theorem Bas.nw {D : va_G} {ca f : Nat → Nat} {n0 : Nat} {s : State} (h : Bas D ca f n0 s) {w : Cond} (hw : w ∈ lw_n) {a : Array Value} : w.before a s = true := by
  refine va_Nw.use ?_ (h.2.2.2.2.2.2.2.1 w hw)
  have h2 := (List.mem_filter.mp hw).2
  cases w <;> first | rfl | cases h2
theorem nw_warm {s U : State} (hW : s.WarmedH U.vm) {w : Cond} (hw : w ∈ lw_n) (h : va_Nw w s) : va_Nw w U := by
  have h2 := (List.mem_filter.mp hw).2
  cases w <;> first | exact va_Nw.warmF hW h | exact va_Nw.warmM hW h | cases h2
theorem nw_same {s U : State} (hv : s.vm = U.vm) {w : Cond} (hw : w ∈ lw_n) (h : va_Nw w s) : va_Nw w U := by
  refine va_Nw.same ?_ hv h
  have h2 := (List.mem_filter.mp hw).2
  cases w <;> first | rfl | cases h2
def Rel (D : va_G) (ca f : Nat → Nat) (n0 : Nat) (s : State) (σ : St) (H : Heap) : Prop :=
  va_P D vwCl (wld f ca σ) H ∧ va_D (fun q => n0 ≤ q) (wld f ca σ) ∧ (∀ (j t n : Nat) (rs : List (Option Nat)), σ.1[j + 2]? = some (.inr (t, n, rs)) → t < 4 ∧ ArrOfT s (ca t) (tyOf t) ∧ va_RA s (ca t) (tyOf t)) ∧ (∀ (n : Nat) (rs : List (Option Nat)), σ.1[0]? = some (.inr (9, n, rs)) → va_X (f 0) n (σ.2.1 0) s H)
def agr (σ σ' : St) (f f' : Nat → Nat) : Prop := (∀ j, j < σ.1.length → f' j = f j) ∧ σ.1.length ≤ σ'.1.length ∧ (σ'.1.length = σ.1.length → f' = f) ∧ f' 0 = f 0 ∧ f' 1 = f 1
theorem agr.rf {σ σ' : St} {f : Nat → Nat} (h : σ'.1.length = σ.1.length) : agr σ σ' f f := ⟨fun _ _ => rfl, by omega, fun _ => rfl, rfl, rfl⟩
theorem agr.tr {σ σ1 σ2 : St} {f f1 f2 : Nat → Nat} (h : agr σ σ1 f f1) (h2 : agr σ1 σ2 f1 f2) : agr σ σ2 f f2 := by
  obtain ⟨a1, a2, a3, a4, a5⟩ := h
  obtain ⟨b1, b2, b3, b4, b5⟩ := h2
  refine ⟨fun j hj => (b1 j (by omega)).trans (a1 j hj), by omega, fun he => ?_, b4.trans a4, b5.trans a5⟩
  rw [b3 (by omega), a3 (by omega)]
def LR (f : Nat → Nat) (nL : Nat) (lsC : Array Slot) (ls : List Value) : Prop := lsC.size = nL ∧ lv_wf lsC ∧ ∀ (i : Nat) (v : Value), ls[i]? = some v → v ≠ .null → lsC[i]? = some (.val (cvv f v))
def rok (ret : Option FieldType) (r : Option Value) (ins : Instr) : Prop := match ret, r, ins with
  | none, none, .return_ => True
  | some .int, some (.int _), .ireturn => True
  | some .boolean, some (.int v), .ireturn => narrow .boolean (.int v) = .int v
  | some .long, some (.long _), .lreturn => True
  | some (.object _), some (.ref _), .areturn => True
  | _, _, _ => False
def Cx (M : Mth) (p : Program) (s : State) (m : MethodId) (args : Array Value) (meth : Method) (c : Code) (D : va_G) (ca f : Nat → Nat) (n0 : Nat) : Prop :=
  p.tables.exec = Jvm.exec ∧ c.code = mcc M ∧ c.maxLocals = mml M ∧ meth.sig.returnType = mret M ∧ s.vm.findClass (cnm M.1) = some m.cls ∧ (∀ w ∈ lw_g, w.before args s = true) ∧ meth.locks = false ∧ ((my M).name = "<init>" → meth.name = "<init>") ∧ okT (mcc M) (mtab M) = true ∧ Bas D ca f n0 s
def HFv (R : Room) (M : Mth) (Q : Option Value → St → Prop) (p : Program) (l : Launch) (e : Env) (s : State) (m : MethodId) (args : Array Value) (below : List Frame) (meth : Method) (c : Code) (D : va_G) (ca : Nat → Nat) (n0 : Nat) (Qf : State → Prop) (f : Nat → Nat) (σ : St) : Prop :=
  ∀ (f' : Nat → Nat) (σ' : St) (r : Option Value) (H' : Heap) (locs' : List Loc) (k' n' pc' : Nat) (ls' : Array Slot) (ins : Instr), agr σ σ' f f' → Q r σ' → rok (mret M) r ins → decode (mcc M) pc' = .ok (ins, 1) → Rel D ca f' n0 s σ' H' → va_S (fun q => n0 ≤ q) s.heap H' locs' → k' ≤ R.cells → n' ≤ R.slots → W p l e R s m args below meth c H' locs' k' n' Qf (F0 m pc' ls' (r.toList.map (cvv f')))
def V (R : Room) (M : Mth) (k n pc : Nat) (ls st : List Value) (σ : St) (Q : Option Value → St → Prop) : Prop :=
  ∀ (p : Program) (l : Launch) (e : Env) (s : State) (m : MethodId) (args : Array Value) (below : List Frame) (meth : Method) (c : Code) (D : va_G) (ca f : Nat → Nat) (n0 : Nat) (Qf : State → Prop),
    Cx M p s m args meth c D ca f n0 → HFv R M Q p l e s m args below meth c D ca n0 Qf f σ → ∀ (H : Heap) (locs : List Loc) (lsC : Array Slot), Rel D ca f n0 s σ H → va_S (fun q => n0 ≤ q) s.heap H locs → LR f (mml M) lsC ls →
      W p l e R s m args below meth c H locs k n Qf (F0 m pc lsC (st.map (cvv f)))
def setL (ls : List Value) (i : Nat) (v : Value) : List Value := match ls, i with
  | [], 0 => [v]
  | [], i + 1 => .null :: setL [] i v
  | _ :: r, 0 => v :: r
  | x :: r, i + 1 => x :: setL r i v
def okS0 (ls : List Value) (i : Nat) : Bool := match i with
  | 0 => true
  | j + 1 => match ls[j]? with
    | some (.long _) => false
    | some (.double _) => false
    | _ => true
def okS (nL : Nat) (ls : List Value) (i : Nat) : Bool := Nat.blt i nL && okS0 ls i
theorem okS_lt {nL : Nat} {ls : List Value} {i : Nat} (h : okS nL ls i = true) : i < nL := by
  unfold okS at h
  rw [Bool.and_eq_true] at h
  exact Nat.le_of_ble_eq_true h.1
def allP (o : List Prop) : Prop := match o with
  | [] => True
  | [p] => p
  | p :: r => p ∧ allP r
theorem allP_cons {p : Prop} {r : List Prop} (h : allP (p :: r)) : p ∧ allP r := by
  cases r with
  | nil => exact ⟨h, trivial⟩
  | cons q r => exact h
theorem allP_app {a b : List Prop} (h : allP (a ++ b)) : allP a ∧ allP b := by
  induction a with
  | nil => exact ⟨trivial, h⟩
  | cons p r ih =>
    obtain ⟨h1, h2⟩ := allP_cons h
    obtain ⟨h3, h4⟩ := ih h2
    refine ⟨?_, h4⟩
    cases r with
    | nil => exact h1
    | cons q r => exact ⟨h1, h3⟩
def isB (x : Int32) : Prop := x = 0 ∨ x = 1
theorem isB_nar {x : Int32} (h : isB x) : narrow .boolean (.int x) = .int x ∧ fits .boolean (.int x) = true := by
  rcases h with rfl | rfl <;> exact ⟨by decide, by decide⟩
/-- what only the operand stack sees -/
def psk (own : Nat) (ins : Instr) (st : List Value) : Option (List Prop × List Value) := match ins with
  | .iconst n => some ([], .int (Int32.ofInt n) :: st)
  | .bipush n => some ([], .int (Int8.ofInt n).toInt32 :: st)
  | .sipush n => some ([], .int (Int16.ofInt n).toInt32 :: st)
  | .lconst n => some ([], .long (Int64.ofNat n) :: st)
  | .ldc i => match kil own i with
    | some v => some ([], .int v :: st)
    | none => none
  | .ldc_w i => match kil own i with
    | some v => some ([], .int v :: st)
    | none => none
  | .ldc2_w i => match kll own i with
    | some v => some ([], .long v :: st)
    | none => none
  | .iadd => match st with | .int y :: .int x :: r => some ([], .int (x + y) :: r) | _ => none
  | .isub => match st with | .int y :: .int x :: r => some ([], .int (x - y) :: r) | _ => none
  | .imul => match st with | .int y :: .int x :: r => some ([], .int (x * y) :: r) | _ => none
  | .idiv => match st with | .int y :: .int x :: r => some ([¬ y = 0], .int (x / y) :: r) | _ => none
  | .irem => match st with | .int y :: .int x :: r => some ([¬ y = 0], .int (x - x / y * y) :: r) | _ => none
  | .iand => match st with | .int y :: .int x :: r => some ([], .int (x &&& y) :: r) | _ => none
  | .ior => match st with | .int y :: .int x :: r => some ([], .int (x ||| y) :: r) | _ => none
  | .ixor => match st with | .int y :: .int x :: r => some ([], .int (x ^^^ y) :: r) | _ => none
  | .ishl => match st with | .int y :: .int x :: r => some ([], .int (x <<< (y &&& 31)) :: r) | _ => none
  | .ishr => match st with | .int y :: .int x :: r => some ([], .int (x >>> (y &&& 31)) :: r) | _ => none
  | .iushr => match st with | .int y :: .int x :: r => some ([], .int (x.toUInt32 >>> (y.toUInt32 &&& Int32.toUInt32 31)).toInt32 :: r) | _ => none
  | .ineg => match st with | .int x :: r => some ([], .int (-x) :: r) | _ => none
  | .i2l => match st with | .int x :: r => some ([], .long x.toInt64 :: r) | _ => none
  | .l2i => match st with | .long x :: r => some ([], .int x.toInt32 :: r) | _ => none
  | .ladd => match st with | .long y :: .long x :: r => some ([], .long (x + y) :: r) | _ => none
  | .lsub => match st with | .long y :: .long x :: r => some ([], .long (x - y) :: r) | _ => none
  | .lmul => match st with | .long y :: .long x :: r => some ([], .long (x * y) :: r) | _ => none
  | .ldiv => match st with | .long y :: .long x :: r => some ([¬ y = 0], .long (x / y) :: r) | _ => none
  | .land => match st with | .long y :: .long x :: r => some ([], .long (x &&& y) :: r) | _ => none
  | .lor => match st with | .long y :: .long x :: r => some ([], .long (x ||| y) :: r) | _ => none
  | .lneg => match st with | .long x :: r => some ([], .long (-x) :: r) | _ => none
  | .lshl => match st with | .int y :: .long x :: r => some ([], .long (x <<< (y.toInt64 &&& 63)) :: r) | _ => none
  | .lcmp => match st with | .long y :: .long x :: r => some ([], .int (lg_cmp x y) :: r) | _ => none
  | .dup => match st with | .int x :: r => some ([], .int x :: .int x :: r) | .ref x :: r => some ([], .ref x :: .ref x :: r) | _ => none
  | .dup2 => match st with | .int y :: .int x :: r => some ([], .int y :: .int x :: .int y :: .int x :: r) | .int y :: .ref x :: r => some ([], .int y :: .ref x :: .int y :: .ref x :: r) | _ => none
  | _ => none
def ldv (ls : List Value) (i kd : Nat) : Option Value := match ls[i]?, kd with
  | some (.int x), 0 => some (.int x)
  | some (.long x), 1 => some (.long x)
  | some (.ref x), 2 => some (.ref x)
  | _, _ => none
def cnd (c : Jvm.ClassFile.Cond) (x y : Int32) (nx tg : Nat) : Nat := match c with
  | .eq => if x = y then tg else nx
  | .ne => if x = y then nx else tg
  | .lt => if x < y then tg else nx
  | .ge => if y ≤ x then tg else nx
  | .gt => if y < x then tg else nx
  | .le => if x ≤ y then tg else nx
def tsw (d lo hi : Int) (offs : Array Int) (v : Int) : Int := if v < lo ∨ hi < v then d else offs.getD (v - lo).toNat d
def gfv (ci k : Nat) (rs : List (Option Nat)) (i : Nat → Int32) (l : Nat → Int64) : Option Value := match (fty ci k).1 with
  | 0 => some (.int (i k))
  | 1 => some (.long (l k))
  | 2 => some (.int (i k))
  | _ => match rs.getD k none with
    | some j => some (.ref j)
    | none => none
abbrev OpR : Type := Option (List Prop × Nat × List Value × List Value × St)
def hGet (own i nx : Nat) (ls st : List Value) (σ : St) : OpR := match st with
  | .ref (j + 2) :: r => match flk own i, σ.1[j + 2]? with
    | some q, some (.inl o) => cond (Nat.beq o.1 q.1) (match gfv q.1 q.2 o.2 (σ.2.1 (j + 2)) (σ.2.2 (j + 2)) with
      | some v => some ([], nx, ls, v :: r, σ)
      | none => none) none
    | _, _ => none
  | _ => none
def hPutI (q : Nat × Nat) (j : Nat) (x : Int32) (nx : Nat) (ls r : List Value) (σ : St) : OpR := match fty q.1 q.2 with
  | (0, false) => some ([], nx, ls, r, (σ.1, up2 σ.2.1 (j + 2) q.2 x, σ.2.2))
  | (2, false) => some ([isB x], nx, ls, r, (σ.1, up2 σ.2.1 (j + 2) q.2 x, σ.2.2))
  | _ => none
def hPutL (q : Nat × Nat) (j : Nat) (x : Int64) (nx : Nat) (ls r : List Value) (σ : St) : OpR := match fty q.1 q.2 with
  | (1, false) => some ([], nx, ls, r, (σ.1, σ.2.1, up2 σ.2.2 (j + 2) q.2 x))
  | _ => none
def hPut (own i nx : Nat) (ls st : List Value) (σ : St) : OpR := match st with
  | .int x :: .ref (j + 2) :: r => match flk own i, σ.1[j + 2]? with
    | some q, some (.inl o) => cond (Nat.beq o.1 q.1) (hPutI q j x nx ls r σ) none
    | _, _ => none
  | .long x :: .ref (j + 2) :: r => match flk own i, σ.1[j + 2]? with
    | some q, some (.inl o) => cond (Nat.beq o.1 q.1) (hPutL q j x nx ls r σ) none
    | _, _ => none
  | _ => none
def hIal (nx : Nat) (ls st : List Value) (σ : St) : OpR := match st with
  | .int i :: .ref 0 :: r => match (σ.1[0]? : Option Shp) with
    | some (.inr (9, n, _)) => some ([vp_in i n], nx, ls, .int (σ.2.1 0 i.toNatClampNeg) :: r, σ)
    | _ => none
  | .int i :: .ref (j + 2) :: r => match σ.1[j + 2]? with
    | some (.inr (0, n, _)) => some ([vp_in i n], nx, ls, .int (σ.2.1 (j + 2) i.toNatClampNeg) :: r, σ)
    | _ => none
  | _ => none
def hBal (nx : Nat) (ls st : List Value) (σ : St) : OpR := match st with
  | .int i :: .ref (j + 2) :: r => match σ.1[j + 2]? with
    | some (.inr (2, n, _)) => some ([vp_in i n], nx, ls, .int (σ.2.1 (j + 2) i.toNatClampNeg) :: r, σ)
    | _ => none
  | _ => none
def hLal (nx : Nat) (ls st : List Value) (σ : St) : OpR := match st with
  | .int i :: .ref (j + 2) :: r => match σ.1[j + 2]? with
    | some (.inr (1, n, _)) => some ([vp_in i n], nx, ls, .long (σ.2.2 (j + 2) i.toNatClampNeg) :: r, σ)
    | _ => none
  | _ => none
def hAal (nx : Nat) (ls st : List Value) (σ : St) : OpR := match st with
  | .int i :: .ref (j + 2) :: r => match σ.1[j + 2]? with
    | some (.inr (3, n, rs)) => some ([vp_in i n, (rs.getD i.toNatClampNeg none).isSome = true], nx, ls, .ref ((rs.getD i.toNatClampNeg none).getD 0) :: r, σ)
    | _ => none
  | _ => none
def hIas (nx : Nat) (ls st : List Value) (σ : St) : OpR := match st with
  | .int x :: .int i :: .ref (j + 2) :: r => match σ.1[j + 2]? with
    | some (.inr (0, n, _)) => some ([vp_in i n], nx, ls, r, (σ.1, up2 σ.2.1 (j + 2) i.toNatClampNeg x, σ.2.2))
    | _ => none
  | _ => none
def hBas (nx : Nat) (ls st : List Value) (σ : St) : OpR := match st with
  | .int x :: .int i :: .ref (j + 2) :: r => match σ.1[j + 2]? with
    | some (.inr (2, n, _)) => some ([vp_in i n, isB x], nx, ls, r, (σ.1, up2 σ.2.1 (j + 2) i.toNatClampNeg x, σ.2.2))
    | _ => none
  | _ => none
def hLas (nx : Nat) (ls st : List Value) (σ : St) : OpR := match st with
  | .long x :: .int i :: .ref (j + 2) :: r => match σ.1[j + 2]? with
    | some (.inr (1, n, _)) => some ([vp_in i n], nx, ls, r, (σ.1, σ.2.1, up2 σ.2.2 (j + 2) i.toNatClampNeg x))
    | _ => none
  | _ => none
def hLen (nx : Nat) (ls st : List Value) (σ : St) : OpR := match st with
  | .ref 0 :: r => match (σ.1[0]? : Option Shp) with
    | some (.inr (9, n, _)) => some ([], nx, ls, .int (Int32.ofNat n) :: r, σ)
    | _ => none
  | .ref (j + 2) :: r => match σ.1[j + 2]? with
    | some (.inr q) => some ([], nx, ls, .int (Int32.ofNat q.2.1) :: r, σ)
    | _ => none
  | _ => none
def hop (own : Nat) (ins : Instr) (nx : Nat) (ls st : List Value) (σ : St) : OpR := match ins with
  | .getfield i => hGet own i nx ls st σ
  | .putfield i => hPut own i nx ls st σ
  | .iaload => hIal nx ls st σ
  | .baload => hBal nx ls st σ
  | .laload => hLal nx ls st σ
  | .aaload => hAal nx ls st σ
  | .iastore => hIas nx ls st σ
  | .bastore => hBas nx ls st σ
  | .lastore => hLas nx ls st σ
  | .arraylength => hLen nx ls st σ
  | _ => none
def lop (nL : Nat) (ins : Instr) (pc nx tg : Nat) (ls st : List Value) (σ : St) : OpR := match ins with
  | .iload_n k => match ldv ls k 0 with | some v => some ([], nx, ls, v :: st, σ) | none => none
  | .iload i => match ldv ls i 0 with | some v => some ([], nx, ls, v :: st, σ) | none => none
  | .lload_n k => match ldv ls k 1 with | some v => some ([], nx, ls, v :: st, σ) | none => none
  | .lload i => match ldv ls i 1 with | some v => some ([], nx, ls, v :: st, σ) | none => none
  | .aload_n k => match ldv ls k 2 with | some v => some ([], nx, ls, v :: st, σ) | none => none
  | .aload i => match ldv ls i 2 with | some v => some ([], nx, ls, v :: st, σ) | none => none
  | .istore_n k => match st with | .int x :: r => cond (okS nL ls k) (some ([], nx, setL ls k (.int x), r, σ)) none | _ => none
  | .istore i => match st with | .int x :: r => cond (okS nL ls i) (some ([], nx, setL ls i (.int x), r, σ)) none | _ => none
  | .astore_n k => match st with | .ref x :: r => cond (okS nL ls k) (some ([], nx, setL ls k (.ref x), r, σ)) none | _ => none
  | .astore i => match st with | .ref x :: r => cond (okS nL ls i) (some ([], nx, setL ls i (.ref x), r, σ)) none | _ => none
  | .iinc i c => match ls[i]? with | some (.int x) => cond (okS nL ls i) (some ([], nx, setL ls i (.int (x + Int32.ofInt c)), st, σ)) none | _ => none
  | .goto _ => some ([], tg, ls, st, σ)
  | .ifCond c _ => match st with | .int x :: r => some ([], cnd c x 0 nx tg, ls, r, σ) | _ => none
  | .if_icmp c _ => match st with | .int y :: .int x :: r => some ([], cnd c x y nx tg, ls, r, σ) | _ => none
  | .tableswitch d lo hi offs => match st with | .int x :: r => some ([0 ≤ (pc : Int) + tsw d lo hi offs x.toInt, (x.toInt < lo ∨ hi < x.toInt) ∨ (x.toInt - lo).toNat < offs.size], ((pc : Int) + tsw d lo hi offs x.toInt).toNat, ls, r, σ) | _ => none
  | .lookupswitch d ps => match st with | .int x :: r => some ([0 ≤ (pc : Int) + Op.lookupswitch.offset ps.toList d x.toInt, (ps.toList.zip (ps.toList.drop 1)).all (fun (a, next) => a.1 < next.1) = true], ((pc : Int) + Op.lookupswitch.offset ps.toList d x.toInt).toNat, ls, r, σ) | _ => none
  | _ => none
def stp (M : Mth) (pc : Nat) (ls st : List Value) (σ : St) : OpR := match lk2 (mtab M) pc with
  | none => none
  | some (ins, nx, tg) => match psk M.1 ins st with
    | some q => some (q.1, nx, ls, q.2, σ)
    | none => match lop (mml M) ins pc nx tg ls st σ with
      | some q => some q
      | none => hop M.1 ins nx ls st σ
def stps (M : Mth) (n : Nat) (pc : Nat) (ls st : List Value) (σ : St) : OpR := match n with
  | 0 => some ([], pc, ls, st, σ)
  | n + 1 => match stp M pc ls st σ with
    | none => none
    | some q => match stps M n q.2.1 q.2.2.1 q.2.2.2.1 q.2.2.2.2 with
      | none => none
      | some w => some (q.1 ++ w.1, w.2)
theorem tab_ok {cc : ByteArray} {t : Tab} {pc : Nat} {ins : Instr} {nx tg : Nat} (hT : okT cc t = true) (hl : lk2 t pc = some (ins, nx, tg)) : decode cc pc = .ok (ins, nx - pc) ∧ (lnI ins = 0 ∨ nx = pc + lnI ins) ∧ tgQ (pc, ins, nx, tg) = true := by
  have hm := lk2_mem hl
  have h1 := List.all_eq_true.mp hT _ hm
  simp only [Bool.and_eq_true, decide_eq_true_eq] at h1
  exact ⟨h1.1.1, h1.1.2, h1.2⟩
theorem dec_of {cc : ByteArray} {pc nx L : Nat} {ins : Instr} (hd : decode cc pc = .ok (ins, nx - pc)) (e : nx = pc + L) : decode cc pc = .ok (ins, L) := by
  rw [hd, e, Nat.add_sub_cancel_left]
theorem ldv_ok {f : Nat → Nat} {nL : Nat} {lsC : Array Slot} {ls : List Value} {i kd : Nat} {v : Value} (hL : LR f nL lsC ls) (h : ldv ls i kd = some v) : lsC[i]? = some (.val (cvv f v)) ∧ ((kd = 0 ∧ ∃ x, v = .int x) ∨ (kd = 1 ∧ ∃ x, v = .long x) ∨ (kd = 2 ∧ ∃ x, v = .ref x)) := by
  unfold ldv at h
  split at h
  · rename_i x e; cases h; exact ⟨hL.2.2 i _ e (by intro h; cases h), Or.inl ⟨rfl, _, rfl⟩⟩
  · rename_i x e; cases h; exact ⟨hL.2.2 i _ e (by intro h; cases h), Or.inr (Or.inl ⟨rfl, _, rfl⟩)⟩
  · rename_i x e; cases h; exact ⟨hL.2.2 i _ e (by intro h; cases h), Or.inr (Or.inr ⟨rfl, _, rfl⟩)⟩
  · cases h
theorem setL_get (ls : List Value) (i : Nat) (v : Value) : ∀ (j : Nat) (w : Value), (setL ls i v)[j]? = some w → (j = i ∧ w = v) ∨ (j ≠ i ∧ (ls[j]? = some w ∨ w = .null)) := by
  induction ls, i using setL.induct with
  | case1 =>
    intro j w h
    unfold setL at h
    match j, h with
    | 0, h => simp at h; exact Or.inl ⟨rfl, h.symm⟩
    | j + 1, h => simp at h
  | case2 i ih =>
    intro j w h
    unfold setL at h
    match j, h with
    | 0, h => simp at h; exact Or.inr ⟨by omega, Or.inr h.symm⟩
    | j + 1, h =>
      rcases ih j w (by simpa using h) with ⟨a, b⟩ | ⟨a, b⟩
      · exact Or.inl ⟨by omega, b⟩
      · exact Or.inr ⟨by omega, by simpa using b⟩
  | case3 x r =>
    intro j w h
    unfold setL at h
    match j, h with
    | 0, h => simp at h; exact Or.inl ⟨rfl, h.symm⟩
    | j + 1, h => exact Or.inr ⟨by omega, Or.inl (by simpa using h)⟩
  | case4 x r i ih =>
    intro j w h
    unfold setL at h
    match j, h with
    | 0, h => exact Or.inr ⟨by omega, Or.inl (by simpa using h)⟩
    | j + 1, h =>
      rcases ih j w (by simpa using h) with ⟨a, b⟩ | ⟨a, b⟩
      · exact Or.inl ⟨by omega, b⟩
      · exact Or.inr ⟨by omega, by simpa using b⟩
/-- the listed locals, as pairs of place and value -/
def asc (f : Nat → Nat) (ls : List Value) : List (Nat × Value) := (List.range ls.length).filterMap (fun i => match (ls[i]? : Option Value) with
  | some .null => none
  | some v => some (i, cvv f v)
  | none => none)
theorem asc_mem {f : Nat → Nat} {ls : List Value} {i : Nat} {v : Value} (h : ls[i]? = some v) (hv : v ≠ .null) : (i, cvv f v) ∈ asc f ls := by
  unfold asc
  refine List.mem_filterMap.mpr ⟨i, List.mem_range.mpr (List.getElem?_eq_some_iff.mp h).1, ?_⟩
  rw [h]
  cases v <;> first | rfl | exact absurd rfl hv
theorem asc_of {f : Nat → Nat} {ls : List Value} {q : Nat × Value} (h : q ∈ asc f ls) : ∃ v, ls[q.1]? = some v ∧ v ≠ .null ∧ q.2 = cvv f v := by
  unfold asc at h
  obtain ⟨i, -, h⟩ := List.mem_filterMap.mp h
  split at h
  · cases h
  · rename_i v hne e
    cases h
    exact ⟨v, e, fun hh => hne (hh ▸ rfl), rfl⟩
  · cases h
theorem cvv_cat (f : Nat → Nat) (v : Value) : (cvv f v).category = v.category := by cases v <;> rfl
theorem LR.has {f : Nat → Nat} {nL : Nat} {lsC : Array Slot} {ls : List Value} (h : LR f nL lsC ls) : lv_has lsC nL (asc f ls) := by
  refine ⟨h.1, h.2.1, fun q hq => ?_⟩
  obtain ⟨v, h1, h2, h3⟩ := asc_of hq
  rw [h3]
  exact h.2.2 _ _ h1 h2
theorem okS_cat {nL : Nat} {ls : List Value} {i j : Nat} {w : Value} (hok : okS nL ls i = true) (hj : j + 1 = i) (h : ls[j]? = some w) : w.category = 1 := by
  subst hj
  unfold okS at hok
  rw [Bool.and_eq_true] at hok
  have hok2 := hok.2
  simp only [okS0, h] at hok2
  cases w with
  | long x => simp at hok2
  | double x => simp at hok2
  | _ => rfl
theorem LR.store {f : Nat → Nat} {nL : Nat} {lsC' : Array Slot} {ls : List Value} {i : Nat} {v : Value} (hok : okS nL ls i = true) (h : lv_has lsC' nL ((i, cvv f v) :: (asc f ls).filter (fun q => !(q.1 == i) && !(q.1 + 1 == i && q.2.category == 2)))) : LR f nL lsC' (setL ls i v) := by
  refine ⟨h.1, h.2.1, fun j w hj hw => ?_⟩
  rcases setL_get ls i v j w hj with ⟨rfl, rfl⟩ | ⟨hne, hh | hh⟩
  · exact h.2.2 _ List.mem_cons_self
  · refine h.2.2 (j, cvv f w) (List.mem_cons_of_mem _ (List.mem_filter.mpr ⟨asc_mem hh hw, ?_⟩))
    have h1 : (j == i) = false := by simpa using hne
    by_cases hji : j + 1 = i
    · have := okS_cat hok hji hh
      simp [h1, cvv_cat, this]
    · simp [h1, hji]
  · exact absurd hh hw
