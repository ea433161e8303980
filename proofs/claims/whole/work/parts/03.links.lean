/-! what the constant pools link: fields by (class, number), methods by their tables; each word by its place in tables_1 -/
def lw_g : List Cond := lw_tbl.filter goodWord
def isN : Cond → Bool
  | .fieldLinkNest .. => true
  | .methodLinkNest .. => true
  | _ => false
def lw_n : List Cond := lw_tbl.filter isN
theorem lw_gi {w : Cond} (h : w ∈ lw_tbl) (hg : goodWord w = true) : w ∈ lw_g := List.mem_filter.mpr ⟨h, hg⟩
theorem tbm {w : Cond} (i : Nat) (h : tables_1[i]? = some w) : w ∈ lw_tbl := List.mem_append_right _ (List.mem_of_getElem? h)
theorem tb1 {w : Cond} (i : Nat) (h : tables_1_1[i]? = some w) (hg : goodWord w = true := by rfl) : w ∈ lw_g := lw_gi (List.mem_append_right _ (List.mem_append_left _ (List.mem_of_getElem? h))) hg
theorem tn1 {w : Cond} (i : Nat) (h : tables_1_1[i]? = some w) (hg : isN w = true := by rfl) : w ∈ lw_n := List.mem_filter.mpr ⟨List.mem_append_right _ (List.mem_append_left _ (List.mem_of_getElem? h)), hg⟩
theorem tb2 {w : Cond} (i : Nat) (h : tables_1_2[i]? = some w) (hg : goodWord w = true := by rfl) : w ∈ lw_g := lw_gi (List.mem_append_right _ (List.mem_append_right _ (List.mem_append_left _ (List.mem_of_getElem? h)))) hg
theorem tn2 {w : Cond} (i : Nat) (h : tables_1_2[i]? = some w) (hg : isN w = true := by rfl) : w ∈ lw_n := List.mem_filter.mpr ⟨List.mem_append_right _ (List.mem_append_right _ (List.mem_append_left _ (List.mem_of_getElem? h))), hg⟩
theorem tb3 {w : Cond} (i : Nat) (h : tables_1_3[i]? = some w) (hg : goodWord w = true := by rfl) : w ∈ lw_g := lw_gi (List.mem_append_right _ (List.mem_append_right _ (List.mem_append_right _ (List.mem_append_left _ (List.mem_of_getElem? h))))) hg
theorem tn3 {w : Cond} (i : Nat) (h : tables_1_3[i]? = some w) (hg : isN w = true := by rfl) : w ∈ lw_n := List.mem_filter.mpr ⟨List.mem_append_right _ (List.mem_append_right _ (List.mem_append_right _ (List.mem_append_left _ (List.mem_of_getElem? h)))), hg⟩
theorem tb4 {w : Cond} (i : Nat) (h : tables_1_4[i]? = some w) (hg : goodWord w = true := by rfl) : w ∈ lw_g := lw_gi (List.mem_append_right _ (List.mem_append_right _ (List.mem_append_right _ (List.mem_append_right _ (List.mem_append_left _ (List.mem_of_getElem? h)))))) hg
theorem tn4 {w : Cond} (i : Nat) (h : tables_1_4[i]? = some w) (hg : isN w = true := by rfl) : w ∈ lw_n := List.mem_filter.mpr ⟨List.mem_append_right _ (List.mem_append_right _ (List.mem_append_right _ (List.mem_append_right _ (List.mem_append_left _ (List.mem_of_getElem? h))))), hg⟩
theorem tb5 {w : Cond} (i : Nat) (h : tables_1_5[i]? = some w) (hg : goodWord w = true := by rfl) : w ∈ lw_g := lw_gi (List.mem_append_right _ (List.mem_append_right _ (List.mem_append_right _ (List.mem_append_right _ (List.mem_append_right _ (List.mem_append_left _ (List.mem_of_getElem? h))))))) hg
theorem tn5 {w : Cond} (i : Nat) (h : tables_1_5[i]? = some w) (hg : isN w = true := by rfl) : w ∈ lw_n := List.mem_filter.mpr ⟨List.mem_append_right _ (List.mem_append_right _ (List.mem_append_right _ (List.mem_append_right _ (List.mem_append_right _ (List.mem_append_left _ (List.mem_of_getElem? h)))))), hg⟩
theorem tb6 {w : Cond} (i : Nat) (h : tables_1_6[i]? = some w) (hg : goodWord w = true := by rfl) : w ∈ lw_g := lw_gi (List.mem_append_right _ (List.mem_append_right _ (List.mem_append_right _ (List.mem_append_right _ (List.mem_append_right _ (List.mem_append_right _ (List.mem_append_left _ (List.mem_of_getElem? h)))))))) hg
theorem tn6 {w : Cond} (i : Nat) (h : tables_1_6[i]? = some w) (hg : isN w = true := by rfl) : w ∈ lw_n := List.mem_filter.mpr ⟨List.mem_append_right _ (List.mem_append_right _ (List.mem_append_right _ (List.mem_append_right _ (List.mem_append_right _ (List.mem_append_right _ (List.mem_append_left _ (List.mem_of_getElem? h))))))), hg⟩
theorem tb7 {w : Cond} (i : Nat) (h : tables_1_7[i]? = some w) (hg : goodWord w = true := by rfl) : w ∈ lw_g := lw_gi (List.mem_append_right _ (List.mem_append_right _ (List.mem_append_right _ (List.mem_append_right _ (List.mem_append_right _ (List.mem_append_right _ (List.mem_append_right _ (List.mem_of_getElem? h)))))))) hg
theorem tn7 {w : Cond} (i : Nat) (h : tables_1_7[i]? = some w) (hg : isN w = true := by rfl) : w ∈ lw_n := List.mem_filter.mpr ⟨List.mem_append_right _ (List.mem_append_right _ (List.mem_append_right _ (List.mem_append_right _ (List.mem_append_right _ (List.mem_append_right _ (List.mem_append_right _ (List.mem_of_getElem? h))))))), hg⟩
theorem tbp1 {w : Cond} (i : Nat) (h : (k2_sels lw_privs_1)[i]? = some w) (hg : goodWord w = true := by rfl) : w ∈ lw_g := by
  refine lw_gi ?_ hg
  have h1 := List.mem_of_getElem? h
  obtain ⟨q, hq, rfl⟩ := List.mem_map.mp h1
  exact List.mem_append_left _ (List.mem_map.mpr ⟨q, List.mem_append_left _ (hq), rfl⟩)
theorem tbp2 {w : Cond} (i : Nat) (h : (k2_sels lw_privs_2)[i]? = some w) (hg : goodWord w = true := by rfl) : w ∈ lw_g := by
  refine lw_gi ?_ hg
  have h1 := List.mem_of_getElem? h
  obtain ⟨q, hq, rfl⟩ := List.mem_map.mp h1
  exact List.mem_append_left _ (List.mem_map.mpr ⟨q, List.mem_append_right _ (List.mem_append_left _ (hq)), rfl⟩)
theorem tbp3 {w : Cond} (i : Nat) (h : (k2_sels lw_privs_3)[i]? = some w) (hg : goodWord w = true := by rfl) : w ∈ lw_g := by
  refine lw_gi ?_ hg
  have h1 := List.mem_of_getElem? h
  obtain ⟨q, hq, rfl⟩ := List.mem_map.mp h1
  exact List.mem_append_left _ (List.mem_map.mpr ⟨q, List.mem_append_right _ (List.mem_append_right _ (List.mem_append_left _ (hq))), rfl⟩)
theorem tbp4 {w : Cond} (i : Nat) (h : (k2_sels lw_privs_4)[i]? = some w) (hg : goodWord w = true := by rfl) : w ∈ lw_g := by
  refine lw_gi ?_ hg
  have h1 := List.mem_of_getElem? h
  obtain ⟨q, hq, rfl⟩ := List.mem_map.mp h1
  exact List.mem_append_left _ (List.mem_map.mpr ⟨q, List.mem_append_right _ (List.mem_append_right _ (List.mem_append_right _ (List.mem_append_left _ (hq)))), rfl⟩)
theorem tbp5 {w : Cond} (i : Nat) (h : (k2_sels lw_privs_5)[i]? = some w) (hg : goodWord w = true := by rfl) : w ∈ lw_g := by
  refine lw_gi ?_ hg
  have h1 := List.mem_of_getElem? h
  obtain ⟨q, hq, rfl⟩ := List.mem_map.mp h1
  exact List.mem_append_left _ (List.mem_map.mpr ⟨q, List.mem_append_right _ (List.mem_append_right _ (List.mem_append_right _ (List.mem_append_right _ (List.mem_append_left _ (hq))))), rfl⟩)
theorem tbp6 {w : Cond} (i : Nat) (h : (k2_sels lw_privs_6)[i]? = some w) (hg : goodWord w = true := by rfl) : w ∈ lw_g := by
  refine lw_gi ?_ hg
  have h1 := List.mem_of_getElem? h
  obtain ⟨q, hq, rfl⟩ := List.mem_map.mp h1
  exact List.mem_append_left _ (List.mem_map.mpr ⟨q, List.mem_append_right _ (List.mem_append_right _ (List.mem_append_right _ (List.mem_append_right _ (List.mem_append_right _ (List.mem_append_left _ (hq)))))), rfl⟩)
theorem tbp7 {w : Cond} (i : Nat) (h : (k2_sels lw_privs_7)[i]? = some w) (hg : goodWord w = true := by rfl) : w ∈ lw_g := by
  refine lw_gi ?_ hg
  have h1 := List.mem_of_getElem? h
  obtain ⟨q, hq, rfl⟩ := List.mem_map.mp h1
  exact List.mem_append_left _ (List.mem_map.mpr ⟨q, List.mem_append_right _ (List.mem_append_right _ (List.mem_append_right _ (List.mem_append_right _ (List.mem_append_right _ (List.mem_append_right _ (List.mem_append_left _ (hq))))))), rfl⟩)
theorem tbp8 {w : Cond} (i : Nat) (h : (k2_sels lw_privs_8)[i]? = some w) (hg : goodWord w = true := by rfl) : w ∈ lw_g := by
  refine lw_gi ?_ hg
  have h1 := List.mem_of_getElem? h
  obtain ⟨q, hq, rfl⟩ := List.mem_map.mp h1
  exact List.mem_append_left _ (List.mem_map.mpr ⟨q, List.mem_append_right _ (List.mem_append_right _ (List.mem_append_right _ (List.mem_append_right _ (List.mem_append_right _ (List.mem_append_right _ (List.mem_append_right _ (List.mem_append_left _ (hq)))))))), rfl⟩)
theorem tbp9 {w : Cond} (i : Nat) (h : (k2_sels lw_privs_9)[i]? = some w) (hg : goodWord w = true := by rfl) : w ∈ lw_g := by
  refine lw_gi ?_ hg
  have h1 := List.mem_of_getElem? h
  obtain ⟨q, hq, rfl⟩ := List.mem_map.mp h1
  exact List.mem_append_left _ (List.mem_map.mpr ⟨q, List.mem_append_right _ (List.mem_append_right _ (List.mem_append_right _ (List.mem_append_right _ (List.mem_append_right _ (List.mem_append_right _ (List.mem_append_right _ (List.mem_append_right _ (List.mem_append_left _ (hq))))))))), rfl⟩)
theorem tbp10 {w : Cond} (i : Nat) (h : (k2_sels lw_privs_10)[i]? = some w) (hg : goodWord w = true := by rfl) : w ∈ lw_g := by
  refine lw_gi ?_ hg
  have h1 := List.mem_of_getElem? h
  obtain ⟨q, hq, rfl⟩ := List.mem_map.mp h1
  exact List.mem_append_left _ (List.mem_map.mpr ⟨q, List.mem_append_right _ (List.mem_append_right _ (List.mem_append_right _ (List.mem_append_right _ (List.mem_append_right _ (List.mem_append_right _ (List.mem_append_right _ (List.mem_append_right _ (List.mem_append_right _ (hq))))))))), rfl⟩)
def cnm (own : Nat) : String := match own with
  | 0 => RX0
  | 1 => RX1
  | 2 => RX2
  | 3 => RX3
  | 4 => RX4
  | 5 => RX5
  | 6 => RX6
  | 7 => RX7
  | 8 => RX8
  | 9 => RX9
  | 10 => RX10
  | 11 => RX11
  | 12 => RX12
  | 13 => RL
  | 14 => RJ6
  | _ => RJ9
def nmF (ci : Nat) : Nat := match ci with
  | 0 => 4
  | 1 => 7
  | 2 => 7
  | 3 => 4
  | 4 => 1
  | 5 => 13
  | 6 => 7
  | 7 => 4
  | 8 => 6
  | 9 => 4
  | 10 => 6
  | 11 => 16
  | 12 => 37
  | _ => 0
def lk2 {α : Type} (t : List (Nat × α)) (i : Nat) : Option α := match t with
  | [] => none
  | q :: r => cond (Nat.beq q.1 i) (some q.2) (lk2 r i)
theorem lk2_mem {α : Type} {t : List (Nat × α)} {i : Nat} {x : α} (h : lk2 t i = some x) : (i, x) ∈ t := by
  induction t with
  | nil => cases h
  | cons q r ih =>
    unfold lk2 at h
    cases hb : Nat.beq q.1 i with
    | true =>
      rw [hb] at h
      have e1 : q.2 = x := Option.some.inj h
      have e2 : q.1 = i := Nat.eq_of_beq_eq_true hb
      rw [← e1, ← e2]
      exact List.mem_cons_self
    | false =>
      rw [hb] at h
      exact List.mem_cons_of_mem _ (ih h)
/-- a field's type: 0 int, 1 long, 2 boolean, 3 a reference; and whether it is final -/
def fty (ci k : Nat) : Nat × Bool := match ci with
  | 0 => (([(0, false), (0, false), (3, true), (3, true)] : List (Nat × Bool)).getD k (9, true))
  | 1 => (([(3, true), (3, true), (3, true), (3, true), (0, false), (0, false), (0, false)] : List (Nat × Bool)).getD k (9, true))
  | 2 => (([(0, false), (3, true), (3, true), (3, true), (3, true), (3, true), (3, true)] : List (Nat × Bool)).getD k (9, true))
  | 3 => (([(0, false), (3, true), (3, true), (3, true)] : List (Nat × Bool)).getD k (9, true))
  | 4 => (([(3, true)] : List (Nat × Bool)).getD k (9, true))
  | 5 => (([(0, false), (0, false), (0, false), (3, true), (3, true), (3, true), (3, true), (3, true), (3, true), (3, true), (3, true), (3, true), (3, true)] : List (Nat × Bool)).getD k (9, true))
  | 6 => (([(3, true), (3, true), (2, false), (0, false), (0, false), (0, false), (2, false)] : List (Nat × Bool)).getD k (9, true))
  | 7 => (([(0, false), (3, true), (3, true), (3, true)] : List (Nat × Bool)).getD k (9, true))
  | 8 => (([(0, false), (0, false), (3, true), (3, true), (3, true), (3, true)] : List (Nat × Bool)).getD k (9, true))
  | 9 => (([(0, false), (3, true), (3, true), (3, true)] : List (Nat × Bool)).getD k (9, true))
  | 10 => (([(0, false), (0, false), (3, true), (3, true), (3, true), (3, true)] : List (Nat × Bool)).getD k (9, true))
  | 11 => (([(3, true), (3, true), (3, true), (3, true), (3, true), (3, true), (3, true), (3, true), (3, true), (3, true), (3, true), (3, true), (3, true), (0, false), (0, false), (0, false)] : List (Nat × Bool)).getD k (9, true))
  | 12 => (([(3, true), (3, true), (3, true), (3, true), (0, false), (0, false), (0, false), (0, false), (0, false), (0, false), (0, false), (1, false), (0, false), (0, false), (0, false), (0, false), (3, true), (0, false), (0, false), (2, false), (0, false), (0, false), (3, true), (3, true), (3, true), (3, true), (3, true), (3, true), (3, true), (3, true), (3, true), (3, true), (3, true), (0, false), (0, false), (0, false), (3, true)] : List (Nat × Bool)).getD k (9, true))
  | _ => (9, true)
def FL (own idx ci k : Nat) : Prop := ∃ (C : String) (T : u_T) (N : Nat), vwCl[ci]? = some (C, T, N) ∧ k < N ∧ ((Cond.fieldLink (cnm own) idx (T k).1 (T k).2.1 (T k).2.2.1 ∈ lw_g) ∨ ∃ host : String, Cond.fieldLinkNest (cnm own) idx (T k).1 (T k).2.1 (T k).2.2.1 host ∈ lw_n)
def my (M : Mth) : MethodName := M.2.1
def mcc (M : Mth) : ByteArray := M.2.2.1
def mml (M : Mth) : Nat := M.2.2.2.1
def mret (M : Mth) : Option FieldType := M.2.2.2.2.1
def mtab (M : Mth) : Tab := M.2.2.2.2.2
def MOk (M : Mth) (kd n : Nat) : Prop := Cond.code (my M) (mcc M) (mml M) (mret M) ∈ lw_g ∧ Cond.initialized (my M).cls ∈ lw_g ∧ plainName (my M).cls = true ∧ ((my M).cls ≠ "java/lang/invoke/MethodHandle" ∧ (my M).cls ≠ "java/lang/invoke/VarHandle" ∧ (parseMethodDescriptor (my M).desc).map (fun d => d.parameters.length) = some n) ∧ okT (mcc M) (mtab M) = true ∧ cnm M.1 = (my M).cls ∧ (match kd with
  | 0 => Cond.static (my M) ∈ lw_g
  | 1 => Cond.instanceMethod (my M) ∈ lw_g ∧ Cond.selects (my M).cls (my M) (my M) ∈ lw_g
  | _ => (my M).name = "<init>" ∧ Cond.instanceMethod (my M) ∈ lw_g ∧ mret M = none)
def ML (own idx : Nat) (q : Mth × Nat × Nat) : Prop := ((Cond.methodLink (cnm own) idx (my q.1) ∈ lw_g) ∨ ∃ host : String, Cond.methodLinkNest (cnm own) idx (my q.1) host ∈ lw_n) ∧ MOk q.1 q.2.1 q.2.2
theorem ini0 : Cond.initialized "VerdictFirst$Chain" ∈ lw_g := tb1 11 (by decide +kernel)
theorem ini1 : Cond.initialized "VerdictFirst$Court" ∈ lw_g := tb1 2 (by decide +kernel)
theorem ini2 : Cond.initialized "VerdictFirst$Day" ∈ lw_g := tb1 12 (by decide +kernel)
theorem ini3 : Cond.initialized "VerdictFirst$Docket" ∈ lw_g := tb1 4 (by decide +kernel)
theorem ini4 : Cond.initialized "VerdictFirst$Evidence" ∈ lw_g := tb1 10 (by decide +kernel)
theorem ini5 : Cond.initialized "VerdictFirst$Law" ∈ lw_g := tb1 7 (by decide +kernel)
theorem ini6 : Cond.initialized "VerdictFirst$Reader" ∈ lw_g := tb1 8 (by decide +kernel)
theorem ini7 : Cond.initialized "VerdictFirst$Record" ∈ lw_g := tb1 5 (by decide +kernel)
theorem ini8 : Cond.initialized "VerdictFirst$Roll" ∈ lw_g := tb1 3 (by decide +kernel)
theorem ini9 : Cond.initialized "VerdictFirst$Sayings" ∈ lw_g := tb1 6 (by decide +kernel)
theorem ini10 : Cond.initialized "VerdictFirst$Tape" ∈ lw_g := tb1 9 (by decide +kernel)
theorem ini11 : Cond.initialized "VerdictFirst" ∈ lw_g := tb1 1 (by decide +kernel)
theorem ini12 : Cond.initialized "VerdictFirstModel" ∈ lw_g := tb1 13 (by decide +kernel)
theorem ini13 : Cond.initialized "VerdictFirstLaw" ∈ lw_g := tb1 0 (by decide +kernel)
theorem ini14 : Cond.initialized "java/lang/Integer" ∈ lw_g := tb1 20 (by decide +kernel)
theorem ini15 : Cond.initialized "java/lang/Math" ∈ lw_g := tb1 14 (by decide +kernel)
set_option maxRecDepth 20000 in
theorem moX5_strengthOf : MOk mX5_strengthOf 1 2 := ⟨tb4 6 rfl, ini5, by decide +kernel, by decide +kernel, okX5_strengthOf, rfl, ⟨tb4 5 (by decide +kernel), tbp3 14 (by decide +kernel)⟩⟩
set_option maxRecDepth 20000 in
theorem moX5_reasonOf : MOk mX5_reasonOf 1 3 := ⟨tb4 63 rfl, ini5, by decide +kernel, by decide +kernel, okX5_reasonOf, rfl, ⟨tb4 62 (by decide +kernel), tbp4 8 (by decide +kernel)⟩⟩
set_option maxRecDepth 20000 in
theorem moX5_needsOf : MOk mX5_needsOf 1 1 := ⟨tb4 67 rfl, ini5, by decide +kernel, by decide +kernel, okX5_needsOf, rfl, ⟨tb4 66 (by decide +kernel), tbp4 9 (by decide +kernel)⟩⟩
set_option maxRecDepth 20000 in
theorem moX5_worthOf : MOk mX5_worthOf 1 1 := ⟨tb4 93 rfl, ini5, by decide +kernel, by decide +kernel, okX5_worthOf, rfl, ⟨tb4 92 (by decide +kernel), tbp4 13 (by decide +kernel)⟩⟩
set_option maxRecDepth 20000 in
theorem moX8_init : MOk mX8_init 2 0 := ⟨tb1 39 rfl, ini8, by decide +kernel, by decide +kernel, okX8_init, rfl, ⟨rfl, tb1 38 (by decide +kernel), rfl⟩⟩
set_option maxRecDepth 20000 in
theorem moX3_init : MOk mX3_init 2 0 := ⟨tb1 71 rfl, ini3, by decide +kernel, by decide +kernel, okX3_init, rfl, ⟨rfl, tb1 70 (by decide +kernel), rfl⟩⟩
set_option maxRecDepth 20000 in
theorem moX7_init : MOk mX7_init 2 0 := ⟨tb1 94 rfl, ini7, by decide +kernel, by decide +kernel, okX7_init, rfl, ⟨rfl, tb1 93 (by decide +kernel), rfl⟩⟩
set_option maxRecDepth 20000 in
theorem moX9_init : MOk mX9_init 2 0 := ⟨tb1 117 rfl, ini9, by decide +kernel, by decide +kernel, okX9_init, rfl, ⟨rfl, tb1 116 (by decide +kernel), rfl⟩⟩
set_option maxRecDepth 20000 in
theorem moX8_copy : MOk mX8_copy 1 1 := ⟨tb5 23 rfl, ini8, by decide +kernel, by decide +kernel, okX8_copy, rfl, ⟨tb5 22 (by decide +kernel), tbp6 11 (by decide +kernel)⟩⟩
set_option maxRecDepth 20000 in
theorem moX3_copy : MOk mX3_copy 1 1 := ⟨tb5 28 rfl, ini3, by decide +kernel, by decide +kernel, okX3_copy, rfl, ⟨tb5 27 (by decide +kernel), tbp6 12 (by decide +kernel)⟩⟩
set_option maxRecDepth 20000 in
theorem moX7_copy : MOk mX7_copy 1 1 := ⟨tb5 33 rfl, ini7, by decide +kernel, by decide +kernel, okX7_copy, rfl, ⟨tb5 32 (by decide +kernel), tbp6 13 (by decide +kernel)⟩⟩
set_option maxRecDepth 20000 in
theorem moX9_copy : MOk mX9_copy 1 1 := ⟨tb5 38 rfl, ini9, by decide +kernel, by decide +kernel, okX9_copy, rfl, ⟨tb5 37 (by decide +kernel), tbp6 14 (by decide +kernel)⟩⟩
set_option maxRecDepth 20000 in
theorem moX2_rowOf : MOk mX2_rowOf 1 2 := ⟨tb4 188 rfl, ini2, by decide +kernel, by decide +kernel, okX2_rowOf, rfl, ⟨tb4 187 (by decide +kernel), tbp5 14 (by decide +kernel)⟩⟩
set_option maxRecDepth 20000 in
theorem moX2_playHour : MOk mX2_playHour 1 2 := ⟨tb4 192 rfl, ini2, by decide +kernel, by decide +kernel, okX2_playHour, rfl, ⟨tb4 191 (by decide +kernel), tbp5 15 (by decide +kernel)⟩⟩
set_option maxRecDepth 20000 in
theorem moJ6_bitCount_0f7a4 : MOk mJ6_bitCount_0f7a4 0 1 := ⟨tb4 74 rfl, ini14, by decide +kernel, by decide +kernel, okJ6_bitCount_0f7a4, rfl, tb4 73 (by decide +kernel)⟩
set_option maxRecDepth 20000 in
theorem moX2_behindStrike : MOk mX2_behindStrike 1 3 := ⟨tb4 197 rfl, ini2, by decide +kernel, by decide +kernel, okX2_behindStrike, rfl, ⟨tb4 196 (by decide +kernel), tbp6 0 (by decide +kernel)⟩⟩
set_option maxRecDepth 20000 in
theorem moX2_aheadOfCall : MOk mX2_aheadOfCall 1 2 := ⟨tb4 202 rfl, ini2, by decide +kernel, by decide +kernel, okX2_aheadOfCall, rfl, ⟨tb4 201 (by decide +kernel), tbp6 1 (by decide +kernel)⟩⟩
set_option maxRecDepth 20000 in
theorem moX2_feeAt : MOk mX2_feeAt 1 2 := ⟨tb4 206 rfl, ini2, by decide +kernel, by decide +kernel, okX2_feeAt, rfl, ⟨tb4 205 (by decide +kernel), tbp6 2 (by decide +kernel)⟩⟩
set_option maxRecDepth 20000 in
theorem moX5_has : MOk mX5_has 1 1 := ⟨tb3 64 rfl, ini5, by decide +kernel, by decide +kernel, okX5_has, rfl, ⟨tb3 63 (by decide +kernel), tbp1 14 (by decide +kernel)⟩⟩
set_option maxRecDepth 20000 in
theorem moX5_valueOf : MOk mX5_valueOf 1 2 := ⟨tb3 164 rfl, ini5, by decide +kernel, by decide +kernel, okX5_valueOf, rfl, ⟨tb3 163 (by decide +kernel), tbp3 2 (by decide +kernel)⟩⟩
set_option maxRecDepth 20000 in
theorem moX5_named : MOk mX5_named 0 2 := ⟨tb3 167 rfl, ini5, by decide +kernel, by decide +kernel, okX5_named, rfl, tb3 166 (by decide +kernel)⟩
set_option maxRecDepth 20000 in
theorem moX5_turned : MOk mX5_turned 0 2 := ⟨tb3 170 rfl, ini5, by decide +kernel, by decide +kernel, okX5_turned, rfl, tb3 169 (by decide +kernel)⟩
set_option maxRecDepth 20000 in
theorem moX5_reckoned : MOk mX5_reckoned 0 3 := ⟨tb3 173 rfl, ini5, by decide +kernel, by decide +kernel, okX5_reckoned, rfl, tb3 172 (by decide +kernel)⟩
set_option maxRecDepth 20000 in
theorem moX5_bounded : MOk mX5_bounded 0 1 := ⟨tb3 176 rfl, ini5, by decide +kernel, by decide +kernel, okX5_bounded, rfl, tb3 175 (by decide +kernel)⟩
set_option maxRecDepth 20000 in
theorem moX5_isRule : MOk mX5_isRule 1 1 := ⟨tb4 71 rfl, ini5, by decide +kernel, by decide +kernel, okX5_isRule, rfl, ⟨tb4 70 (by decide +kernel), tbp4 10 (by decide +kernel)⟩⟩
set_option maxRecDepth 20000 in
theorem moX5_shownAtAll : MOk mX5_shownAtAll 1 2 := ⟨tb4 10 rfl, ini5, by decide +kernel, by decide +kernel, okX5_shownAtAll, rfl, ⟨tb4 9 (by decide +kernel), tbp3 15 (by decide +kernel)⟩⟩
set_option maxRecDepth 20000 in
theorem moX5_shownBy : MOk mX5_shownBy 1 4 := ⟨tb4 14 rfl, ini5, by decide +kernel, by decide +kernel, okX5_shownBy, rfl, ⟨tb4 13 (by decide +kernel), tbp4 0 (by decide +kernel)⟩⟩
set_option maxRecDepth 20000 in
theorem moX10_init : MOk mX10_init 2 0 := ⟨tb1 221 rfl, ini10, by decide +kernel, by decide +kernel, okX10_init, rfl, ⟨rfl, tb1 220 (by decide +kernel), rfl⟩⟩
set_option maxRecDepth 20000 in
theorem moX5_init : MOk mX5_init 2 0 := ⟨tb1 167 rfl, ini5, by decide +kernel, by decide +kernel, okX5_init, rfl, ⟨rfl, tb1 166 (by decide +kernel), rfl⟩⟩
set_option maxRecDepth 20000 in
theorem moX5_clear : MOk mX5_clear 1 0 := ⟨tb2 204 rfl, ini5, by decide +kernel, by decide +kernel, okX5_clear, rfl, ⟨tb2 203 (by decide +kernel), tbp1 5 (by decide +kernel)⟩⟩
set_option maxRecDepth 20000 in
theorem moX10_split : MOk mX10_split 1 0 := ⟨tb2 208 rfl, ini10, by decide +kernel, by decide +kernel, okX10_split, rfl, ⟨tb2 207 (by decide +kernel), tbp1 6 (by decide +kernel)⟩⟩
set_option maxRecDepth 20000 in
theorem moX6_sort : MOk mX6_sort 1 0 := ⟨tb3 52 rfl, ini6, by decide +kernel, by decide +kernel, okX6_sort, rfl, ⟨tb3 51 (by decide +kernel), tbp1 11 (by decide +kernel)⟩⟩
set_option maxRecDepth 20000 in
theorem moX6_clause : MOk mX6_clause 1 0 := ⟨tb3 56 rfl, ini6, by decide +kernel, by decide +kernel, okX6_clause, rfl, ⟨tb3 55 (by decide +kernel), tbp1 12 (by decide +kernel)⟩⟩
set_option maxRecDepth 20000 in
theorem moX6_fail : MOk mX6_fail 1 1 := ⟨tb3 60 rfl, ini6, by decide +kernel, by decide +kernel, okX6_fail, rfl, ⟨tb3 59 (by decide +kernel), tbp1 13 (by decide +kernel)⟩⟩
set_option maxRecDepth 20000 in
theorem moX5_open : MOk mX5_open 1 1 := ⟨tb3 68 rfl, ini5, by decide +kernel, by decide +kernel, okX5_open, rfl, ⟨tb3 67 (by decide +kernel), tbp1 15 (by decide +kernel)⟩⟩
set_option maxRecDepth 20000 in
theorem moX6_rule : MOk mX6_rule 1 0 := ⟨tb3 72 rfl, ini6, by decide +kernel, by decide +kernel, okX6_rule, rfl, ⟨tb3 71 (by decide +kernel), tbp2 0 (by decide +kernel)⟩⟩
set_option maxRecDepth 20000 in
theorem moX6_sum : MOk mX6_sum 1 1 := ⟨tb3 96 rfl, ini6, by decide +kernel, by decide +kernel, okX6_sum, rfl, ⟨tb3 95 (by decide +kernel), tbp2 6 (by decide +kernel)⟩⟩
set_option maxRecDepth 20000 in
theorem moX6_either : MOk mX6_either 1 0 := ⟨tb3 112 rfl, ini6, by decide +kernel, by decide +kernel, okX6_either, rfl, ⟨tb3 111 (by decide +kernel), tbp2 10 (by decide +kernel)⟩⟩
set_option maxRecDepth 20000 in
theorem moX5_shut : MOk mX5_shut 1 1 := ⟨tb3 123 rfl, ini5, by decide +kernel, by decide +kernel, okX5_shut, rfl, ⟨tb3 122 (by decide +kernel), tbp2 12 (by decide +kernel)⟩⟩
set_option maxRecDepth 20000 in
theorem moX6_pass : MOk mX6_pass 1 1 := ⟨tb3 84 rfl, ini6, by decide +kernel, by decide +kernel, okX6_pass, rfl, ⟨tb3 83 (by decide +kernel), tbp2 3 (by decide +kernel)⟩⟩
set_option maxRecDepth 20000 in
theorem moX6_number : MOk mX6_number 1 2 := ⟨tb3 76 rfl, ini6, by decide +kernel, by decide +kernel, okX6_number, rfl, ⟨tb3 75 (by decide +kernel), tbp2 1 (by decide +kernel)⟩⟩
set_option maxRecDepth 20000 in
theorem moX6_factsBehind : MOk mX6_factsBehind 1 2 := ⟨tb3 88 rfl, ini6, by decide +kernel, by decide +kernel, okX6_factsBehind, rfl, ⟨tb3 87 (by decide +kernel), tbp2 4 (by decide +kernel)⟩⟩
set_option maxRecDepth 20000 in
theorem moX5_addRule : MOk mX5_addRule 1 5 := ⟨tb3 92 rfl, ini5, by decide +kernel, by decide +kernel, okX5_addRule, rfl, ⟨tb3 91 (by decide +kernel), tbp2 5 (by decide +kernel)⟩⟩
set_option maxRecDepth 20000 in
theorem moX6_value : MOk mX6_value 1 0 := ⟨tb3 80 rfl, ini6, by decide +kernel, by decide +kernel, okX6_value, rfl, ⟨tb3 79 (by decide +kernel), tbp2 2 (by decide +kernel)⟩⟩
set_option maxRecDepth 20000 in
theorem moX6_ask : MOk mX6_ask 1 1 := ⟨tb3 116 rfl, ini6, by decide +kernel, by decide +kernel, okX6_ask, rfl, ⟨tb3 115 (by decide +kernel), tbp2 11 (by decide +kernel)⟩⟩
set_option maxRecDepth 20000 in
theorem moX5_emit : MOk mX5_emit 1 1 := ⟨tb3 108 rfl, ini5, by decide +kernel, by decide +kernel, okX5_emit, rfl, ⟨tb3 107 (by decide +kernel), tbp2 9 (by decide +kernel)⟩⟩
set_option maxRecDepth 20000 in
theorem moX6_compares : MOk mX6_compares 0 1 := ⟨tb3 119 rfl, ini6, by decide +kernel, by decide +kernel, okX6_compares, rfl, tb3 118 (by decide +kernel)⟩
set_option maxRecDepth 20000 in
theorem moX6_one : MOk mX6_one 1 1 := ⟨tb3 100 rfl, ini6, by decide +kernel, by decide +kernel, okX6_one, rfl, ⟨tb3 99 (by decide +kernel), tbp2 7 (by decide +kernel)⟩⟩
set_option maxRecDepth 20000 in
theorem moX6_isForeign : MOk mX6_isForeign 1 1 := ⟨tb3 104 rfl, ini6, by decide +kernel, by decide +kernel, okX6_isForeign, rfl, ⟨tb3 103 (by decide +kernel), tbp2 8 (by decide +kernel)⟩⟩
set_option maxRecDepth 20000 in
theorem moX10_behindToken : MOk mX10_behindToken 1 1 := ⟨tb2 212 rfl, ini10, by decide +kernel, by decide +kernel, okX10_behindToken, rfl, ⟨tb2 211 (by decide +kernel), tbp1 7 (by decide +kernel)⟩⟩
set_option maxRecDepth 20000 in
theorem moX10_sortOf : MOk mX10_sortOf 1 2 := ⟨tb2 225 rfl, ini10, by decide +kernel, by decide +kernel, okX10_sortOf, rfl, ⟨tb2 224 (by decide +kernel), tbp1 8 (by decide +kernel)⟩⟩
set_option maxRecDepth 20000 in
theorem moX10_isLetter : MOk mX10_isLetter 0 1 := ⟨tb2 215 rfl, ini10, by decide +kernel, by decide +kernel, okX10_isLetter, rfl, tb2 214 (by decide +kernel)⟩
set_option maxRecDepth 20000 in
theorem moX10_wordOf : MOk mX10_wordOf 1 2 := ⟨tb2 229 rfl, ini10, by decide +kernel, by decide +kernel, okX10_wordOf, rfl, ⟨tb2 228 (by decide +kernel), tbp1 9 (by decide +kernel)⟩⟩
set_option maxRecDepth 20000 in
theorem moX10_isDigit : MOk mX10_isDigit 0 1 := ⟨tb2 218 rfl, ini10, by decide +kernel, by decide +kernel, okX10_isDigit, rfl, tb2 217 (by decide +kernel)⟩
set_option maxRecDepth 20000 in
theorem moX10_numberOf : MOk mX10_numberOf 1 2 := ⟨tb3 42 rfl, ini10, by decide +kernel, by decide +kernel, okX10_numberOf, rfl, ⟨tb3 41 (by decide +kernel), tbp1 10 (by decide +kernel)⟩⟩
set_option maxRecDepth 20000 in
theorem moX10_isSign : MOk mX10_isSign 0 1 := ⟨tb3 48 rfl, ini10, by decide +kernel, by decide +kernel, okX10_isSign, rfl, tb3 47 (by decide +kernel)⟩
set_option maxRecDepth 20000 in
theorem moX1_init : MOk mX1_init 2 0 := ⟨tb1 33 rfl, ini1, by decide +kernel, by decide +kernel, okX1_init, rfl, ⟨rfl, tb1 32 (by decide +kernel), rfl⟩⟩
set_option maxRecDepth 20000 in
theorem moX6_init : MOk mX6_init 2 0 := ⟨tb1 215 rfl, ini6, by decide +kernel, by decide +kernel, okX6_init, rfl, ⟨rfl, tb1 214 (by decide +kernel), rfl⟩⟩
set_option maxRecDepth 20000 in
theorem moX4_init : MOk mX4_init 2 0 := ⟨tb2 40 rfl, ini4, by decide +kernel, by decide +kernel, okX4_init, rfl, ⟨rfl, tb2 39 (by decide +kernel), rfl⟩⟩
set_option maxRecDepth 20000 in
theorem moX0_init : MOk mX0_init 2 0 := ⟨tb2 52 rfl, ini0, by decide +kernel, by decide +kernel, okX0_init, rfl, ⟨rfl, tb2 51 (by decide +kernel), rfl⟩⟩
set_option maxRecDepth 20000 in
theorem moX2_init : MOk mX2_init 2 0 := ⟨tb2 73 rfl, ini2, by decide +kernel, by decide +kernel, okX2_init, rfl, ⟨rfl, tb2 72 (by decide +kernel), rfl⟩⟩
set_option maxRecDepth 20000 in
theorem moX8_add : MOk mX8_add 1 4 := ⟨tb2 157 rfl, ini8, by decide +kernel, by decide +kernel, okX8_add, rfl, ⟨tb2 156 (by decide +kernel), tbp1 0 (by decide +kernel)⟩⟩
set_option maxRecDepth 20000 in
theorem moX11_isFact : MOk mX11_isFact 0 1 := ⟨tb2 164 rfl, ini11, by decide +kernel, by decide +kernel, okX11_isFact, rfl, tb2 163 (by decide +kernel)⟩
set_option maxRecDepth 20000 in
theorem moX3_add : MOk mX3_add 1 3 := ⟨tb2 168 rfl, ini3, by decide +kernel, by decide +kernel, okX3_add, rfl, ⟨tb2 167 (by decide +kernel), tbp1 1 (by decide +kernel)⟩⟩
set_option maxRecDepth 20000 in
theorem moX11_isWitness : MOk mX11_isWitness 1 1 := ⟨tb2 180 rfl, ini11, by decide +kernel, by decide +kernel, okX11_isWitness, rfl, ⟨tb2 179 (by decide +kernel), tbp1 2 (by decide +kernel)⟩⟩
set_option maxRecDepth 20000 in
theorem moX10_put : MOk mX10_put 1 1 := ⟨tb2 188 rfl, ini10, by decide +kernel, by decide +kernel, okX10_put, rfl, ⟨tb2 187 (by decide +kernel), tbp1 3 (by decide +kernel)⟩⟩
set_option maxRecDepth 20000 in
theorem moX6_read : MOk mX6_read 1 0 := ⟨tb2 200 rfl, ini6, by decide +kernel, by decide +kernel, okX6_read, rfl, ⟨tb2 199 (by decide +kernel), tbp1 4 (by decide +kernel)⟩⟩
set_option maxRecDepth 20000 in
theorem moX5_copy : MOk mX5_copy 1 1 := ⟨tb3 127 rfl, ini5, by decide +kernel, by decide +kernel, okX5_copy, rfl, ⟨tb3 126 (by decide +kernel), tbp2 13 (by decide +kernel)⟩⟩
set_option maxRecDepth 20000 in
theorem moX11_saysAs : MOk mX11_saysAs 1 2 := ⟨tb3 147 rfl, ini11, by decide +kernel, by decide +kernel, okX11_saysAs, rfl, ⟨tb3 146 (by decide +kernel), tbp2 14 (by decide +kernel)⟩⟩
set_option maxRecDepth 20000 in
theorem moX11_feeNow : MOk mX11_feeNow 1 2 := ⟨tb3 188 rfl, ini11, by decide +kernel, by decide +kernel, okX11_feeNow, rfl, ⟨tb3 187 (by decide +kernel), tbp3 3 (by decide +kernel)⟩⟩
set_option maxRecDepth 20000 in
theorem moX11_isStruck : MOk mX11_isStruck 1 1 := ⟨tb3 198 rfl, ini11, by decide +kernel, by decide +kernel, okX11_isStruck, rfl, ⟨tb3 197 (by decide +kernel), tbp3 5 (by decide +kernel)⟩⟩
set_option maxRecDepth 20000 in
theorem moX7_has : MOk mX7_has 1 1 := ⟨tb3 202 rfl, ini7, by decide +kernel, by decide +kernel, okX7_has, rfl, ⟨tb3 201 (by decide +kernel), tbp3 6 (by decide +kernel)⟩⟩
set_option maxRecDepth 20000 in
theorem moX7_add : MOk mX7_add 1 3 := ⟨tb3 210 rfl, ini7, by decide +kernel, by decide +kernel, okX7_add, rfl, ⟨tb3 209 (by decide +kernel), tbp3 7 (by decide +kernel)⟩⟩
set_option maxRecDepth 20000 in
theorem moX7_paid : MOk mX7_paid 1 0 := ⟨tb3 218 rfl, ini7, by decide +kernel, by decide +kernel, okX7_paid, rfl, ⟨tb3 217 (by decide +kernel), tbp3 8 (by decide +kernel)⟩⟩
set_option maxRecDepth 20000 in
theorem moX11_isSet : MOk mX11_isSet 1 1 := ⟨tb3 226 rfl, ini11, by decide +kernel, by decide +kernel, okX11_isSet, rfl, ⟨tb3 225 (by decide +kernel), tbp3 9 (by decide +kernel)⟩⟩
set_option maxRecDepth 20000 in
theorem moX11_findSayings : MOk mX11_findSayings 1 0 := ⟨tb3 230 rfl, ini11, by decide +kernel, by decide +kernel, okX11_findSayings, rfl, ⟨tb3 229 (by decide +kernel), tbp3 10 (by decide +kernel)⟩⟩
set_option maxRecDepth 20000 in
theorem moX11_weigh : MOk mX11_weigh 1 1 := ⟨tb3 234 rfl, ini11, by decide +kernel, by decide +kernel, okX11_weigh, rfl, ⟨tb3 233 (by decide +kernel), tbp3 11 (by decide +kernel)⟩⟩
set_option maxRecDepth 20000 in
theorem moX11_ruling : MOk mX11_ruling 1 0 := ⟨tb3 155 rfl, ini11, by decide +kernel, by decide +kernel, okX11_ruling, rfl, ⟨tb3 154 (by decide +kernel), tbp3 0 (by decide +kernel)⟩⟩
set_option maxRecDepth 20000 in
theorem moX11_isHeardCount : MOk mX11_isHeardCount 1 1 := ⟨tb4 22 rfl, ini11, by decide +kernel, by decide +kernel, okX11_isHeardCount, rfl, ⟨tb4 21 (by decide +kernel), tbp4 1 (by decide +kernel)⟩⟩
set_option maxRecDepth 20000 in
theorem moX11_weighHeard : MOk mX11_weighHeard 1 1 := ⟨tb4 26 rfl, ini11, by decide +kernel, by decide +kernel, okX11_weighHeard, rfl, ⟨tb4 25 (by decide +kernel), tbp4 2 (by decide +kernel)⟩⟩
set_option maxRecDepth 20000 in
theorem moX11_isVerdict : MOk mX11_isVerdict 1 1 := ⟨tb4 34 rfl, ini11, by decide +kernel, by decide +kernel, okX11_isVerdict, rfl, ⟨tb4 33 (by decide +kernel), tbp4 3 (by decide +kernel)⟩⟩
set_option maxRecDepth 20000 in
theorem moX11_followsBySet : MOk mX11_followsBySet 1 2 := ⟨tb4 38 rfl, ini11, by decide +kernel, by decide +kernel, okX11_followsBySet, rfl, ⟨tb4 37 (by decide +kernel), tbp4 4 (by decide +kernel)⟩⟩
set_option maxRecDepth 20000 in
theorem moX11_carried : MOk mX11_carried 1 2 := ⟨tb4 42 rfl, ini11, by decide +kernel, by decide +kernel, okX11_carried, rfl, ⟨tb4 41 (by decide +kernel), tbp4 5 (by decide +kernel)⟩⟩
set_option maxRecDepth 20000 in
theorem moX0_trace : MOk mX0_trace 1 3 := ⟨tb4 58 rfl, ini0, by decide +kernel, by decide +kernel, okX0_trace, rfl, ⟨tb4 57 (by decide +kernel), tbp4 7 (by decide +kernel)⟩⟩
set_option maxRecDepth 20000 in
theorem moX0_factAt : MOk mX0_factAt 1 1 := ⟨tb4 81 rfl, ini0, by decide +kernel, by decide +kernel, okX0_factAt, rfl, ⟨tb4 80 (by decide +kernel), tbp4 11 (by decide +kernel)⟩⟩
set_option maxRecDepth 20000 in
theorem moX0_weakestFact : MOk mX0_weakestFact 1 1 := ⟨tb4 89 rfl, ini0, by decide +kernel, by decide +kernel, okX0_weakestFact, rfl, ⟨tb4 88 (by decide +kernel), tbp4 12 (by decide +kernel)⟩⟩
set_option maxRecDepth 20000 in
theorem moX4_copy : MOk mX4_copy 1 1 := ⟨tb4 101 rfl, ini4, by decide +kernel, by decide +kernel, okX4_copy, rfl, ⟨tb4 100 (by decide +kernel), tbp4 14 (by decide +kernel)⟩⟩
set_option maxRecDepth 20000 in
theorem moX4_add : MOk mX4_add 1 2 := ⟨tb4 2 rfl, ini4, by decide +kernel, by decide +kernel, okX4_add, rfl, ⟨tb4 1 (by decide +kernel), tbp3 13 (by decide +kernel)⟩⟩
set_option maxRecDepth 20000 in
theorem moX5_carries : MOk mX5_carries 1 4 := ⟨tb4 46 rfl, ini5, by decide +kernel, by decide +kernel, okX5_carries, rfl, ⟨tb4 45 (by decide +kernel), tbp4 6 (by decide +kernel)⟩⟩
set_option maxRecDepth 20000 in
theorem moX11_findFees : MOk mX11_findFees 1 0 := ⟨tb4 110 rfl, ini11, by decide +kernel, by decide +kernel, okX11_findFees, rfl, ⟨tb4 109 (by decide +kernel), tbp4 15 (by decide +kernel)⟩⟩
set_option maxRecDepth 20000 in
theorem moX11_findLeast : MOk mX11_findLeast 1 1 := ⟨tb4 114 rfl, ini11, by decide +kernel, by decide +kernel, okX11_findLeast, rfl, ⟨tb4 113 (by decide +kernel), tbp5 0 (by decide +kernel)⟩⟩
set_option maxRecDepth 20000 in
theorem moX11_carriedAmong : MOk mX11_carriedAmong 1 1 := ⟨tb4 147 rfl, ini11, by decide +kernel, by decide +kernel, okX11_carriedAmong, rfl, ⟨tb4 146 (by decide +kernel), tbp5 7 (by decide +kernel)⟩⟩
set_option maxRecDepth 20000 in
theorem moX5_isBarred : MOk mX5_isBarred 1 2 := ⟨tb4 139 rfl, ini5, by decide +kernel, by decide +kernel, okX5_isBarred, rfl, ⟨tb4 138 (by decide +kernel), tbp5 6 (by decide +kernel)⟩⟩
set_option maxRecDepth 20000 in
theorem moX11_isDay : MOk mX11_isDay 1 4 := ⟨tb4 163 rfl, ini11, by decide +kernel, by decide +kernel, okX11_isDay, rfl, ⟨tb4 162 (by decide +kernel), tbp5 8 (by decide +kernel)⟩⟩
set_option maxRecDepth 20000 in
theorem moX11_playDay : MOk mX11_playDay 1 3 := ⟨tb4 167 rfl, ini11, by decide +kernel, by decide +kernel, okX11_playDay, rfl, ⟨tb4 166 (by decide +kernel), tbp5 9 (by decide +kernel)⟩⟩
set_option maxRecDepth 20000 in
theorem moX2_isWon : MOk mX2_isWon 1 1 := ⟨tb4 211 rfl, ini2, by decide +kernel, by decide +kernel, okX2_isWon, rfl, ⟨tb4 210 (by decide +kernel), tbp6 3 (by decide +kernel)⟩⟩
set_option maxRecDepth 20000 in
theorem moX2_firstCall : MOk mX2_firstCall 1 1 := ⟨tb4 219 rfl, ini2, by decide +kernel, by decide +kernel, okX2_firstCall, rfl, ⟨tb4 218 (by decide +kernel), tbp6 4 (by decide +kernel)⟩⟩
set_option maxRecDepth 20000 in
theorem moX9_add : MOk mX9_add 1 3 := ⟨tb4 227 rfl, ini9, by decide +kernel, by decide +kernel, okX9_add, rfl, ⟨tb4 226 (by decide +kernel), tbp6 5 (by decide +kernel)⟩⟩
set_option maxRecDepth 20000 in
theorem moX9_fit : MOk mX9_fit 1 2 := ⟨tb4 235 rfl, ini9, by decide +kernel, by decide +kernel, okX9_fit, rfl, ⟨tb4 234 (by decide +kernel), tbp6 6 (by decide +kernel)⟩⟩
set_option maxRecDepth 20000 in
theorem moX3_chances : MOk mX3_chances 1 0 := ⟨tb5 3 rfl, ini3, by decide +kernel, by decide +kernel, okX3_chances, rfl, ⟨tb5 2 (by decide +kernel), tbp6 7 (by decide +kernel)⟩⟩
set_option maxRecDepth 20000 in
theorem moX11_findCosts : MOk mX11_findCosts 1 0 := ⟨tb5 7 rfl, ini11, by decide +kernel, by decide +kernel, okX11_findCosts, rfl, ⟨tb5 6 (by decide +kernel), tbp6 8 (by decide +kernel)⟩⟩
set_option maxRecDepth 20000 in
theorem moX3_drawnBy : MOk mX3_drawnBy 1 1 := ⟨tb5 11 rfl, ini3, by decide +kernel, by decide +kernel, okX3_drawnBy, rfl, ⟨tb5 10 (by decide +kernel), tbp6 9 (by decide +kernel)⟩⟩
set_option maxRecDepth 20000 in
theorem moX1_copy : MOk mX1_copy 1 1 := ⟨tb5 19 rfl, ini1, by decide +kernel, by decide +kernel, okX1_copy, rfl, ⟨tb5 18 (by decide +kernel), tbp6 10 (by decide +kernel)⟩⟩
set_option maxRecDepth 20000 in
theorem moX11_aboutHeard : MOk mX11_aboutHeard 1 1 := ⟨tb5 51 rfl, ini11, by decide +kernel, by decide +kernel, okX11_aboutHeard, rfl, ⟨tb5 50 (by decide +kernel), tbp6 15 (by decide +kernel)⟩⟩
set_option maxRecDepth 20000 in
theorem moX11_describe : MOk mX11_describe 1 1 := ⟨tb3 151 rfl, ini11, by decide +kernel, by decide +kernel, okX11_describe, rfl, ⟨tb3 150 (by decide +kernel), tbp2 15 (by decide +kernel)⟩⟩
set_option maxRecDepth 20000 in
theorem moX5_spoken : MOk mX5_spoken 1 2 := ⟨tb3 159 rfl, ini5, by decide +kernel, by decide +kernel, okX5_spoken, rfl, ⟨tb3 158 (by decide +kernel), tbp3 1 (by decide +kernel)⟩⟩
set_option maxRecDepth 20000 in
theorem moX5_charged : MOk mX5_charged 1 1 := ⟨tb3 192 rfl, ini5, by decide +kernel, by decide +kernel, okX5_charged, rfl, ⟨tb3 191 (by decide +kernel), tbp3 4 (by decide +kernel)⟩⟩
set_option maxRecDepth 20000 in
theorem moX4_clear : MOk mX4_clear 1 0 := ⟨tb3 238 rfl, ini4, by decide +kernel, by decide +kernel, okX4_clear, rfl, ⟨tb3 237 (by decide +kernel), tbp3 12 (by decide +kernel)⟩⟩
set_option maxRecDepth 20000 in
theorem moX11_tryLeast : MOk mX11_tryLeast 1 2 := ⟨tb4 118 rfl, ini11, by decide +kernel, by decide +kernel, okX11_tryLeast, rfl, ⟨tb4 117 (by decide +kernel), tbp5 1 (by decide +kernel)⟩⟩
set_option maxRecDepth 20000 in
theorem moX11_feesOf : MOk mX11_feesOf 1 1 := ⟨tb4 122 rfl, ini11, by decide +kernel, by decide +kernel, okX11_feesOf, rfl, ⟨tb4 121 (by decide +kernel), tbp5 2 (by decide +kernel)⟩⟩
set_option maxRecDepth 20000 in
theorem moX11_isLess : MOk mX11_isLess 1 1 := ⟨tb4 126 rfl, ini11, by decide +kernel, by decide +kernel, okX11_isLess, rfl, ⟨tb4 125 (by decide +kernel), tbp5 3 (by decide +kernel)⟩⟩
set_option maxRecDepth 20000 in
theorem moX11_keepLeast : MOk mX11_keepLeast 1 3 := ⟨tb4 130 rfl, ini11, by decide +kernel, by decide +kernel, okX11_keepLeast, rfl, ⟨tb4 129 (by decide +kernel), tbp5 4 (by decide +kernel)⟩⟩
set_option maxRecDepth 20000 in
theorem moX5_bendOf : MOk mX5_bendOf 1 1 := ⟨tb4 135 rfl, ini5, by decide +kernel, by decide +kernel, okX5_bendOf, rfl, ⟨tb4 134 (by decide +kernel), tbp5 5 (by decide +kernel)⟩⟩
set_option maxRecDepth 20000 in
theorem moX11_seatFree : MOk mX11_seatFree 1 0 := ⟨tb4 171 rfl, ini11, by decide +kernel, by decide +kernel, okX11_seatFree, rfl, ⟨tb4 170 (by decide +kernel), tbp5 10 (by decide +kernel)⟩⟩
set_option maxRecDepth 20000 in
theorem moX2_witnessesOf : MOk mX2_witnessesOf 1 1 := ⟨tb4 175 rfl, ini2, by decide +kernel, by decide +kernel, okX2_witnessesOf, rfl, ⟨tb4 174 (by decide +kernel), tbp5 11 (by decide +kernel)⟩⟩
set_option maxRecDepth 20000 in
theorem moX2_close : MOk mX2_close 1 2 := ⟨tb4 179 rfl, ini2, by decide +kernel, by decide +kernel, okX2_close, rfl, ⟨tb4 178 (by decide +kernel), tbp5 12 (by decide +kernel)⟩⟩
set_option maxRecDepth 20000 in
theorem moX2_play : MOk mX2_play 1 2 := ⟨tb4 184 rfl, ini2, by decide +kernel, by decide +kernel, okX2_play, rfl, ⟨tb4 183 (by decide +kernel), tbp5 13 (by decide +kernel)⟩⟩
set_option maxRecDepth 20000 in
theorem moX12_copy : MOk mX12_copy 0 2 := ⟨tb5 60 rfl, ini12, by decide +kernel, by decide +kernel, okX12_copy, rfl, tb5 59 (by decide +kernel)⟩
set_option maxRecDepth 20000 in
theorem moX12_isIn : MOk mX12_isIn 0 3 := ⟨tb5 180 rfl, ini12, by decide +kernel, by decide +kernel, okX12_isIn, rfl, tb5 179 (by decide +kernel)⟩
set_option maxRecDepth 20000 in
theorem moX12_isWitness : MOk mX12_isWitness 1 1 := ⟨tb5 196 rfl, ini12, by decide +kernel, by decide +kernel, okX12_isWitness, rfl, ⟨tb5 195 (by decide +kernel), tbp7 0 (by decide +kernel)⟩⟩
set_option maxRecDepth 20000 in
theorem moX12_four : MOk mX12_four 1 1 := ⟨tb5 204 rfl, ini12, by decide +kernel, by decide +kernel, okX12_four, rfl, ⟨tb5 203 (by decide +kernel), tbp7 1 (by decide +kernel)⟩⟩
set_option maxRecDepth 20000 in
theorem moX12_byteAt : MOk mX12_byteAt 1 1 := ⟨tb5 224 rfl, ini12, by decide +kernel, by decide +kernel, okX12_byteAt, rfl, ⟨tb5 223 (by decide +kernel), tbp7 4 (by decide +kernel)⟩⟩
set_option maxRecDepth 20000 in
theorem moX12_isDigit : MOk mX12_isDigit 0 1 := ⟨tb5 227 rfl, ini12, by decide +kernel, by decide +kernel, okX12_isDigit, rfl, tb5 226 (by decide +kernel)⟩
set_option maxRecDepth 20000 in
theorem moX12_isLetter : MOk mX12_isLetter 0 1 := ⟨tb5 231 rfl, ini12, by decide +kernel, by decide +kernel, okX12_isLetter, rfl, tb5 230 (by decide +kernel)⟩
set_option maxRecDepth 20000 in
theorem moX12_w3 : MOk mX12_w3 0 3 := ⟨tb6 2 rfl, ini12, by decide +kernel, by decide +kernel, okX12_w3, rfl, tb6 1 (by decide +kernel)⟩
set_option maxRecDepth 20000 in
theorem moX12_w5 : MOk mX12_w5 0 5 := ⟨tb6 9 rfl, ini12, by decide +kernel, by decide +kernel, okX12_w5, rfl, tb6 8 (by decide +kernel)⟩
set_option maxRecDepth 20000 in
theorem moX12_emit : MOk mX12_emit 1 2 := ⟨tb6 52 rfl, ini12, by decide +kernel, by decide +kernel, okX12_emit, rfl, ⟨tb6 51 (by decide +kernel), tbp8 0 (by decide +kernel)⟩⟩
set_option maxRecDepth 20000 in
theorem moX12_w4 : MOk mX12_w4 0 4 := ⟨tb6 12 rfl, ini12, by decide +kernel, by decide +kernel, okX12_w4, rfl, tb6 11 (by decide +kernel)⟩
set_option maxRecDepth 20000 in
theorem moX12_isStrength : MOk mX12_isStrength 1 0 := ⟨tb6 72 rfl, ini12, by decide +kernel, by decide +kernel, okX12_isStrength, rfl, ⟨tb6 71 (by decide +kernel), tbp8 5 (by decide +kernel)⟩⟩
set_option maxRecDepth 20000 in
theorem moX12_nextToken : MOk mX12_nextToken 1 0 := ⟨tb5 220 rfl, ini12, by decide +kernel, by decide +kernel, okX12_nextToken, rfl, ⟨tb5 219 (by decide +kernel), tbp7 3 (by decide +kernel)⟩⟩
set_option maxRecDepth 20000 in
theorem moX12_whole : MOk mX12_whole 1 0 := ⟨tb6 60 rfl, ini12, by decide +kernel, by decide +kernel, okX12_whole, rfl, ⟨tb6 59 (by decide +kernel), tbp8 2 (by decide +kernel)⟩⟩
set_option maxRecDepth 20000 in
theorem moX12_nameOf : MOk mX12_nameOf 1 0 := ⟨tb6 68 rfl, ini12, by decide +kernel, by decide +kernel, okX12_nameOf, rfl, ⟨tb6 67 (by decide +kernel), tbp8 4 (by decide +kernel)⟩⟩
set_option maxRecDepth 20000 in
theorem moX12_isBarred : MOk mX12_isBarred 1 1 := ⟨tb6 76 rfl, ini12, by decide +kernel, by decide +kernel, okX12_isBarred, rfl, ⟨tb6 75 (by decide +kernel), tbp8 6 (by decide +kernel)⟩⟩
set_option maxRecDepth 20000 in
theorem moX12_push : MOk mX12_push 1 1 := ⟨tb6 56 rfl, ini12, by decide +kernel, by decide +kernel, okX12_push, rfl, ⟨tb6 55 (by decide +kernel), tbp8 1 (by decide +kernel)⟩⟩
set_option maxRecDepth 20000 in
theorem moX12_hasParen : MOk mX12_hasParen 1 0 := ⟨tb6 40 rfl, ini12, by decide +kernel, by decide +kernel, okX12_hasParen, rfl, ⟨tb6 39 (by decide +kernel), tbp7 13 (by decide +kernel)⟩⟩
set_option maxRecDepth 20000 in
theorem moX12_settle : MOk mX12_settle 1 1 := ⟨tb6 48 rfl, ini12, by decide +kernel, by decide +kernel, okX12_settle, rfl, ⟨tb6 47 (by decide +kernel), tbp7 15 (by decide +kernel)⟩⟩
set_option maxRecDepth 20000 in
theorem moX12_goesOn : MOk mX12_goesOn 1 0 := ⟨tb6 36 rfl, ini12, by decide +kernel, by decide +kernel, okX12_goesOn, rfl, ⟨tb6 35 (by decide +kernel), tbp7 12 (by decide +kernel)⟩⟩
set_option maxRecDepth 20000 in
theorem moX12_behindOne : MOk mX12_behindOne 1 0 := ⟨tb6 44 rfl, ini12, by decide +kernel, by decide +kernel, okX12_behindOne, rfl, ⟨tb6 43 (by decide +kernel), tbp7 14 (by decide +kernel)⟩⟩
set_option maxRecDepth 20000 in
theorem moX12_beginOne : MOk mX12_beginOne 1 0 := ⟨tb6 64 rfl, ini12, by decide +kernel, by decide +kernel, okX12_beginOne, rfl, ⟨tb6 63 (by decide +kernel), tbp8 3 (by decide +kernel)⟩⟩
set_option maxRecDepth 20000 in
theorem moX12_isWord : MOk mX12_isWord 1 1 := ⟨tb6 6 rfl, ini12, by decide +kernel, by decide +kernel, okX12_isWord, rfl, ⟨tb6 5 (by decide +kernel), tbp7 7 (by decide +kernel)⟩⟩
set_option maxRecDepth 20000 in
theorem moX12_summed : MOk mX12_summed 1 0 := ⟨tb6 32 rfl, ini12, by decide +kernel, by decide +kernel, okX12_summed, rfl, ⟨tb6 31 (by decide +kernel), tbp7 11 (by decide +kernel)⟩⟩
set_option maxRecDepth 20000 in
theorem moX12_compareOf : MOk mX12_compareOf 1 0 := ⟨tb6 88 rfl, ini12, by decide +kernel, by decide +kernel, okX12_compareOf, rfl, ⟨tb6 87 (by decide +kernel), tbp8 9 (by decide +kernel)⟩⟩
set_option maxRecDepth 20000 in
theorem moX12_asks : MOk mX12_asks 1 0 := ⟨tb6 84 rfl, ini12, by decide +kernel, by decide +kernel, okX12_asks, rfl, ⟨tb6 83 (by decide +kernel), tbp8 8 (by decide +kernel)⟩⟩
set_option maxRecDepth 20000 in
theorem moX12_figure : MOk mX12_figure 1 3 := ⟨tb6 20 rfl, ini12, by decide +kernel, by decide +kernel, okX12_figure, rfl, ⟨tb6 19 (by decide +kernel), tbp7 9 (by decide +kernel)⟩⟩
set_option maxRecDepth 20000 in
theorem moX12_facts : MOk mX12_facts 1 2 := ⟨tb6 25 rfl, ini12, by decide +kernel, by decide +kernel, okX12_facts, rfl, ⟨tb6 24 (by decide +kernel), tbp7 10 (by decide +kernel)⟩⟩
set_option maxRecDepth 20000 in
theorem moX12_w6 : MOk mX12_w6 0 6 := ⟨tb6 28 rfl, ini12, by decide +kernel, by decide +kernel, okX12_w6, rfl, tb6 27 (by decide +kernel)⟩
set_option maxRecDepth 20000 in
theorem moX12_sortOf : MOk mX12_sortOf 1 0 := ⟨tb5 239 rfl, ini12, by decide +kernel, by decide +kernel, okX12_sortOf, rfl, ⟨tb5 238 (by decide +kernel), tbp7 6 (by decide +kernel)⟩⟩
set_option maxRecDepth 20000 in
theorem moX12_ruled : MOk mX12_ruled 1 1 := ⟨tb6 16 rfl, ini12, by decide +kernel, by decide +kernel, okX12_ruled, rfl, ⟨tb6 15 (by decide +kernel), tbp7 8 (by decide +kernel)⟩⟩
set_option maxRecDepth 20000 in
theorem moX12_either : MOk mX12_either 1 0 := ⟨tb6 80 rfl, ini12, by decide +kernel, by decide +kernel, okX12_either, rfl, ⟨tb6 79 (by decide +kernel), tbp8 7 (by decide +kernel)⟩⟩
set_option maxRecDepth 20000 in
theorem moX12_clause : MOk mX12_clause 1 0 := ⟨tb5 235 rfl, ini12, by decide +kernel, by decide +kernel, okX12_clause, rfl, ⟨tb5 234 (by decide +kernel), tbp7 5 (by decide +kernel)⟩⟩
set_option maxRecDepth 20000 in
theorem moX12_readText : MOk mX12_readText 1 0 := ⟨tb5 216 rfl, ini12, by decide +kernel, by decide +kernel, okX12_readText, rfl, ⟨tb5 215 (by decide +kernel), tbp7 2 (by decide +kernel)⟩⟩
set_option maxRecDepth 20000 in
theorem moX12_clip : MOk mX12_clip 0 1 := ⟨tb6 138 rfl, ini12, by decide +kernel, by decide +kernel, okX12_clip, rfl, tb6 137 (by decide +kernel)⟩
set_option maxRecDepth 20000 in
theorem moX12_clauseAt : MOk mX12_clauseAt 1 1 := ⟨tb6 121 rfl, ini12, by decide +kernel, by decide +kernel, okX12_clauseAt, rfl, ⟨tb6 120 (by decide +kernel), tbp8 14 (by decide +kernel)⟩⟩
set_option maxRecDepth 20000 in
theorem moX12_two : MOk mX12_two 0 3 := ⟨tb6 135 rfl, ini12, by decide +kernel, by decide +kernel, okX12_two, rfl, tb6 134 (by decide +kernel)⟩
set_option maxRecDepth 20000 in
theorem moX12_isAsked : MOk mX12_isAsked 0 3 := ⟨tb6 143 rfl, ini12, by decide +kernel, by decide +kernel, okX12_isAsked, rfl, tb6 142 (by decide +kernel)⟩
set_option maxRecDepth 20000 in
theorem moX12_clauses : MOk mX12_clauses 1 0 := ⟨tb6 117 rfl, ini12, by decide +kernel, by decide +kernel, okX12_clauses, rfl, ⟨tb6 116 (by decide +kernel), tbp8 13 (by decide +kernel)⟩⟩
set_option maxRecDepth 20000 in
theorem moX12_clauseOf : MOk mX12_clauseOf 1 1 := ⟨tb6 113 rfl, ini12, by decide +kernel, by decide +kernel, okX12_clauseOf, rfl, ⟨tb6 112 (by decide +kernel), tbp8 12 (by decide +kernel)⟩⟩
set_option maxRecDepth 20000 in
theorem moX12_name : MOk mX12_name 1 2 := ⟨tb6 125 rfl, ini12, by decide +kernel, by decide +kernel, okX12_name, rfl, ⟨tb6 124 (by decide +kernel), tbp8 15 (by decide +kernel)⟩⟩
set_option maxRecDepth 20000 in
theorem moX12_has : MOk mX12_has 0 2 := ⟨tb6 128 rfl, ini12, by decide +kernel, by decide +kernel, okX12_has, rfl, tb6 127 (by decide +kernel)⟩
set_option maxRecDepth 20000 in
theorem moX12_work : MOk mX12_work 1 1 := ⟨tb6 132 rfl, ini12, by decide +kernel, by decide +kernel, okX12_work, rfl, ⟨tb6 131 (by decide +kernel), tbp9 0 (by decide +kernel)⟩⟩
set_option maxRecDepth 20000 in
theorem moX12_saidBy : MOk mX12_saidBy 1 2 := ⟨tb6 109 rfl, ini12, by decide +kernel, by decide +kernel, okX12_saidBy, rfl, ⟨tb6 108 (by decide +kernel), tbp8 11 (by decide +kernel)⟩⟩
set_option maxRecDepth 20000 in
theorem moX12_held : MOk mX12_held 0 3 := ⟨tb6 150 rfl, ini12, by decide +kernel, by decide +kernel, okX12_held, rfl, tb6 149 (by decide +kernel)⟩
set_option maxRecDepth 20000 in
theorem moX12_saysNow : MOk mX12_saysNow 1 1 := ⟨tb6 105 rfl, ini12, by decide +kernel, by decide +kernel, okX12_saysNow, rfl, ⟨tb6 104 (by decide +kernel), tbp8 10 (by decide +kernel)⟩⟩
set_option maxRecDepth 20000 in
theorem moX12_feeOf : MOk mX12_feeOf 1 2 := ⟨tb6 147 rfl, ini12, by decide +kernel, by decide +kernel, okX12_feeOf, rfl, ⟨tb6 146 (by decide +kernel), tbp9 1 (by decide +kernel)⟩⟩
set_option maxRecDepth 20000 in
theorem moX12_isHeard : MOk mX12_isHeard 1 1 := ⟨tb6 154 rfl, ini12, by decide +kernel, by decide +kernel, okX12_isHeard, rfl, ⟨tb6 153 (by decide +kernel), tbp9 2 (by decide +kernel)⟩⟩
set_option maxRecDepth 20000 in
theorem moX12_isStruck : MOk mX12_isStruck 1 1 := ⟨tb6 162 rfl, ini12, by decide +kernel, by decide +kernel, okX12_isStruck, rfl, ⟨tb6 161 (by decide +kernel), tbp9 3 (by decide +kernel)⟩⟩
set_option maxRecDepth 20000 in
theorem moX12_clear : MOk mX12_clear 1 0 := ⟨tb6 186 rfl, ini12, by decide +kernel, by decide +kernel, okX12_clear, rfl, ⟨tb6 185 (by decide +kernel), tbp9 7 (by decide +kernel)⟩⟩
set_option maxRecDepth 20000 in
theorem moX12_adduce : MOk mX12_adduce 1 2 := ⟨tb6 190 rfl, ini12, by decide +kernel, by decide +kernel, okX12_adduce, rfl, ⟨tb6 189 (by decide +kernel), tbp9 8 (by decide +kernel)⟩⟩
set_option maxRecDepth 20000 in
theorem moX12_isRule : MOk mX12_isRule 1 1 := ⟨tb6 198 rfl, ini12, by decide +kernel, by decide +kernel, okX12_isRule, rfl, ⟨tb6 197 (by decide +kernel), tbp9 10 (by decide +kernel)⟩⟩
set_option maxRecDepth 20000 in
theorem moX12_strong : MOk mX12_strong 1 2 := ⟨tb6 202 rfl, ini12, by decide +kernel, by decide +kernel, okX12_strong, rfl, ⟨tb6 201 (by decide +kernel), tbp9 11 (by decide +kernel)⟩⟩
set_option maxRecDepth 20000 in
theorem moX12_factOf : MOk mX12_factOf 1 1 := ⟨tb6 230 rfl, ini12, by decide +kernel, by decide +kernel, okX12_factOf, rfl, ⟨tb6 229 (by decide +kernel), tbp10 0 (by decide +kernel)⟩⟩
set_option maxRecDepth 20000 in
theorem moX12_bySet : MOk mX12_bySet 1 1 := ⟨tb6 182 rfl, ini12, by decide +kernel, by decide +kernel, okX12_bySet, rfl, ⟨tb6 181 (by decide +kernel), tbp9 6 (by decide +kernel)⟩⟩
set_option maxRecDepth 20000 in
theorem moX12_show : MOk mX12_show 1 1 := ⟨tb6 194 rfl, ini12, by decide +kernel, by decide +kernel, okX12_show, rfl, ⟨tb6 193 (by decide +kernel), tbp9 9 (by decide +kernel)⟩⟩
set_option maxRecDepth 20000 in
theorem moX12_isShown : MOk mX12_isShown 1 1 := ⟨tb6 226 rfl, ini12, by decide +kernel, by decide +kernel, okX12_isShown, rfl, ⟨tb6 225 (by decide +kernel), tbp9 15 (by decide +kernel)⟩⟩
set_option maxRecDepth 20000 in
theorem moX12_isSet : MOk mX12_isSet 1 1 := ⟨tb6 174 rfl, ini12, by decide +kernel, by decide +kernel, okX12_isSet, rfl, ⟨tb6 173 (by decide +kernel), tbp9 4 (by decide +kernel)⟩⟩
set_option maxRecDepth 20000 in
theorem moX12_ask : MOk mX12_ask 1 0 := ⟨tb6 178 rfl, ini12, by decide +kernel, by decide +kernel, okX12_ask, rfl, ⟨tb6 177 (by decide +kernel), tbp9 5 (by decide +kernel)⟩⟩
set_option maxRecDepth 20000 in
theorem moX12_byHeard : MOk mX12_byHeard 1 1 := ⟨tb6 210 rfl, ini12, by decide +kernel, by decide +kernel, okX12_byHeard, rfl, ⟨tb6 209 (by decide +kernel), tbp9 12 (by decide +kernel)⟩⟩
set_option maxRecDepth 20000 in
theorem moX12_isVerdict : MOk mX12_isVerdict 1 1 := ⟨tb6 218 rfl, ini12, by decide +kernel, by decide +kernel, okX12_isVerdict, rfl, ⟨tb6 217 (by decide +kernel), tbp9 13 (by decide +kernel)⟩⟩
set_option maxRecDepth 20000 in
theorem moX12_followsBy : MOk mX12_followsBy 1 3 := ⟨tb6 222 rfl, ini12, by decide +kernel, by decide +kernel, okX12_followsBy, rfl, ⟨tb6 221 (by decide +kernel), tbp9 14 (by decide +kernel)⟩⟩
set_option maxRecDepth 20000 in
theorem moX12_firstRule : MOk mX12_firstRule 1 1 := ⟨tb7 6 rfl, ini12, by decide +kernel, by decide +kernel, okX12_firstRule, rfl, ⟨tb7 5 (by decide +kernel), tbp10 2 (by decide +kernel)⟩⟩
set_option maxRecDepth 20000 in
theorem moX12_findChain : MOk mX12_findChain 1 2 := ⟨tb7 2 rfl, ini12, by decide +kernel, by decide +kernel, okX12_findChain, rfl, ⟨tb7 1 (by decide +kernel), tbp10 1 (by decide +kernel)⟩⟩
set_option maxRecDepth 20000 in
theorem moX12_feesOf : MOk mX12_feesOf 1 1 := ⟨tb7 26 rfl, ini12, by decide +kernel, by decide +kernel, okX12_feesOf, rfl, ⟨tb7 25 (by decide +kernel), tbp10 4 (by decide +kernel)⟩⟩
set_option maxRecDepth 20000 in
theorem moX12_tryBent : MOk mX12_tryBent 1 4 := ⟨tb7 30 rfl, ini12, by decide +kernel, by decide +kernel, okX12_tryBent, rfl, ⟨tb7 29 (by decide +kernel), tbp10 5 (by decide +kernel)⟩⟩
set_option maxRecDepth 20000 in
theorem moX12_findLeast : MOk mX12_findLeast 1 1 := ⟨tb7 22 rfl, ini12, by decide +kernel, by decide +kernel, okX12_findLeast, rfl, ⟨tb7 21 (by decide +kernel), tbp10 3 (by decide +kernel)⟩⟩
set_option maxRecDepth 20000 in
theorem moX12_canMove : MOk mX12_canMove 1 1 := ⟨tb7 58 rfl, ini12, by decide +kernel, by decide +kernel, okX12_canMove, rfl, ⟨tb7 57 (by decide +kernel), tbp10 8 (by decide +kernel)⟩⟩
set_option maxRecDepth 20000 in
theorem moX12_takeBack : MOk mX12_takeBack 1 1 := ⟨tb7 62 rfl, ini12, by decide +kernel, by decide +kernel, okX12_takeBack, rfl, ⟨tb7 61 (by decide +kernel), tbp10 9 (by decide +kernel)⟩⟩
set_option maxRecDepth 20000 in
theorem moX12_isDay : MOk mX12_isDay 1 4 := ⟨tb7 50 rfl, ini12, by decide +kernel, by decide +kernel, okX12_isDay, rfl, ⟨tb7 49 (by decide +kernel), tbp10 6 (by decide +kernel)⟩⟩
set_option maxRecDepth 20000 in
theorem moX12_findBest : MOk mX12_findBest 1 4 := ⟨tb7 54 rfl, ini12, by decide +kernel, by decide +kernel, okX12_findBest, rfl, ⟨tb7 53 (by decide +kernel), tbp10 7 (by decide +kernel)⟩⟩
set_option maxRecDepth 20000 in
theorem moX12_rules : MOk mX12_rules 1 0 := ⟨tb7 94 rfl, ini12, by decide +kernel, by decide +kernel, okX12_rules, rfl, ⟨tb7 93 (by decide +kernel), tbp10 10 (by decide +kernel)⟩⟩
set_option maxRecDepth 20000 in
theorem moX11_init : MOk mX11_init 2 0 := ⟨tb1 25 rfl, ini11, by decide +kernel, by decide +kernel, okX11_init, rfl, ⟨rfl, tb1 24 (by decide +kernel), rfl⟩⟩
set_option maxRecDepth 20000 in
theorem moX12_init : MOk mX12_init 2 0 := ⟨tb5 56 rfl, ini12, by decide +kernel, by decide +kernel, okX12_init, rfl, ⟨rfl, tb5 55 (by decide +kernel), rfl⟩⟩
set_option maxRecDepth 20000 in
theorem moX11_witness : MOk mX11_witness 1 4 := ⟨tb2 152 rfl, ini11, by decide +kernel, by decide +kernel, okX11_witness, rfl, ⟨tb2 150 (by decide +kernel), tb2 151 (by decide +kernel)⟩⟩
set_option maxRecDepth 20000 in
theorem moX12_witness : MOk mX12_witness 1 4 := ⟨tb5 176 rfl, ini12, by decide +kernel, by decide +kernel, okX12_witness, rfl, ⟨tb5 174 (by decide +kernel), tb5 175 (by decide +kernel)⟩⟩
set_option maxRecDepth 20000 in
theorem moX11_verdict : MOk mX11_verdict 1 3 := ⟨tb2 161 rfl, ini11, by decide +kernel, by decide +kernel, okX11_verdict, rfl, ⟨tb2 159 (by decide +kernel), tb2 160 (by decide +kernel)⟩⟩
set_option maxRecDepth 20000 in
theorem moX12_verdict : MOk mX12_verdict 1 3 := ⟨tb5 184 rfl, ini12, by decide +kernel, by decide +kernel, okX12_verdict, rfl, ⟨tb5 182 (by decide +kernel), tb5 183 (by decide +kernel)⟩⟩
set_option maxRecDepth 20000 in
theorem moX11_hour : MOk mX11_hour 1 1 := ⟨tb2 172 rfl, ini11, by decide +kernel, by decide +kernel, okX11_hour, rfl, ⟨tb2 170 (by decide +kernel), tb2 171 (by decide +kernel)⟩⟩
set_option maxRecDepth 20000 in
theorem moX12_hour : MOk mX12_hour 1 1 := ⟨tb5 188 rfl, ini12, by decide +kernel, by decide +kernel, okX12_hour, rfl, ⟨tb5 186 (by decide +kernel), tb5 187 (by decide +kernel)⟩⟩
set_option maxRecDepth 20000 in
theorem moX11_strike : MOk mX11_strike 1 2 := ⟨tb2 176 rfl, ini11, by decide +kernel, by decide +kernel, okX11_strike, rfl, ⟨tb2 174 (by decide +kernel), tb2 175 (by decide +kernel)⟩⟩
set_option maxRecDepth 20000 in
theorem moX12_strike : MOk mX12_strike 1 2 := ⟨tb5 192 rfl, ini12, by decide +kernel, by decide +kernel, okX12_strike, rfl, ⟨tb5 190 (by decide +kernel), tb5 191 (by decide +kernel)⟩⟩
set_option maxRecDepth 20000 in
theorem moX11_feed : MOk mX11_feed 1 5 := ⟨tb2 184 rfl, ini11, by decide +kernel, by decide +kernel, okX11_feed, rfl, ⟨tb2 182 (by decide +kernel), tb2 183 (by decide +kernel)⟩⟩
set_option maxRecDepth 20000 in
theorem moX12_feed : MOk mX12_feed 1 5 := ⟨tb5 200 rfl, ini12, by decide +kernel, by decide +kernel, okX12_feed, rfl, ⟨tb5 198 (by decide +kernel), tb5 199 (by decide +kernel)⟩⟩
set_option maxRecDepth 20000 in
theorem moX11_end : MOk mX11_end 1 1 := ⟨tb2 192 rfl, ini11, by decide +kernel, by decide +kernel, okX11_end, rfl, ⟨tb2 190 (by decide +kernel), tb2 191 (by decide +kernel)⟩⟩
set_option maxRecDepth 20000 in
theorem moX12_end : MOk mX12_end 1 1 := ⟨tb5 208 rfl, ini12, by decide +kernel, by decide +kernel, okX12_end, rfl, ⟨tb5 206 (by decide +kernel), tb5 207 (by decide +kernel)⟩⟩
set_option maxRecDepth 20000 in
theorem moX11_text : MOk mX11_text 1 0 := ⟨tb2 196 rfl, ini11, by decide +kernel, by decide +kernel, okX11_text, rfl, ⟨tb2 194 (by decide +kernel), tb2 195 (by decide +kernel)⟩⟩
set_option maxRecDepth 20000 in
theorem moX12_text : MOk mX12_text 1 0 := ⟨tb5 212 rfl, ini12, by decide +kernel, by decide +kernel, okX12_text, rfl, ⟨tb5 210 (by decide +kernel), tb5 211 (by decide +kernel)⟩⟩
set_option maxRecDepth 20000 in
theorem moX11_fault : MOk mX11_fault 1 1 := ⟨tb3 135 rfl, ini11, by decide +kernel, by decide +kernel, okX11_fault, rfl, ⟨tb3 133 (by decide +kernel), tb3 134 (by decide +kernel)⟩⟩
set_option maxRecDepth 20000 in
theorem moX12_fault : MOk mX12_fault 1 1 := ⟨tb6 93 rfl, ini12, by decide +kernel, by decide +kernel, okX12_fault, rfl, ⟨tb6 91 (by decide +kernel), tb6 92 (by decide +kernel)⟩⟩
set_option maxRecDepth 20000 in
theorem moX11_by : MOk mX11_by 1 1 := ⟨tb3 139 rfl, ini11, by decide +kernel, by decide +kernel, okX11_by, rfl, ⟨tb3 137 (by decide +kernel), tb3 138 (by decide +kernel)⟩⟩
set_option maxRecDepth 20000 in
theorem moX12_by : MOk mX12_by 1 1 := ⟨tb6 97 rfl, ini12, by decide +kernel, by decide +kernel, okX12_by, rfl, ⟨tb6 95 (by decide +kernel), tb6 96 (by decide +kernel)⟩⟩
set_option maxRecDepth 20000 in
theorem moX11_of : MOk mX11_of 1 2 := ⟨tb3 143 rfl, ini11, by decide +kernel, by decide +kernel, okX11_of, rfl, ⟨tb3 141 (by decide +kernel), tb3 142 (by decide +kernel)⟩⟩
set_option maxRecDepth 20000 in
theorem moX12_of : MOk mX12_of 1 2 := ⟨tb6 101 rfl, ini12, by decide +kernel, by decide +kernel, okX12_of, rfl, ⟨tb6 99 (by decide +kernel), tb6 100 (by decide +kernel)⟩⟩
set_option maxRecDepth 20000 in
theorem moX11_hear : MOk mX11_hear 1 1 := ⟨tb3 206 rfl, ini11, by decide +kernel, by decide +kernel, okX11_hear, rfl, ⟨tb3 204 (by decide +kernel), tb3 205 (by decide +kernel)⟩⟩
set_option maxRecDepth 20000 in
theorem moX12_hear : MOk mX12_hear 1 1 := ⟨tb6 158 rfl, ini12, by decide +kernel, by decide +kernel, okX12_hear, rfl, ⟨tb6 156 (by decide +kernel), tb6 157 (by decide +kernel)⟩⟩
set_option maxRecDepth 20000 in
theorem moX11_rise : MOk mX11_rise 1 0 := ⟨tb3 214 rfl, ini11, by decide +kernel, by decide +kernel, okX11_rise, rfl, ⟨tb3 212 (by decide +kernel), tb3 213 (by decide +kernel)⟩⟩
set_option maxRecDepth 20000 in
theorem moX12_rise : MOk mX12_rise 1 0 := ⟨tb6 166 rfl, ini12, by decide +kernel, by decide +kernel, okX12_rise, rfl, ⟨tb6 164 (by decide +kernel), tb6 165 (by decide +kernel)⟩⟩
set_option maxRecDepth 20000 in
theorem moX11_shown : MOk mX11_shown 1 2 := ⟨tb3 222 rfl, ini11, by decide +kernel, by decide +kernel, okX11_shown, rfl, ⟨tb3 220 (by decide +kernel), tb3 221 (by decide +kernel)⟩⟩
set_option maxRecDepth 20000 in
theorem moX12_shown : MOk mX12_shown 1 2 := ⟨tb6 170 rfl, ini12, by decide +kernel, by decide +kernel, okX12_shown, rfl, ⟨tb6 168 (by decide +kernel), tb6 169 (by decide +kernel)⟩⟩
set_option maxRecDepth 20000 in
theorem moX11_known : MOk mX11_known 1 2 := ⟨tb4 18 rfl, ini11, by decide +kernel, by decide +kernel, okX11_known, rfl, ⟨tb4 16 (by decide +kernel), tb4 17 (by decide +kernel)⟩⟩
set_option maxRecDepth 20000 in
theorem moX12_known : MOk mX12_known 1 2 := ⟨tb6 206 rfl, ini12, by decide +kernel, by decide +kernel, okX12_known, rfl, ⟨tb6 204 (by decide +kernel), tb6 205 (by decide +kernel)⟩⟩
set_option maxRecDepth 20000 in
theorem moX11_follows : MOk mX11_follows 1 2 := ⟨tb4 30 rfl, ini11, by decide +kernel, by decide +kernel, okX11_follows, rfl, ⟨tb4 28 (by decide +kernel), tb4 29 (by decide +kernel)⟩⟩
set_option maxRecDepth 20000 in
theorem moX12_follows : MOk mX12_follows 1 2 := ⟨tb6 214 rfl, ini12, by decide +kernel, by decide +kernel, okX12_follows, rfl, ⟨tb6 212 (by decide +kernel), tb6 213 (by decide +kernel)⟩⟩
set_option maxRecDepth 20000 in
theorem moX11_appeal : MOk mX11_appeal 1 2 := ⟨tb4 50 rfl, ini11, by decide +kernel, by decide +kernel, okX11_appeal, rfl, ⟨tb4 48 (by decide +kernel), tb4 49 (by decide +kernel)⟩⟩
set_option maxRecDepth 20000 in
theorem moX12_appeal : MOk mX12_appeal 1 2 := ⟨tb6 234 rfl, ini12, by decide +kernel, by decide +kernel, okX12_appeal, rfl, ⟨tb6 232 (by decide +kernel), tb6 233 (by decide +kernel)⟩⟩
set_option maxRecDepth 20000 in
theorem moX11_chain : MOk mX11_chain 1 4 := ⟨tb4 54 rfl, ini11, by decide +kernel, by decide +kernel, okX11_chain, rfl, ⟨tb4 52 (by decide +kernel), tb4 53 (by decide +kernel)⟩⟩
set_option maxRecDepth 20000 in
theorem moX12_chain : MOk mX12_chain 1 4 := ⟨tb6 238 rfl, ini12, by decide +kernel, by decide +kernel, okX12_chain, rfl, ⟨tb6 236 (by decide +kernel), tb6 237 (by decide +kernel)⟩⟩
set_option maxRecDepth 20000 in
theorem moX11_weakest : MOk mX11_weakest 1 2 := ⟨tb4 85 rfl, ini11, by decide +kernel, by decide +kernel, okX11_weakest, rfl, ⟨tb4 83 (by decide +kernel), tb4 84 (by decide +kernel)⟩⟩
set_option maxRecDepth 20000 in
theorem moX12_weakest : MOk mX12_weakest 1 2 := ⟨tb7 10 rfl, ini12, by decide +kernel, by decide +kernel, okX12_weakest, rfl, ⟨tb7 8 (by decide +kernel), tb7 9 (by decide +kernel)⟩⟩
set_option maxRecDepth 20000 in
theorem moX11_defeats : MOk mX11_defeats 1 2 := ⟨tb4 97 rfl, ini11, by decide +kernel, by decide +kernel, okX11_defeats, rfl, ⟨tb4 95 (by decide +kernel), tb4 96 (by decide +kernel)⟩⟩
set_option maxRecDepth 20000 in
theorem moX12_defeats : MOk mX12_defeats 1 2 := ⟨tb7 14 rfl, ini12, by decide +kernel, by decide +kernel, okX12_defeats, rfl, ⟨tb7 12 (by decide +kernel), tb7 13 (by decide +kernel)⟩⟩
set_option maxRecDepth 20000 in
theorem moX11_least : MOk mX11_least 1 2 := ⟨tb4 106 rfl, ini11, by decide +kernel, by decide +kernel, okX11_least, rfl, ⟨tb4 104 (by decide +kernel), tb4 105 (by decide +kernel)⟩⟩
set_option maxRecDepth 20000 in
theorem moX12_least : MOk mX12_least 1 2 := ⟨tb7 18 rfl, ini12, by decide +kernel, by decide +kernel, okX12_least, rfl, ⟨tb7 16 (by decide +kernel), tb7 17 (by decide +kernel)⟩⟩
set_option maxRecDepth 20000 in
theorem moX11_never : MOk mX11_never 1 0 := ⟨tb4 143 rfl, ini11, by decide +kernel, by decide +kernel, okX11_never, rfl, ⟨tb4 141 (by decide +kernel), tb4 142 (by decide +kernel)⟩⟩
set_option maxRecDepth 20000 in
theorem moX12_never : MOk mX12_never 1 0 := ⟨tb7 34 rfl, ini12, by decide +kernel, by decide +kernel, okX12_never, rfl, ⟨tb7 32 (by decide +kernel), tb7 33 (by decide +kernel)⟩⟩
set_option maxRecDepth 20000 in
theorem moX11_together : MOk mX11_together 1 2 := ⟨tb4 151 rfl, ini11, by decide +kernel, by decide +kernel, okX11_together, rfl, ⟨tb4 149 (by decide +kernel), tb4 150 (by decide +kernel)⟩⟩
set_option maxRecDepth 20000 in
theorem moX12_together : MOk mX12_together 1 2 := ⟨tb7 38 rfl, ini12, by decide +kernel, by decide +kernel, okX12_together, rfl, ⟨tb7 36 (by decide +kernel), tb7 37 (by decide +kernel)⟩⟩
set_option maxRecDepth 20000 in
theorem moX11_amend : MOk mX11_amend 1 2 := ⟨tb4 155 rfl, ini11, by decide +kernel, by decide +kernel, okX11_amend, rfl, ⟨tb4 153 (by decide +kernel), tb4 154 (by decide +kernel)⟩⟩
set_option maxRecDepth 20000 in
theorem moX12_amend : MOk mX12_amend 1 2 := ⟨tb7 42 rfl, ini12, by decide +kernel, by decide +kernel, okX12_amend, rfl, ⟨tb7 40 (by decide +kernel), tb7 41 (by decide +kernel)⟩⟩
set_option maxRecDepth 20000 in
theorem moX11_day : MOk mX11_day 1 4 := ⟨tb4 159 rfl, ini11, by decide +kernel, by decide +kernel, okX11_day, rfl, ⟨tb4 157 (by decide +kernel), tb4 158 (by decide +kernel)⟩⟩
set_option maxRecDepth 20000 in
theorem moX12_day : MOk mX12_day 1 4 := ⟨tb7 46 rfl, ini12, by decide +kernel, by decide +kernel, okX12_day, rfl, ⟨tb7 44 (by decide +kernel), tb7 45 (by decide +kernel)⟩⟩
set_option maxRecDepth 20000 in
theorem moX11_best : MOk mX11_best 1 4 := ⟨tb4 215 rfl, ini11, by decide +kernel, by decide +kernel, okX11_best, rfl, ⟨tb4 213 (by decide +kernel), tb4 214 (by decide +kernel)⟩⟩
set_option maxRecDepth 20000 in
theorem moX12_best : MOk mX12_best 1 4 := ⟨tb7 66 rfl, ini12, by decide +kernel, by decide +kernel, okX12_best, rfl, ⟨tb7 64 (by decide +kernel), tb7 65 (by decide +kernel)⟩⟩
set_option maxRecDepth 20000 in
theorem moX11_tell : MOk mX11_tell 1 3 := ⟨tb4 223 rfl, ini11, by decide +kernel, by decide +kernel, okX11_tell, rfl, ⟨tb4 221 (by decide +kernel), tb4 222 (by decide +kernel)⟩⟩
set_option maxRecDepth 20000 in
theorem moX12_tell : MOk mX12_tell 1 3 := ⟨tb7 70 rfl, ini12, by decide +kernel, by decide +kernel, okX12_tell, rfl, ⟨tb7 68 (by decide +kernel), tb7 69 (by decide +kernel)⟩⟩
set_option maxRecDepth 20000 in
theorem moX11_kinds : MOk mX11_kinds 1 1 := ⟨tb4 231 rfl, ini11, by decide +kernel, by decide +kernel, okX11_kinds, rfl, ⟨tb4 229 (by decide +kernel), tb4 230 (by decide +kernel)⟩⟩
set_option maxRecDepth 20000 in
theorem moX12_kinds : MOk mX12_kinds 1 1 := ⟨tb7 74 rfl, ini12, by decide +kernel, by decide +kernel, okX12_kinds, rfl, ⟨tb7 72 (by decide +kernel), tb7 73 (by decide +kernel)⟩⟩
set_option maxRecDepth 20000 in
theorem moX11_draws : MOk mX11_draws 1 3 := ⟨tb4 239 rfl, ini11, by decide +kernel, by decide +kernel, okX11_draws, rfl, ⟨tb4 237 (by decide +kernel), tb4 238 (by decide +kernel)⟩⟩
set_option maxRecDepth 20000 in
theorem moX12_draws : MOk mX12_draws 1 3 := ⟨tb7 78 rfl, ini12, by decide +kernel, by decide +kernel, okX12_draws, rfl, ⟨tb7 76 (by decide +kernel), tb7 77 (by decide +kernel)⟩⟩
set_option maxRecDepth 20000 in
theorem moX11_image : MOk mX11_image 1 0 := ⟨tb5 15 rfl, ini11, by decide +kernel, by decide +kernel, okX11_image, rfl, ⟨tb5 13 (by decide +kernel), tb5 14 (by decide +kernel)⟩⟩
set_option maxRecDepth 20000 in
theorem moX12_image : MOk mX12_image 1 0 := ⟨tb7 82 rfl, ini12, by decide +kernel, by decide +kernel, okX12_image, rfl, ⟨tb7 80 (by decide +kernel), tb7 81 (by decide +kernel)⟩⟩
set_option maxRecDepth 20000 in
theorem moX11_back : MOk mX11_back 1 0 := ⟨tb5 43 rfl, ini11, by decide +kernel, by decide +kernel, okX11_back, rfl, ⟨tb5 41 (by decide +kernel), tb5 42 (by decide +kernel)⟩⟩
set_option maxRecDepth 20000 in
theorem moX12_back : MOk mX12_back 1 0 := ⟨tb7 86 rfl, ini12, by decide +kernel, by decide +kernel, okX12_back, rfl, ⟨tb7 84 (by decide +kernel), tb7 85 (by decide +kernel)⟩⟩
set_option maxRecDepth 20000 in
theorem moX11_about : MOk mX11_about 1 1 := ⟨tb5 47 rfl, ini11, by decide +kernel, by decide +kernel, okX11_about, rfl, ⟨tb5 45 (by decide +kernel), tb5 46 (by decide +kernel)⟩⟩
set_option maxRecDepth 20000 in
theorem moX12_about : MOk mX12_about 1 1 := ⟨tb7 90 rfl, ini12, by decide +kernel, by decide +kernel, okX12_about, rfl, ⟨tb7 88 (by decide +kernel), tb7 89 (by decide +kernel)⟩⟩
def fkT (own : Nat) : List (Nat × Nat × Nat) := match own with
  | 0 => [(9, 0, 0), (15, 0, 1), (18, 0, 2), (22, 0, 3)]
  | 1 => [(12, 1, 0), (21, 1, 1), (28, 1, 2), (35, 1, 3), (39, 1, 4), (43, 1, 5), (46, 1, 6)]
  | 2 => [(9, 2, 0), (15, 2, 1), (19, 2, 2), (22, 2, 3), (25, 2, 4), (28, 2, 5), (31, 2, 6)]
  | 3 => [(9, 3, 0), (15, 3, 1), (19, 3, 2), (22, 3, 3)]
  | 4 => [(9, 4, 0)]
  | 5 => [(9, 5, 0), (15, 5, 1), (18, 5, 2), (21, 5, 3), (25, 5, 4), (28, 5, 5), (31, 5, 6), (34, 5, 7), (37, 5, 8), (40, 5, 9), (43, 5, 10), (46, 5, 11), (49, 5, 12), (103, 4, 0)]
  | 6 => [(12, 6, 0), (21, 6, 1), (25, 6, 2), (29, 6, 3), (33, 6, 4), (36, 6, 5), (39, 6, 6), (55, 10, 1), (58, 10, 3), (61, 10, 4), (64, 10, 5), (75, 5, 1)]
  | 7 => [(9, 7, 0), (15, 7, 1), (19, 7, 2), (22, 7, 3)]
  | 8 => [(9, 8, 0), (15, 8, 1), (18, 8, 2), (22, 8, 3), (25, 8, 4), (28, 8, 5)]
  | 9 => [(9, 9, 0), (15, 9, 1), (19, 9, 2), (22, 9, 3)]
  | 10 => [(9, 10, 0), (15, 10, 1), (18, 10, 2), (22, 10, 3), (25, 10, 4), (28, 10, 5)]
  | 11 => [(10, 11, 0), (16, 11, 1), (21, 11, 2), (26, 11, 3), (33, 11, 4), (40, 11, 5), (44, 11, 6), (50, 11, 7), (57, 11, 8), (61, 11, 9), (65, 11, 10), (68, 11, 11), (71, 11, 12), (74, 11, 13), (78, 11, 14), (81, 11, 15), (85, 1, 0), (101, 1, 1), (108, 1, 4), (114, 8, 1), (117, 6, 0), (121, 10, 0), (130, 1, 5), (136, 6, 3), (139, 6, 1), (146, 6, 2), (150, 6, 4), (153, 1, 6), (156, 8, 3), (163, 1, 2), (167, 7, 0), (220, 3, 1), (227, 0, 0), (239, 0, 2), (252, 3, 2), (265, 3, 0), (266, 8, 0), (270, 4, 0), (291, 1, 3), (315, 9, 0), (316, 5, 2), (322, 7, 1), (325, 7, 2), (328, 7, 3), (331, 8, 4), (334, 8, 5), (340, 8, 2), (369, 3, 3), (375, 2, 0), (388, 2, 1), (389, 2, 2)]
  | 12 => [(7, 12, 0), (13, 12, 1), (16, 12, 2), (19, 12, 3), (22, 12, 5), (26, 12, 6), (29, 12, 16), (32, 12, 22), (35, 12, 23), (39, 12, 24), (43, 12, 25), (46, 12, 26), (49, 12, 27), (52, 12, 28), (55, 12, 29), (58, 12, 30), (61, 12, 31), (64, 12, 32), (67, 12, 36), (83, 12, 4), (90, 12, 7), (97, 12, 8), (100, 12, 9), (106, 12, 10), (113, 12, 11), (125, 12, 12), (128, 12, 14), (131, 12, 17), (134, 12, 19), (138, 12, 18), (153, 12, 20), (219, 12, 21), (343, 12, 33), (346, 12, 34), (349, 12, 35)]
  | _ => []
def mkT (own : Nat) : List (Nat × Mth × Nat × Nat) := match own with
  | 0 => [(25, mX5_strengthOf, 1, 2), (31, mX5_reasonOf, 1, 3), (35, mX5_needsOf, 1, 1), (39, mX5_worthOf, 1, 1)]
  | 1 => [(11, mX8_init, 2, 0), (20, mX3_init, 2, 0), (27, mX7_init, 2, 0), (34, mX9_init, 2, 0), (49, mX8_copy, 1, 1), (53, mX3_copy, 1, 1), (56, mX7_copy, 1, 1), (59, mX9_copy, 1, 1)]
  | 2 => [(35, mX2_rowOf, 1, 2), (39, mX2_playHour, 1, 2), (43, mJ6_bitCount_0f7a4, 0, 1), (49, mX2_behindStrike, 1, 3), (53, mX2_aheadOfCall, 1, 2), (61, mX2_feeAt, 1, 2)]
  | 5 => [(58, mX5_has, 1, 1), (62, mX5_valueOf, 1, 2), (75, mX5_named, 0, 2), (80, mX5_turned, 0, 2), (83, mX5_reckoned, 0, 3), (87, mX5_bounded, 0, 1), (100, mX5_isRule, 1, 1), (108, mX5_shownAtAll, 1, 2), (111, mX5_shownBy, 1, 4)]
  | 6 => [(11, mX10_init, 2, 0), (20, mX5_init, 2, 0), (42, mX5_clear, 1, 0), (45, mX10_split, 1, 0), (48, mX6_sort, 1, 0), (52, mX6_clause, 1, 0), (67, mX6_fail, 1, 1), (71, mX5_has, 1, 1), (78, mX5_open, 1, 1), (81, mX6_rule, 1, 0), (84, mX6_sum, 1, 1), (87, mX6_either, 1, 0), (90, mX5_shut, 1, 1), (93, mX6_pass, 1, 1), (96, mX6_number, 1, 2), (100, mX6_factsBehind, 1, 2), (103, mX5_addRule, 1, 5), (107, mX6_value, 1, 0), (109, mX6_ask, 1, 1), (112, mX5_emit, 1, 1), (115, mX6_compares, 0, 1), (118, mX6_one, 1, 1), (121, mX6_isForeign, 1, 1)]
  | 10 => [(31, mX10_behindToken, 1, 1), (41, mX10_sortOf, 1, 2), (46, mX10_isLetter, 0, 1), (50, mX10_wordOf, 1, 2), (53, mX10_isDigit, 0, 1), (56, mX10_numberOf, 1, 2), (59, mX10_isSign, 0, 1)]
  | 11 => [(9, mX1_init, 2, 0), (25, mX5_init, 2, 0), (32, mX6_init, 2, 0), (39, mX4_init, 2, 0), (49, mX0_init, 2, 0), (56, mX2_init, 2, 0), (89, mX8_add, 1, 4), (95, mX11_isFact, 0, 1), (105, mX3_add, 1, 3), (111, mX11_isWitness, 1, 1), (126, mX10_put, 1, 1), (133, mX6_read, 1, 0), (142, mX5_copy, 1, 1), (159, mX11_saysAs, 1, 2), (172, mX11_feeNow, 1, 2), (175, mX11_isStruck, 1, 1), (178, mX7_has, 1, 1), (181, mX7_add, 1, 3), (184, mX7_paid, 1, 0), (188, mX11_isSet, 1, 1), (191, mX11_findSayings, 1, 0), (194, mX11_weigh, 1, 1), (197, mX11_ruling, 1, 0), (200, mX5_strengthOf, 1, 2), (204, mX11_isHeardCount, 1, 1), (207, mX11_weighHeard, 1, 1), (210, mX11_isVerdict, 1, 1), (213, mX11_followsBySet, 1, 2), (217, mX11_carried, 1, 2), (223, mX0_trace, 1, 3), (230, mJ6_bitCount_0f7a4, 0, 1), (236, mX0_factAt, 1, 1), (242, mX0_weakestFact, 1, 1), (246, mX4_copy, 1, 1), (249, mX4_add, 1, 2), (255, mX5_carries, 1, 4), (259, mX11_findFees, 1, 0), (262, mX11_findLeast, 1, 1), (267, mX11_carriedAmong, 1, 1), (272, mX5_shownAtAll, 1, 2), (275, mX5_isBarred, 1, 2), (278, mX11_isDay, 1, 4), (282, mX11_playDay, 1, 3), (285, mX2_isWon, 1, 1), (288, mX2_firstCall, 1, 1), (295, mX9_add, 1, 3), (300, mX9_fit, 1, 2), (303, mX3_chances, 1, 0), (306, mX11_findCosts, 1, 0), (309, mX3_drawnBy, 1, 1), (312, mX1_copy, 1, 1), (319, mX11_aboutHeard, 1, 1), (337, mX11_describe, 1, 1), (343, mX5_spoken, 1, 2), (347, mX5_charged, 1, 1), (351, mX4_clear, 1, 0), (354, mX11_tryLeast, 1, 2), (357, mX11_feesOf, 1, 1), (360, mX11_isLess, 1, 1), (363, mX11_keepLeast, 1, 3), (366, mX5_bendOf, 1, 1), (372, mX11_seatFree, 1, 0), (378, mX2_witnessesOf, 1, 1), (381, mX2_close, 1, 2), (385, mX2_play, 1, 2)]
  | 12 => [(70, mX12_copy, 0, 2), (74, mX12_isIn, 0, 3), (79, mX12_isWitness, 1, 1), (86, mX12_four, 1, 1), (93, mX12_byteAt, 1, 1), (103, mX12_isDigit, 0, 1), (110, mX12_isLetter, 0, 1), (117, mX12_w3, 0, 3), (121, mX12_w5, 0, 5), (141, mX12_emit, 1, 2), (145, mX12_w4, 0, 4), (149, mX12_isStrength, 1, 0), (156, mX12_nextToken, 1, 0), (159, mX12_whole, 1, 0), (162, mX12_nameOf, 1, 0), (166, mX12_isBarred, 1, 1), (169, mX12_push, 1, 1), (172, mX12_hasParen, 1, 0), (175, mX12_settle, 1, 1), (178, mX12_goesOn, 1, 0), (181, mX12_behindOne, 1, 0), (184, mX12_beginOne, 1, 0), (187, mX12_isWord, 1, 1), (191, mX12_summed, 1, 0), (194, mX12_compareOf, 1, 0), (197, mX12_asks, 1, 0), (202, mX12_figure, 1, 3), (208, mX12_facts, 1, 2), (212, mX12_w6, 0, 6), (216, mX12_sortOf, 1, 0), (222, mX12_ruled, 1, 1), (225, mX12_either, 1, 0), (228, mX12_clause, 1, 0), (231, mX12_readText, 1, 0), (238, mX12_clip, 0, 1), (242, mX12_clauseAt, 1, 1), (245, mX12_two, 0, 3), (249, mX12_isAsked, 0, 3), (253, mX12_clauses, 1, 0), (256, mX12_clauseOf, 1, 1), (259, mX12_name, 1, 2), (262, mX12_has, 0, 2), (266, mX12_work, 1, 1), (269, mX12_saidBy, 1, 2), (272, mX12_held, 0, 3), (276, mX12_saysNow, 1, 1), (279, mX12_feeOf, 1, 2), (282, mX12_isHeard, 1, 1), (285, mX12_isStruck, 1, 1), (288, mX12_clear, 1, 0), (291, mX12_adduce, 1, 2), (294, mX12_isRule, 1, 1), (297, mX12_strong, 1, 2), (300, mX12_factOf, 1, 1), (303, mX12_bySet, 1, 1), (306, mX12_show, 1, 1), (309, mX12_isShown, 1, 1), (312, mX12_isSet, 1, 1), (315, mX12_ask, 1, 0), (318, mX12_byHeard, 1, 1), (321, mX12_isVerdict, 1, 1), (324, mX12_followsBy, 1, 3), (327, mX12_firstRule, 1, 1), (330, mX12_findChain, 1, 2), (333, mX12_feesOf, 1, 1), (336, mX12_tryBent, 1, 4), (340, mX12_findLeast, 1, 1), (352, mX12_canMove, 1, 1), (355, mX12_takeBack, 1, 1), (358, mX12_isDay, 1, 4), (362, mX12_findBest, 1, 4), (366, mX12_rules, 1, 0)]
  | 13 => [(9, mX11_init, 2, 0), (12, mX12_init, 2, 0), (13, mX11_witness, 1, 4), (17, mX12_witness, 1, 4), (18, mX11_verdict, 1, 3), (22, mX12_verdict, 1, 3), (23, mX11_hour, 1, 1), (27, mX12_hour, 1, 1), (28, mX11_strike, 1, 2), (32, mX12_strike, 1, 2), (33, mX11_feed, 1, 5), (37, mX12_feed, 1, 5), (38, mX11_end, 1, 1), (42, mX12_end, 1, 1), (43, mX11_text, 1, 0), (47, mX12_text, 1, 0), (48, mX11_fault, 1, 1), (51, mX12_fault, 1, 1), (52, mX11_by, 1, 1), (55, mX12_by, 1, 1), (56, mX11_of, 1, 2), (60, mX12_of, 1, 2), (61, mX11_hear, 1, 1), (64, mX12_hear, 1, 1), (65, mX11_rise, 1, 0), (68, mX12_rise, 1, 0), (69, mX11_shown, 1, 2), (72, mX12_shown, 1, 2), (73, mX11_known, 1, 2), (76, mX12_known, 1, 2), (77, mX11_follows, 1, 2), (80, mX12_follows, 1, 2), (81, mX11_appeal, 1, 2), (84, mX12_appeal, 1, 2), (85, mX11_chain, 1, 4), (88, mX12_chain, 1, 4), (89, mX11_weakest, 1, 2), (92, mX12_weakest, 1, 2), (93, mX11_defeats, 1, 2), (96, mX12_defeats, 1, 2), (97, mX11_least, 1, 2), (100, mX12_least, 1, 2), (101, mX11_never, 1, 0), (104, mX12_never, 1, 0), (105, mX11_together, 1, 2), (109, mX12_together, 1, 2), (110, mX11_amend, 1, 2), (113, mX12_amend, 1, 2), (114, mX11_day, 1, 4), (117, mX12_day, 1, 4), (118, mX11_best, 1, 4), (121, mX12_best, 1, 4), (122, mX11_tell, 1, 3), (126, mX12_tell, 1, 3), (127, mX11_kinds, 1, 1), (130, mX12_kinds, 1, 1), (131, mX11_draws, 1, 3), (134, mX12_draws, 1, 3), (135, mX11_image, 1, 0), (138, mX12_image, 1, 0), (139, mX11_back, 1, 0), (142, mX12_back, 1, 0), (143, mX11_about, 1, 1), (146, mX12_about, 1, 1)]
  | _ => []
def nkT (own : Nat) : List (Nat × Nat) := match own with
  | 1 => [(9, 8), (18, 3), (25, 7), (32, 9)]
  | 6 => [(9, 10), (18, 5)]
  | 11 => [(7, 1), (19, 5), (30, 6), (37, 4), (47, 0), (54, 2)]
  | 13 => [(7, 11), (10, 12)]
  | _ => []
def kiT (own : Nat) : List (Nat × Int32) := match own with
  | 2 => [(34, 1000000)]
  | 11 => [(84, 65535)]
  | 12 => [(78, 65535), (109, 100000)]
  | 14 => [(265, 1431655765), (266, 858993459), (267, 252645135)]
  | _ => []
def klT (own : Nat) : List (Nat × Int64) := match own with
  | 5 => [(91, -1000000), (93, 1000000)]
  | 12 => [(200, 28530), (206, 25209), (234, 1000000), (236, -1000000)]
  | _ => []
def flk (own idx : Nat) : Option (Nat × Nat) := lk2 (fkT own) idx
def mlk (own idx : Nat) : Option (Mth × Nat × Nat) := lk2 (mkT own) idx
def nlk (own idx : Nat) : Option Nat := lk2 (nkT own) idx
def kil (own idx : Nat) : Option Int32 := lk2 (kiT own) idx
def kll (own idx : Nat) : Option Int64 := lk2 (klT own) idx
set_option maxRecDepth 20000 in
theorem fk_0 : ∀ q ∈ fkT 0, FL 0 q.1 q.2.1 q.2.2 := List.forall_mem_cons.mpr ⟨⟨RX0, TX0, 4, rfl, by decide, Or.inl (tb2 54 (by decide +kernel))⟩, List.forall_mem_cons.mpr ⟨⟨RX0, TX0, 4, rfl, by decide, Or.inl (tb2 56 (by decide +kernel))⟩, List.forall_mem_cons.mpr ⟨⟨RX0, TX0, 4, rfl, by decide, Or.inl (tb2 57 (by decide +kernel))⟩, List.forall_mem_cons.mpr ⟨⟨RX0, TX0, 4, rfl, by decide, Or.inl (tb2 59 (by decide +kernel))⟩, fun _ h => absurd h List.not_mem_nil⟩⟩⟩⟩
set_option maxRecDepth 20000 in
theorem fk_1 : ∀ q ∈ fkT 1, FL 1 q.1 q.2.1 q.2.2 := List.forall_mem_cons.mpr ⟨⟨RX1, TX1, 7, rfl, by decide, Or.inl (tb1 133 (by decide +kernel))⟩, List.forall_mem_cons.mpr ⟨⟨RX1, TX1, 7, rfl, by decide, Or.inl (tb1 135 (by decide +kernel))⟩, List.forall_mem_cons.mpr ⟨⟨RX1, TX1, 7, rfl, by decide, Or.inl (tb1 137 (by decide +kernel))⟩, List.forall_mem_cons.mpr ⟨⟨RX1, TX1, 7, rfl, by decide, Or.inl (tb1 139 (by decide +kernel))⟩, List.forall_mem_cons.mpr ⟨⟨RX1, TX1, 7, rfl, by decide, Or.inl (tb1 141 (by decide +kernel))⟩, List.forall_mem_cons.mpr ⟨⟨RX1, TX1, 7, rfl, by decide, Or.inl (tb1 143 (by decide +kernel))⟩, List.forall_mem_cons.mpr ⟨⟨RX1, TX1, 7, rfl, by decide, Or.inl (tb1 145 (by decide +kernel))⟩, fun _ h => absurd h List.not_mem_nil⟩⟩⟩⟩⟩⟩⟩
set_option maxRecDepth 20000 in
theorem fk_2 : ∀ q ∈ fkT 2, FL 2 q.1 q.2.1 q.2.2 := List.forall_mem_cons.mpr ⟨⟨RX2, TX2, 7, rfl, by decide, Or.inl (tb2 75 (by decide +kernel))⟩, List.forall_mem_cons.mpr ⟨⟨RX2, TX2, 7, rfl, by decide, Or.inl (tb2 77 (by decide +kernel))⟩, List.forall_mem_cons.mpr ⟨⟨RX2, TX2, 7, rfl, by decide, Or.inl (tb2 79 (by decide +kernel))⟩, List.forall_mem_cons.mpr ⟨⟨RX2, TX2, 7, rfl, by decide, Or.inl (tb2 81 (by decide +kernel))⟩, List.forall_mem_cons.mpr ⟨⟨RX2, TX2, 7, rfl, by decide, Or.inl (tb2 82 (by decide +kernel))⟩, List.forall_mem_cons.mpr ⟨⟨RX2, TX2, 7, rfl, by decide, Or.inl (tb2 83 (by decide +kernel))⟩, List.forall_mem_cons.mpr ⟨⟨RX2, TX2, 7, rfl, by decide, Or.inl (tb2 84 (by decide +kernel))⟩, fun _ h => absurd h List.not_mem_nil⟩⟩⟩⟩⟩⟩⟩
set_option maxRecDepth 20000 in
theorem fk_3 : ∀ q ∈ fkT 3, FL 3 q.1 q.2.1 q.2.2 := List.forall_mem_cons.mpr ⟨⟨RX3, TX3, 4, rfl, by decide, Or.inl (tb1 73 (by decide +kernel))⟩, List.forall_mem_cons.mpr ⟨⟨RX3, TX3, 4, rfl, by decide, Or.inl (tb1 75 (by decide +kernel))⟩, List.forall_mem_cons.mpr ⟨⟨RX3, TX3, 4, rfl, by decide, Or.inl (tb1 77 (by decide +kernel))⟩, List.forall_mem_cons.mpr ⟨⟨RX3, TX3, 4, rfl, by decide, Or.inl (tb1 79 (by decide +kernel))⟩, fun _ h => absurd h List.not_mem_nil⟩⟩⟩⟩
set_option maxRecDepth 20000 in
theorem fk_4 : ∀ q ∈ fkT 4, FL 4 q.1 q.2.1 q.2.2 := List.forall_mem_cons.mpr ⟨⟨RX4, TX4, 1, rfl, by decide, Or.inl (tb2 42 (by decide +kernel))⟩, fun _ h => absurd h List.not_mem_nil⟩
set_option maxRecDepth 20000 in
theorem fk_5 : ∀ q ∈ fkT 5, FL 5 q.1 q.2.1 q.2.2 := List.forall_mem_cons.mpr ⟨⟨RX5, TX5, 13, rfl, by decide, Or.inl (tb1 169 (by decide +kernel))⟩, List.forall_mem_cons.mpr ⟨⟨RX5, TX5, 13, rfl, by decide, Or.inl (tb1 170 (by decide +kernel))⟩, List.forall_mem_cons.mpr ⟨⟨RX5, TX5, 13, rfl, by decide, Or.inl (tb1 172 (by decide +kernel))⟩, List.forall_mem_cons.mpr ⟨⟨RX5, TX5, 13, rfl, by decide, Or.inl (tb1 174 (by decide +kernel))⟩, List.forall_mem_cons.mpr ⟨⟨RX5, TX5, 13, rfl, by decide, Or.inl (tb1 175 (by decide +kernel))⟩, List.forall_mem_cons.mpr ⟨⟨RX5, TX5, 13, rfl, by decide, Or.inl (tb1 176 (by decide +kernel))⟩, List.forall_mem_cons.mpr ⟨⟨RX5, TX5, 13, rfl, by decide, Or.inl (tb1 177 (by decide +kernel))⟩, List.forall_mem_cons.mpr ⟨⟨RX5, TX5, 13, rfl, by decide, Or.inl (tb1 178 (by decide +kernel))⟩, List.forall_mem_cons.mpr ⟨⟨RX5, TX5, 13, rfl, by decide, Or.inl (tb1 179 (by decide +kernel))⟩, List.forall_mem_cons.mpr ⟨⟨RX5, TX5, 13, rfl, by decide, Or.inl (tb1 180 (by decide +kernel))⟩, List.forall_mem_cons.mpr ⟨⟨RX5, TX5, 13, rfl, by decide, Or.inl (tb1 181 (by decide +kernel))⟩, List.forall_mem_cons.mpr ⟨⟨RX5, TX5, 13, rfl, by decide, Or.inl (tb1 182 (by decide +kernel))⟩, List.forall_mem_cons.mpr ⟨⟨RX5, TX5, 13, rfl, by decide, Or.inl (tb1 183 (by decide +kernel))⟩, List.forall_mem_cons.mpr ⟨⟨RX4, TX4, 1, rfl, by decide, Or.inr ⟨"VerdictFirst", tn2 43 (by decide +kernel)⟩⟩, fun _ h => absurd h List.not_mem_nil⟩⟩⟩⟩⟩⟩⟩⟩⟩⟩⟩⟩⟩⟩
set_option maxRecDepth 20000 in
theorem fk_6 : ∀ q ∈ fkT 6, FL 6 q.1 q.2.1 q.2.2 := List.forall_mem_cons.mpr ⟨⟨RX6, TX6, 7, rfl, by decide, Or.inl (tb2 9 (by decide +kernel))⟩, List.forall_mem_cons.mpr ⟨⟨RX6, TX6, 7, rfl, by decide, Or.inl (tb2 11 (by decide +kernel))⟩, List.forall_mem_cons.mpr ⟨⟨RX6, TX6, 7, rfl, by decide, Or.inl (tb2 13 (by decide +kernel))⟩, List.forall_mem_cons.mpr ⟨⟨RX6, TX6, 7, rfl, by decide, Or.inl (tb2 15 (by decide +kernel))⟩, List.forall_mem_cons.mpr ⟨⟨RX6, TX6, 7, rfl, by decide, Or.inl (tb2 17 (by decide +kernel))⟩, List.forall_mem_cons.mpr ⟨⟨RX6, TX6, 7, rfl, by decide, Or.inl (tb2 19 (by decide +kernel))⟩, List.forall_mem_cons.mpr ⟨⟨RX6, TX6, 7, rfl, by decide, Or.inl (tb2 20 (by decide +kernel))⟩, List.forall_mem_cons.mpr ⟨⟨RX10, TX10, 6, rfl, by decide, Or.inr ⟨"VerdictFirst", tn1 226 (by decide +kernel)⟩⟩, List.forall_mem_cons.mpr ⟨⟨RX10, TX10, 6, rfl, by decide, Or.inr ⟨"VerdictFirst", tn1 229 (by decide +kernel)⟩⟩, List.forall_mem_cons.mpr ⟨⟨RX10, TX10, 6, rfl, by decide, Or.inr ⟨"VerdictFirst", tn1 231 (by decide +kernel)⟩⟩, List.forall_mem_cons.mpr ⟨⟨RX10, TX10, 6, rfl, by decide, Or.inr ⟨"VerdictFirst", tn1 233 (by decide +kernel)⟩⟩, List.forall_mem_cons.mpr ⟨⟨RX5, TX5, 13, rfl, by decide, Or.inr ⟨"VerdictFirst", tn1 171 (by decide +kernel)⟩⟩, fun _ h => absurd h List.not_mem_nil⟩⟩⟩⟩⟩⟩⟩⟩⟩⟩⟩⟩
set_option maxRecDepth 20000 in
theorem fk_7 : ∀ q ∈ fkT 7, FL 7 q.1 q.2.1 q.2.2 := List.forall_mem_cons.mpr ⟨⟨RX7, TX7, 4, rfl, by decide, Or.inl (tb1 96 (by decide +kernel))⟩, List.forall_mem_cons.mpr ⟨⟨RX7, TX7, 4, rfl, by decide, Or.inl (tb1 98 (by decide +kernel))⟩, List.forall_mem_cons.mpr ⟨⟨RX7, TX7, 4, rfl, by decide, Or.inl (tb1 100 (by decide +kernel))⟩, List.forall_mem_cons.mpr ⟨⟨RX7, TX7, 4, rfl, by decide, Or.inl (tb1 102 (by decide +kernel))⟩, fun _ h => absurd h List.not_mem_nil⟩⟩⟩⟩
set_option maxRecDepth 20000 in
theorem fk_8 : ∀ q ∈ fkT 8, FL 8 q.1 q.2.1 q.2.2 := List.forall_mem_cons.mpr ⟨⟨RX8, TX8, 6, rfl, by decide, Or.inl (tb1 41 (by decide +kernel))⟩, List.forall_mem_cons.mpr ⟨⟨RX8, TX8, 6, rfl, by decide, Or.inl (tb1 43 (by decide +kernel))⟩, List.forall_mem_cons.mpr ⟨⟨RX8, TX8, 6, rfl, by decide, Or.inl (tb1 45 (by decide +kernel))⟩, List.forall_mem_cons.mpr ⟨⟨RX8, TX8, 6, rfl, by decide, Or.inl (tb1 47 (by decide +kernel))⟩, List.forall_mem_cons.mpr ⟨⟨RX8, TX8, 6, rfl, by decide, Or.inl (tb1 49 (by decide +kernel))⟩, List.forall_mem_cons.mpr ⟨⟨RX8, TX8, 6, rfl, by decide, Or.inl (tb1 51 (by decide +kernel))⟩, fun _ h => absurd h List.not_mem_nil⟩⟩⟩⟩⟩⟩
set_option maxRecDepth 20000 in
theorem fk_9 : ∀ q ∈ fkT 9, FL 9 q.1 q.2.1 q.2.2 := List.forall_mem_cons.mpr ⟨⟨RX9, TX9, 4, rfl, by decide, Or.inl (tb1 119 (by decide +kernel))⟩, List.forall_mem_cons.mpr ⟨⟨RX9, TX9, 4, rfl, by decide, Or.inl (tb1 121 (by decide +kernel))⟩, List.forall_mem_cons.mpr ⟨⟨RX9, TX9, 4, rfl, by decide, Or.inl (tb1 122 (by decide +kernel))⟩, List.forall_mem_cons.mpr ⟨⟨RX9, TX9, 4, rfl, by decide, Or.inl (tb1 123 (by decide +kernel))⟩, fun _ h => absurd h List.not_mem_nil⟩⟩⟩⟩
set_option maxRecDepth 20000 in
theorem fk_10 : ∀ q ∈ fkT 10, FL 10 q.1 q.2.1 q.2.2 := List.forall_mem_cons.mpr ⟨⟨RX10, TX10, 6, rfl, by decide, Or.inl (tb1 223 (by decide +kernel))⟩, List.forall_mem_cons.mpr ⟨⟨RX10, TX10, 6, rfl, by decide, Or.inl (tb1 225 (by decide +kernel))⟩, List.forall_mem_cons.mpr ⟨⟨RX10, TX10, 6, rfl, by decide, Or.inl (tb1 227 (by decide +kernel))⟩, List.forall_mem_cons.mpr ⟨⟨RX10, TX10, 6, rfl, by decide, Or.inl (tb1 228 (by decide +kernel))⟩, List.forall_mem_cons.mpr ⟨⟨RX10, TX10, 6, rfl, by decide, Or.inl (tb1 230 (by decide +kernel))⟩, List.forall_mem_cons.mpr ⟨⟨RX10, TX10, 6, rfl, by decide, Or.inl (tb1 232 (by decide +kernel))⟩, fun _ h => absurd h List.not_mem_nil⟩⟩⟩⟩⟩⟩
set_option maxRecDepth 20000 in
theorem fk_11 : ∀ q ∈ fkT 11, FL 11 q.1 q.2.1 q.2.2 := List.forall_mem_cons.mpr ⟨⟨RX11, TX11, 16, rfl, by decide, Or.inl (tb2 100 (by decide +kernel))⟩, List.forall_mem_cons.mpr ⟨⟨RX11, TX11, 16, rfl, by decide, Or.inl (tb2 101 (by decide +kernel))⟩, List.forall_mem_cons.mpr ⟨⟨RX11, TX11, 16, rfl, by decide, Or.inl (tb2 102 (by decide +kernel))⟩, List.forall_mem_cons.mpr ⟨⟨RX11, TX11, 16, rfl, by decide, Or.inl (tb2 103 (by decide +kernel))⟩, List.forall_mem_cons.mpr ⟨⟨RX11, TX11, 16, rfl, by decide, Or.inl (tb2 104 (by decide +kernel))⟩, List.forall_mem_cons.mpr ⟨⟨RX11, TX11, 16, rfl, by decide, Or.inl (tb2 105 (by decide +kernel))⟩, List.forall_mem_cons.mpr ⟨⟨RX11, TX11, 16, rfl, by decide, Or.inl (tb2 106 (by decide +kernel))⟩, List.forall_mem_cons.mpr ⟨⟨RX11, TX11, 16, rfl, by decide, Or.inl (tb2 107 (by decide +kernel))⟩, List.forall_mem_cons.mpr ⟨⟨RX11, TX11, 16, rfl, by decide, Or.inl (tb2 108 (by decide +kernel))⟩, List.forall_mem_cons.mpr ⟨⟨RX11, TX11, 16, rfl, by decide, Or.inl (tb2 109 (by decide +kernel))⟩, List.forall_mem_cons.mpr ⟨⟨RX11, TX11, 16, rfl, by decide, Or.inl (tb2 110 (by decide +kernel))⟩, List.forall_mem_cons.mpr ⟨⟨RX11, TX11, 16, rfl, by decide, Or.inl (tb2 111 (by decide +kernel))⟩, List.forall_mem_cons.mpr ⟨⟨RX11, TX11, 16, rfl, by decide, Or.inl (tb2 112 (by decide +kernel))⟩, List.forall_mem_cons.mpr ⟨⟨RX11, TX11, 16, rfl, by decide, Or.inl (tb2 113 (by decide +kernel))⟩, List.forall_mem_cons.mpr ⟨⟨RX11, TX11, 16, rfl, by decide, Or.inl (tb2 114 (by decide +kernel))⟩, List.forall_mem_cons.mpr ⟨⟨RX11, TX11, 16, rfl, by decide, Or.inl (tb2 115 (by decide +kernel))⟩, List.forall_mem_cons.mpr ⟨⟨RX1, TX1, 7, rfl, by decide, Or.inr ⟨"VerdictFirst", tn1 134 (by decide +kernel)⟩⟩, List.forall_mem_cons.mpr ⟨⟨RX1, TX1, 7, rfl, by decide, Or.inr ⟨"VerdictFirst", tn1 136 (by decide +kernel)⟩⟩, List.forall_mem_cons.mpr ⟨⟨RX1, TX1, 7, rfl, by decide, Or.inr ⟨"VerdictFirst", tn1 142 (by decide +kernel)⟩⟩, List.forall_mem_cons.mpr ⟨⟨RX8, TX8, 6, rfl, by decide, Or.inr ⟨"VerdictFirst", tn1 44 (by decide +kernel)⟩⟩, List.forall_mem_cons.mpr ⟨⟨RX6, TX6, 7, rfl, by decide, Or.inr ⟨"VerdictFirst", tn2 10 (by decide +kernel)⟩⟩, List.forall_mem_cons.mpr ⟨⟨RX10, TX10, 6, rfl, by decide, Or.inr ⟨"VerdictFirst", tn1 224 (by decide +kernel)⟩⟩, List.forall_mem_cons.mpr ⟨⟨RX1, TX1, 7, rfl, by decide, Or.inr ⟨"VerdictFirst", tn1 144 (by decide +kernel)⟩⟩, List.forall_mem_cons.mpr ⟨⟨RX6, TX6, 7, rfl, by decide, Or.inr ⟨"VerdictFirst", tn2 16 (by decide +kernel)⟩⟩, List.forall_mem_cons.mpr ⟨⟨RX6, TX6, 7, rfl, by decide, Or.inr ⟨"VerdictFirst", tn2 12 (by decide +kernel)⟩⟩, List.forall_mem_cons.mpr ⟨⟨RX6, TX6, 7, rfl, by decide, Or.inr ⟨"VerdictFirst", tn2 14 (by decide +kernel)⟩⟩, List.forall_mem_cons.mpr ⟨⟨RX6, TX6, 7, rfl, by decide, Or.inr ⟨"VerdictFirst", tn2 18 (by decide +kernel)⟩⟩, List.forall_mem_cons.mpr ⟨⟨RX1, TX1, 7, rfl, by decide, Or.inr ⟨"VerdictFirst", tn1 146 (by decide +kernel)⟩⟩, List.forall_mem_cons.mpr ⟨⟨RX8, TX8, 6, rfl, by decide, Or.inr ⟨"VerdictFirst", tn1 48 (by decide +kernel)⟩⟩, List.forall_mem_cons.mpr ⟨⟨RX1, TX1, 7, rfl, by decide, Or.inr ⟨"VerdictFirst", tn1 138 (by decide +kernel)⟩⟩, List.forall_mem_cons.mpr ⟨⟨RX7, TX7, 4, rfl, by decide, Or.inr ⟨"VerdictFirst", tn1 97 (by decide +kernel)⟩⟩, List.forall_mem_cons.mpr ⟨⟨RX3, TX3, 4, rfl, by decide, Or.inr ⟨"VerdictFirst", tn1 76 (by decide +kernel)⟩⟩, List.forall_mem_cons.mpr ⟨⟨RX0, TX0, 4, rfl, by decide, Or.inr ⟨"VerdictFirst", tn2 55 (by decide +kernel)⟩⟩, List.forall_mem_cons.mpr ⟨⟨RX0, TX0, 4, rfl, by decide, Or.inr ⟨"VerdictFirst", tn2 58 (by decide +kernel)⟩⟩, List.forall_mem_cons.mpr ⟨⟨RX3, TX3, 4, rfl, by decide, Or.inr ⟨"VerdictFirst", tn1 78 (by decide +kernel)⟩⟩, List.forall_mem_cons.mpr ⟨⟨RX3, TX3, 4, rfl, by decide, Or.inr ⟨"VerdictFirst", tn1 74 (by decide +kernel)⟩⟩, List.forall_mem_cons.mpr ⟨⟨RX8, TX8, 6, rfl, by decide, Or.inr ⟨"VerdictFirst", tn1 42 (by decide +kernel)⟩⟩, List.forall_mem_cons.mpr ⟨⟨RX4, TX4, 1, rfl, by decide, Or.inr ⟨"VerdictFirst", tn2 44 (by decide +kernel)⟩⟩, List.forall_mem_cons.mpr ⟨⟨RX1, TX1, 7, rfl, by decide, Or.inr ⟨"VerdictFirst", tn1 140 (by decide +kernel)⟩⟩, List.forall_mem_cons.mpr ⟨⟨RX9, TX9, 4, rfl, by decide, Or.inr ⟨"VerdictFirst", tn1 120 (by decide +kernel)⟩⟩, List.forall_mem_cons.mpr ⟨⟨RX5, TX5, 13, rfl, by decide, Or.inr ⟨"VerdictFirst", tn1 173 (by decide +kernel)⟩⟩, List.forall_mem_cons.mpr ⟨⟨RX7, TX7, 4, rfl, by decide, Or.inr ⟨"VerdictFirst", tn1 99 (by decide +kernel)⟩⟩, List.forall_mem_cons.mpr ⟨⟨RX7, TX7, 4, rfl, by decide, Or.inr ⟨"VerdictFirst", tn1 101 (by decide +kernel)⟩⟩, List.forall_mem_cons.mpr ⟨⟨RX7, TX7, 4, rfl, by decide, Or.inr ⟨"VerdictFirst", tn1 103 (by decide +kernel)⟩⟩, List.forall_mem_cons.mpr ⟨⟨RX8, TX8, 6, rfl, by decide, Or.inr ⟨"VerdictFirst", tn1 50 (by decide +kernel)⟩⟩, List.forall_mem_cons.mpr ⟨⟨RX8, TX8, 6, rfl, by decide, Or.inr ⟨"VerdictFirst", tn1 52 (by decide +kernel)⟩⟩, List.forall_mem_cons.mpr ⟨⟨RX8, TX8, 6, rfl, by decide, Or.inr ⟨"VerdictFirst", tn1 46 (by decide +kernel)⟩⟩, List.forall_mem_cons.mpr ⟨⟨RX3, TX3, 4, rfl, by decide, Or.inr ⟨"VerdictFirst", tn1 80 (by decide +kernel)⟩⟩, List.forall_mem_cons.mpr ⟨⟨RX2, TX2, 7, rfl, by decide, Or.inr ⟨"VerdictFirst", tn2 76 (by decide +kernel)⟩⟩, List.forall_mem_cons.mpr ⟨⟨RX2, TX2, 7, rfl, by decide, Or.inr ⟨"VerdictFirst", tn2 78 (by decide +kernel)⟩⟩, List.forall_mem_cons.mpr ⟨⟨RX2, TX2, 7, rfl, by decide, Or.inr ⟨"VerdictFirst", tn2 80 (by decide +kernel)⟩⟩, fun _ h => absurd h List.not_mem_nil⟩⟩⟩⟩⟩⟩⟩⟩⟩⟩⟩⟩⟩⟩⟩⟩⟩⟩⟩⟩⟩⟩⟩⟩⟩⟩⟩⟩⟩⟩⟩⟩⟩⟩⟩⟩⟩⟩⟩⟩⟩⟩⟩⟩⟩⟩⟩⟩⟩⟩⟩
set_option maxRecDepth 20000 in
theorem fk_12 : ∀ q ∈ fkT 12, FL 12 q.1 q.2.1 q.2.2 := List.forall_mem_cons.mpr ⟨⟨RX12, TX12, 37, rfl, by decide, Or.inl (tb5 61 (by decide +kernel))⟩, List.forall_mem_cons.mpr ⟨⟨RX12, TX12, 37, rfl, by decide, Or.inl (tb5 62 (by decide +kernel))⟩, List.forall_mem_cons.mpr ⟨⟨RX12, TX12, 37, rfl, by decide, Or.inl (tb5 63 (by decide +kernel))⟩, List.forall_mem_cons.mpr ⟨⟨RX12, TX12, 37, rfl, by decide, Or.inl (tb5 64 (by decide +kernel))⟩, List.forall_mem_cons.mpr ⟨⟨RX12, TX12, 37, rfl, by decide, Or.inl (tb5 66 (by decide +kernel))⟩, List.forall_mem_cons.mpr ⟨⟨RX12, TX12, 37, rfl, by decide, Or.inl (tb5 67 (by decide +kernel))⟩, List.forall_mem_cons.mpr ⟨⟨RX12, TX12, 37, rfl, by decide, Or.inl (tb5 75 (by decide +kernel))⟩, List.forall_mem_cons.mpr ⟨⟨RX12, TX12, 37, rfl, by decide, Or.inl (tb5 81 (by decide +kernel))⟩, List.forall_mem_cons.mpr ⟨⟨RX12, TX12, 37, rfl, by decide, Or.inl (tb5 82 (by decide +kernel))⟩, List.forall_mem_cons.mpr ⟨⟨RX12, TX12, 37, rfl, by decide, Or.inl (tb5 83 (by decide +kernel))⟩, List.forall_mem_cons.mpr ⟨⟨RX12, TX12, 37, rfl, by decide, Or.inl (tb5 84 (by decide +kernel))⟩, List.forall_mem_cons.mpr ⟨⟨RX12, TX12, 37, rfl, by decide, Or.inl (tb5 85 (by decide +kernel))⟩, List.forall_mem_cons.mpr ⟨⟨RX12, TX12, 37, rfl, by decide, Or.inl (tb5 86 (by decide +kernel))⟩, List.forall_mem_cons.mpr ⟨⟨RX12, TX12, 37, rfl, by decide, Or.inl (tb5 87 (by decide +kernel))⟩, List.forall_mem_cons.mpr ⟨⟨RX12, TX12, 37, rfl, by decide, Or.inl (tb5 88 (by decide +kernel))⟩, List.forall_mem_cons.mpr ⟨⟨RX12, TX12, 37, rfl, by decide, Or.inl (tb5 89 (by decide +kernel))⟩, List.forall_mem_cons.mpr ⟨⟨RX12, TX12, 37, rfl, by decide, Or.inl (tb5 90 (by decide +kernel))⟩, List.forall_mem_cons.mpr ⟨⟨RX12, TX12, 37, rfl, by decide, Or.inl (tb5 91 (by decide +kernel))⟩, List.forall_mem_cons.mpr ⟨⟨RX12, TX12, 37, rfl, by decide, Or.inl (tb5 95 (by decide +kernel))⟩, List.forall_mem_cons.mpr ⟨⟨RX12, TX12, 37, rfl, by decide, Or.inl (tb5 65 (by decide +kernel))⟩, List.forall_mem_cons.mpr ⟨⟨RX12, TX12, 37, rfl, by decide, Or.inl (tb5 68 (by decide +kernel))⟩, List.forall_mem_cons.mpr ⟨⟨RX12, TX12, 37, rfl, by decide, Or.inl (tb5 69 (by decide +kernel))⟩, List.forall_mem_cons.mpr ⟨⟨RX12, TX12, 37, rfl, by decide, Or.inl (tb5 70 (by decide +kernel))⟩, List.forall_mem_cons.mpr ⟨⟨RX12, TX12, 37, rfl, by decide, Or.inl (tb5 71 (by decide +kernel))⟩, List.forall_mem_cons.mpr ⟨⟨RX12, TX12, 37, rfl, by decide, Or.inl (tb5 72 (by decide +kernel))⟩, List.forall_mem_cons.mpr ⟨⟨RX12, TX12, 37, rfl, by decide, Or.inl (tb5 73 (by decide +kernel))⟩, List.forall_mem_cons.mpr ⟨⟨RX12, TX12, 37, rfl, by decide, Or.inl (tb5 74 (by decide +kernel))⟩, List.forall_mem_cons.mpr ⟨⟨RX12, TX12, 37, rfl, by decide, Or.inl (tb5 76 (by decide +kernel))⟩, List.forall_mem_cons.mpr ⟨⟨RX12, TX12, 37, rfl, by decide, Or.inl (tb5 78 (by decide +kernel))⟩, List.forall_mem_cons.mpr ⟨⟨RX12, TX12, 37, rfl, by decide, Or.inl (tb5 77 (by decide +kernel))⟩, List.forall_mem_cons.mpr ⟨⟨RX12, TX12, 37, rfl, by decide, Or.inl (tb5 79 (by decide +kernel))⟩, List.forall_mem_cons.mpr ⟨⟨RX12, TX12, 37, rfl, by decide, Or.inl (tb5 80 (by decide +kernel))⟩, List.forall_mem_cons.mpr ⟨⟨RX12, TX12, 37, rfl, by decide, Or.inl (tb5 92 (by decide +kernel))⟩, List.forall_mem_cons.mpr ⟨⟨RX12, TX12, 37, rfl, by decide, Or.inl (tb5 93 (by decide +kernel))⟩, List.forall_mem_cons.mpr ⟨⟨RX12, TX12, 37, rfl, by decide, Or.inl (tb5 94 (by decide +kernel))⟩, fun _ h => absurd h List.not_mem_nil⟩⟩⟩⟩⟩⟩⟩⟩⟩⟩⟩⟩⟩⟩⟩⟩⟩⟩⟩⟩⟩⟩⟩⟩⟩⟩⟩⟩⟩⟩⟩⟩⟩⟩⟩
theorem fk_all : ∀ own : Nat, ∀ q ∈ fkT own, FL own q.1 q.2.1 q.2.2 := by
  intro own
  match own with
  | 0 => exact fk_0
  | 1 => exact fk_1
  | 2 => exact fk_2
  | 3 => exact fk_3
  | 4 => exact fk_4
  | 5 => exact fk_5
  | 6 => exact fk_6
  | 7 => exact fk_7
  | 8 => exact fk_8
  | 9 => exact fk_9
  | 10 => exact fk_10
  | 11 => exact fk_11
  | 12 => exact fk_12
  | 13 => intro _ h; exact absurd h List.not_mem_nil 
  | 14 => intro _ h; exact absurd h List.not_mem_nil 
  | 15 => intro _ h; exact absurd h List.not_mem_nil 
  | n + 16 => intro _ h; exact absurd h List.not_mem_nil 
def FLp (own idx ci k : Nat) : Prop := ∃ (C : String) (T : u_T) (N : Nat), vwCl[ci]? = some (C, T, N) ∧ k < N ∧ (Cond.fieldLink (cnm own) idx (T k).1 (T k).2.1 (T k).2.2.1 ∈ lw_g)
def fpT (own : Nat) : List (Nat × Nat × Nat) := fkT own
set_option maxRecDepth 20000 in
theorem fp_0 : ∀ q ∈ fpT 0, q.2.1 = 0 → FLp 0 q.1 q.2.1 q.2.2 := List.forall_mem_cons.mpr ⟨fun _ => ⟨RX0, TX0, 4, rfl, by decide, tb2 54 (by decide +kernel)⟩, List.forall_mem_cons.mpr ⟨fun _ => ⟨RX0, TX0, 4, rfl, by decide, tb2 56 (by decide +kernel)⟩, List.forall_mem_cons.mpr ⟨fun _ => ⟨RX0, TX0, 4, rfl, by decide, tb2 57 (by decide +kernel)⟩, List.forall_mem_cons.mpr ⟨fun _ => ⟨RX0, TX0, 4, rfl, by decide, tb2 59 (by decide +kernel)⟩, fun _ h => absurd h List.not_mem_nil⟩⟩⟩⟩
set_option maxRecDepth 20000 in
theorem fp_1 : ∀ q ∈ fpT 1, q.2.1 = 1 → FLp 1 q.1 q.2.1 q.2.2 := List.forall_mem_cons.mpr ⟨fun _ => ⟨RX1, TX1, 7, rfl, by decide, tb1 133 (by decide +kernel)⟩, List.forall_mem_cons.mpr ⟨fun _ => ⟨RX1, TX1, 7, rfl, by decide, tb1 135 (by decide +kernel)⟩, List.forall_mem_cons.mpr ⟨fun _ => ⟨RX1, TX1, 7, rfl, by decide, tb1 137 (by decide +kernel)⟩, List.forall_mem_cons.mpr ⟨fun _ => ⟨RX1, TX1, 7, rfl, by decide, tb1 139 (by decide +kernel)⟩, List.forall_mem_cons.mpr ⟨fun _ => ⟨RX1, TX1, 7, rfl, by decide, tb1 141 (by decide +kernel)⟩, List.forall_mem_cons.mpr ⟨fun _ => ⟨RX1, TX1, 7, rfl, by decide, tb1 143 (by decide +kernel)⟩, List.forall_mem_cons.mpr ⟨fun _ => ⟨RX1, TX1, 7, rfl, by decide, tb1 145 (by decide +kernel)⟩, fun _ h => absurd h List.not_mem_nil⟩⟩⟩⟩⟩⟩⟩
set_option maxRecDepth 20000 in
theorem fp_2 : ∀ q ∈ fpT 2, q.2.1 = 2 → FLp 2 q.1 q.2.1 q.2.2 := List.forall_mem_cons.mpr ⟨fun _ => ⟨RX2, TX2, 7, rfl, by decide, tb2 75 (by decide +kernel)⟩, List.forall_mem_cons.mpr ⟨fun _ => ⟨RX2, TX2, 7, rfl, by decide, tb2 77 (by decide +kernel)⟩, List.forall_mem_cons.mpr ⟨fun _ => ⟨RX2, TX2, 7, rfl, by decide, tb2 79 (by decide +kernel)⟩, List.forall_mem_cons.mpr ⟨fun _ => ⟨RX2, TX2, 7, rfl, by decide, tb2 81 (by decide +kernel)⟩, List.forall_mem_cons.mpr ⟨fun _ => ⟨RX2, TX2, 7, rfl, by decide, tb2 82 (by decide +kernel)⟩, List.forall_mem_cons.mpr ⟨fun _ => ⟨RX2, TX2, 7, rfl, by decide, tb2 83 (by decide +kernel)⟩, List.forall_mem_cons.mpr ⟨fun _ => ⟨RX2, TX2, 7, rfl, by decide, tb2 84 (by decide +kernel)⟩, fun _ h => absurd h List.not_mem_nil⟩⟩⟩⟩⟩⟩⟩
set_option maxRecDepth 20000 in
theorem fp_3 : ∀ q ∈ fpT 3, q.2.1 = 3 → FLp 3 q.1 q.2.1 q.2.2 := List.forall_mem_cons.mpr ⟨fun _ => ⟨RX3, TX3, 4, rfl, by decide, tb1 73 (by decide +kernel)⟩, List.forall_mem_cons.mpr ⟨fun _ => ⟨RX3, TX3, 4, rfl, by decide, tb1 75 (by decide +kernel)⟩, List.forall_mem_cons.mpr ⟨fun _ => ⟨RX3, TX3, 4, rfl, by decide, tb1 77 (by decide +kernel)⟩, List.forall_mem_cons.mpr ⟨fun _ => ⟨RX3, TX3, 4, rfl, by decide, tb1 79 (by decide +kernel)⟩, fun _ h => absurd h List.not_mem_nil⟩⟩⟩⟩
set_option maxRecDepth 20000 in
theorem fp_4 : ∀ q ∈ fpT 4, q.2.1 = 4 → FLp 4 q.1 q.2.1 q.2.2 := List.forall_mem_cons.mpr ⟨fun _ => ⟨RX4, TX4, 1, rfl, by decide, tb2 42 (by decide +kernel)⟩, fun _ h => absurd h List.not_mem_nil⟩
set_option maxRecDepth 20000 in
theorem fp_5 : ∀ q ∈ fpT 5, q.2.1 = 5 → FLp 5 q.1 q.2.1 q.2.2 := List.forall_mem_cons.mpr ⟨fun _ => ⟨RX5, TX5, 13, rfl, by decide, tb1 169 (by decide +kernel)⟩, List.forall_mem_cons.mpr ⟨fun _ => ⟨RX5, TX5, 13, rfl, by decide, tb1 170 (by decide +kernel)⟩, List.forall_mem_cons.mpr ⟨fun _ => ⟨RX5, TX5, 13, rfl, by decide, tb1 172 (by decide +kernel)⟩, List.forall_mem_cons.mpr ⟨fun _ => ⟨RX5, TX5, 13, rfl, by decide, tb1 174 (by decide +kernel)⟩, List.forall_mem_cons.mpr ⟨fun _ => ⟨RX5, TX5, 13, rfl, by decide, tb1 175 (by decide +kernel)⟩, List.forall_mem_cons.mpr ⟨fun _ => ⟨RX5, TX5, 13, rfl, by decide, tb1 176 (by decide +kernel)⟩, List.forall_mem_cons.mpr ⟨fun _ => ⟨RX5, TX5, 13, rfl, by decide, tb1 177 (by decide +kernel)⟩, List.forall_mem_cons.mpr ⟨fun _ => ⟨RX5, TX5, 13, rfl, by decide, tb1 178 (by decide +kernel)⟩, List.forall_mem_cons.mpr ⟨fun _ => ⟨RX5, TX5, 13, rfl, by decide, tb1 179 (by decide +kernel)⟩, List.forall_mem_cons.mpr ⟨fun _ => ⟨RX5, TX5, 13, rfl, by decide, tb1 180 (by decide +kernel)⟩, List.forall_mem_cons.mpr ⟨fun _ => ⟨RX5, TX5, 13, rfl, by decide, tb1 181 (by decide +kernel)⟩, List.forall_mem_cons.mpr ⟨fun _ => ⟨RX5, TX5, 13, rfl, by decide, tb1 182 (by decide +kernel)⟩, List.forall_mem_cons.mpr ⟨fun _ => ⟨RX5, TX5, 13, rfl, by decide, tb1 183 (by decide +kernel)⟩, List.forall_mem_cons.mpr ⟨fun h => absurd h (by decide), fun _ h => absurd h List.not_mem_nil⟩⟩⟩⟩⟩⟩⟩⟩⟩⟩⟩⟩⟩⟩
set_option maxRecDepth 20000 in
theorem fp_6 : ∀ q ∈ fpT 6, q.2.1 = 6 → FLp 6 q.1 q.2.1 q.2.2 := List.forall_mem_cons.mpr ⟨fun _ => ⟨RX6, TX6, 7, rfl, by decide, tb2 9 (by decide +kernel)⟩, List.forall_mem_cons.mpr ⟨fun _ => ⟨RX6, TX6, 7, rfl, by decide, tb2 11 (by decide +kernel)⟩, List.forall_mem_cons.mpr ⟨fun _ => ⟨RX6, TX6, 7, rfl, by decide, tb2 13 (by decide +kernel)⟩, List.forall_mem_cons.mpr ⟨fun _ => ⟨RX6, TX6, 7, rfl, by decide, tb2 15 (by decide +kernel)⟩, List.forall_mem_cons.mpr ⟨fun _ => ⟨RX6, TX6, 7, rfl, by decide, tb2 17 (by decide +kernel)⟩, List.forall_mem_cons.mpr ⟨fun _ => ⟨RX6, TX6, 7, rfl, by decide, tb2 19 (by decide +kernel)⟩, List.forall_mem_cons.mpr ⟨fun _ => ⟨RX6, TX6, 7, rfl, by decide, tb2 20 (by decide +kernel)⟩, List.forall_mem_cons.mpr ⟨fun h => absurd h (by decide), List.forall_mem_cons.mpr ⟨fun h => absurd h (by decide), List.forall_mem_cons.mpr ⟨fun h => absurd h (by decide), List.forall_mem_cons.mpr ⟨fun h => absurd h (by decide), List.forall_mem_cons.mpr ⟨fun h => absurd h (by decide), fun _ h => absurd h List.not_mem_nil⟩⟩⟩⟩⟩⟩⟩⟩⟩⟩⟩⟩
set_option maxRecDepth 20000 in
theorem fp_7 : ∀ q ∈ fpT 7, q.2.1 = 7 → FLp 7 q.1 q.2.1 q.2.2 := List.forall_mem_cons.mpr ⟨fun _ => ⟨RX7, TX7, 4, rfl, by decide, tb1 96 (by decide +kernel)⟩, List.forall_mem_cons.mpr ⟨fun _ => ⟨RX7, TX7, 4, rfl, by decide, tb1 98 (by decide +kernel)⟩, List.forall_mem_cons.mpr ⟨fun _ => ⟨RX7, TX7, 4, rfl, by decide, tb1 100 (by decide +kernel)⟩, List.forall_mem_cons.mpr ⟨fun _ => ⟨RX7, TX7, 4, rfl, by decide, tb1 102 (by decide +kernel)⟩, fun _ h => absurd h List.not_mem_nil⟩⟩⟩⟩
set_option maxRecDepth 20000 in
theorem fp_8 : ∀ q ∈ fpT 8, q.2.1 = 8 → FLp 8 q.1 q.2.1 q.2.2 := List.forall_mem_cons.mpr ⟨fun _ => ⟨RX8, TX8, 6, rfl, by decide, tb1 41 (by decide +kernel)⟩, List.forall_mem_cons.mpr ⟨fun _ => ⟨RX8, TX8, 6, rfl, by decide, tb1 43 (by decide +kernel)⟩, List.forall_mem_cons.mpr ⟨fun _ => ⟨RX8, TX8, 6, rfl, by decide, tb1 45 (by decide +kernel)⟩, List.forall_mem_cons.mpr ⟨fun _ => ⟨RX8, TX8, 6, rfl, by decide, tb1 47 (by decide +kernel)⟩, List.forall_mem_cons.mpr ⟨fun _ => ⟨RX8, TX8, 6, rfl, by decide, tb1 49 (by decide +kernel)⟩, List.forall_mem_cons.mpr ⟨fun _ => ⟨RX8, TX8, 6, rfl, by decide, tb1 51 (by decide +kernel)⟩, fun _ h => absurd h List.not_mem_nil⟩⟩⟩⟩⟩⟩
set_option maxRecDepth 20000 in
theorem fp_9 : ∀ q ∈ fpT 9, q.2.1 = 9 → FLp 9 q.1 q.2.1 q.2.2 := List.forall_mem_cons.mpr ⟨fun _ => ⟨RX9, TX9, 4, rfl, by decide, tb1 119 (by decide +kernel)⟩, List.forall_mem_cons.mpr ⟨fun _ => ⟨RX9, TX9, 4, rfl, by decide, tb1 121 (by decide +kernel)⟩, List.forall_mem_cons.mpr ⟨fun _ => ⟨RX9, TX9, 4, rfl, by decide, tb1 122 (by decide +kernel)⟩, List.forall_mem_cons.mpr ⟨fun _ => ⟨RX9, TX9, 4, rfl, by decide, tb1 123 (by decide +kernel)⟩, fun _ h => absurd h List.not_mem_nil⟩⟩⟩⟩
set_option maxRecDepth 20000 in
theorem fp_10 : ∀ q ∈ fpT 10, q.2.1 = 10 → FLp 10 q.1 q.2.1 q.2.2 := List.forall_mem_cons.mpr ⟨fun _ => ⟨RX10, TX10, 6, rfl, by decide, tb1 223 (by decide +kernel)⟩, List.forall_mem_cons.mpr ⟨fun _ => ⟨RX10, TX10, 6, rfl, by decide, tb1 225 (by decide +kernel)⟩, List.forall_mem_cons.mpr ⟨fun _ => ⟨RX10, TX10, 6, rfl, by decide, tb1 227 (by decide +kernel)⟩, List.forall_mem_cons.mpr ⟨fun _ => ⟨RX10, TX10, 6, rfl, by decide, tb1 228 (by decide +kernel)⟩, List.forall_mem_cons.mpr ⟨fun _ => ⟨RX10, TX10, 6, rfl, by decide, tb1 230 (by decide +kernel)⟩, List.forall_mem_cons.mpr ⟨fun _ => ⟨RX10, TX10, 6, rfl, by decide, tb1 232 (by decide +kernel)⟩, fun _ h => absurd h List.not_mem_nil⟩⟩⟩⟩⟩⟩
set_option maxRecDepth 20000 in
theorem fp_11 : ∀ q ∈ fpT 11, q.2.1 = 11 → FLp 11 q.1 q.2.1 q.2.2 := List.forall_mem_cons.mpr ⟨fun _ => ⟨RX11, TX11, 16, rfl, by decide, tb2 100 (by decide +kernel)⟩, List.forall_mem_cons.mpr ⟨fun _ => ⟨RX11, TX11, 16, rfl, by decide, tb2 101 (by decide +kernel)⟩, List.forall_mem_cons.mpr ⟨fun _ => ⟨RX11, TX11, 16, rfl, by decide, tb2 102 (by decide +kernel)⟩, List.forall_mem_cons.mpr ⟨fun _ => ⟨RX11, TX11, 16, rfl, by decide, tb2 103 (by decide +kernel)⟩, List.forall_mem_cons.mpr ⟨fun _ => ⟨RX11, TX11, 16, rfl, by decide, tb2 104 (by decide +kernel)⟩, List.forall_mem_cons.mpr ⟨fun _ => ⟨RX11, TX11, 16, rfl, by decide, tb2 105 (by decide +kernel)⟩, List.forall_mem_cons.mpr ⟨fun _ => ⟨RX11, TX11, 16, rfl, by decide, tb2 106 (by decide +kernel)⟩, List.forall_mem_cons.mpr ⟨fun _ => ⟨RX11, TX11, 16, rfl, by decide, tb2 107 (by decide +kernel)⟩, List.forall_mem_cons.mpr ⟨fun _ => ⟨RX11, TX11, 16, rfl, by decide, tb2 108 (by decide +kernel)⟩, List.forall_mem_cons.mpr ⟨fun _ => ⟨RX11, TX11, 16, rfl, by decide, tb2 109 (by decide +kernel)⟩, List.forall_mem_cons.mpr ⟨fun _ => ⟨RX11, TX11, 16, rfl, by decide, tb2 110 (by decide +kernel)⟩, List.forall_mem_cons.mpr ⟨fun _ => ⟨RX11, TX11, 16, rfl, by decide, tb2 111 (by decide +kernel)⟩, List.forall_mem_cons.mpr ⟨fun _ => ⟨RX11, TX11, 16, rfl, by decide, tb2 112 (by decide +kernel)⟩, List.forall_mem_cons.mpr ⟨fun _ => ⟨RX11, TX11, 16, rfl, by decide, tb2 113 (by decide +kernel)⟩, List.forall_mem_cons.mpr ⟨fun _ => ⟨RX11, TX11, 16, rfl, by decide, tb2 114 (by decide +kernel)⟩, List.forall_mem_cons.mpr ⟨fun _ => ⟨RX11, TX11, 16, rfl, by decide, tb2 115 (by decide +kernel)⟩, List.forall_mem_cons.mpr ⟨fun h => absurd h (by decide), List.forall_mem_cons.mpr ⟨fun h => absurd h (by decide), List.forall_mem_cons.mpr ⟨fun h => absurd h (by decide), List.forall_mem_cons.mpr ⟨fun h => absurd h (by decide), List.forall_mem_cons.mpr ⟨fun h => absurd h (by decide), List.forall_mem_cons.mpr ⟨fun h => absurd h (by decide), List.forall_mem_cons.mpr ⟨fun h => absurd h (by decide), List.forall_mem_cons.mpr ⟨fun h => absurd h (by decide), List.forall_mem_cons.mpr ⟨fun h => absurd h (by decide), List.forall_mem_cons.mpr ⟨fun h => absurd h (by decide), List.forall_mem_cons.mpr ⟨fun h => absurd h (by decide), List.forall_mem_cons.mpr ⟨fun h => absurd h (by decide), List.forall_mem_cons.mpr ⟨fun h => absurd h (by decide), List.forall_mem_cons.mpr ⟨fun h => absurd h (by decide), List.forall_mem_cons.mpr ⟨fun h => absurd h (by decide), List.forall_mem_cons.mpr ⟨fun h => absurd h (by decide), List.forall_mem_cons.mpr ⟨fun h => absurd h (by decide), List.forall_mem_cons.mpr ⟨fun h => absurd h (by decide), List.forall_mem_cons.mpr ⟨fun h => absurd h (by decide), List.forall_mem_cons.mpr ⟨fun h => absurd h (by decide), List.forall_mem_cons.mpr ⟨fun h => absurd h (by decide), List.forall_mem_cons.mpr ⟨fun h => absurd h (by decide), List.forall_mem_cons.mpr ⟨fun h => absurd h (by decide), List.forall_mem_cons.mpr ⟨fun h => absurd h (by decide), List.forall_mem_cons.mpr ⟨fun h => absurd h (by decide), List.forall_mem_cons.mpr ⟨fun h => absurd h (by decide), List.forall_mem_cons.mpr ⟨fun h => absurd h (by decide), List.forall_mem_cons.mpr ⟨fun h => absurd h (by decide), List.forall_mem_cons.mpr ⟨fun h => absurd h (by decide), List.forall_mem_cons.mpr ⟨fun h => absurd h (by decide), List.forall_mem_cons.mpr ⟨fun h => absurd h (by decide), List.forall_mem_cons.mpr ⟨fun h => absurd h (by decide), List.forall_mem_cons.mpr ⟨fun h => absurd h (by decide), List.forall_mem_cons.mpr ⟨fun h => absurd h (by decide), List.forall_mem_cons.mpr ⟨fun h => absurd h (by decide), fun _ h => absurd h List.not_mem_nil⟩⟩⟩⟩⟩⟩⟩⟩⟩⟩⟩⟩⟩⟩⟩⟩⟩⟩⟩⟩⟩⟩⟩⟩⟩⟩⟩⟩⟩⟩⟩⟩⟩⟩⟩⟩⟩⟩⟩⟩⟩⟩⟩⟩⟩⟩⟩⟩⟩⟩⟩
set_option maxRecDepth 20000 in
theorem fp_12 : ∀ q ∈ fpT 12, q.2.1 = 12 → FLp 12 q.1 q.2.1 q.2.2 := List.forall_mem_cons.mpr ⟨fun _ => ⟨RX12, TX12, 37, rfl, by decide, tb5 61 (by decide +kernel)⟩, List.forall_mem_cons.mpr ⟨fun _ => ⟨RX12, TX12, 37, rfl, by decide, tb5 62 (by decide +kernel)⟩, List.forall_mem_cons.mpr ⟨fun _ => ⟨RX12, TX12, 37, rfl, by decide, tb5 63 (by decide +kernel)⟩, List.forall_mem_cons.mpr ⟨fun _ => ⟨RX12, TX12, 37, rfl, by decide, tb5 64 (by decide +kernel)⟩, List.forall_mem_cons.mpr ⟨fun _ => ⟨RX12, TX12, 37, rfl, by decide, tb5 66 (by decide +kernel)⟩, List.forall_mem_cons.mpr ⟨fun _ => ⟨RX12, TX12, 37, rfl, by decide, tb5 67 (by decide +kernel)⟩, List.forall_mem_cons.mpr ⟨fun _ => ⟨RX12, TX12, 37, rfl, by decide, tb5 75 (by decide +kernel)⟩, List.forall_mem_cons.mpr ⟨fun _ => ⟨RX12, TX12, 37, rfl, by decide, tb5 81 (by decide +kernel)⟩, List.forall_mem_cons.mpr ⟨fun _ => ⟨RX12, TX12, 37, rfl, by decide, tb5 82 (by decide +kernel)⟩, List.forall_mem_cons.mpr ⟨fun _ => ⟨RX12, TX12, 37, rfl, by decide, tb5 83 (by decide +kernel)⟩, List.forall_mem_cons.mpr ⟨fun _ => ⟨RX12, TX12, 37, rfl, by decide, tb5 84 (by decide +kernel)⟩, List.forall_mem_cons.mpr ⟨fun _ => ⟨RX12, TX12, 37, rfl, by decide, tb5 85 (by decide +kernel)⟩, List.forall_mem_cons.mpr ⟨fun _ => ⟨RX12, TX12, 37, rfl, by decide, tb5 86 (by decide +kernel)⟩, List.forall_mem_cons.mpr ⟨fun _ => ⟨RX12, TX12, 37, rfl, by decide, tb5 87 (by decide +kernel)⟩, List.forall_mem_cons.mpr ⟨fun _ => ⟨RX12, TX12, 37, rfl, by decide, tb5 88 (by decide +kernel)⟩, List.forall_mem_cons.mpr ⟨fun _ => ⟨RX12, TX12, 37, rfl, by decide, tb5 89 (by decide +kernel)⟩, List.forall_mem_cons.mpr ⟨fun _ => ⟨RX12, TX12, 37, rfl, by decide, tb5 90 (by decide +kernel)⟩, List.forall_mem_cons.mpr ⟨fun _ => ⟨RX12, TX12, 37, rfl, by decide, tb5 91 (by decide +kernel)⟩, List.forall_mem_cons.mpr ⟨fun _ => ⟨RX12, TX12, 37, rfl, by decide, tb5 95 (by decide +kernel)⟩, List.forall_mem_cons.mpr ⟨fun _ => ⟨RX12, TX12, 37, rfl, by decide, tb5 65 (by decide +kernel)⟩, List.forall_mem_cons.mpr ⟨fun _ => ⟨RX12, TX12, 37, rfl, by decide, tb5 68 (by decide +kernel)⟩, List.forall_mem_cons.mpr ⟨fun _ => ⟨RX12, TX12, 37, rfl, by decide, tb5 69 (by decide +kernel)⟩, List.forall_mem_cons.mpr ⟨fun _ => ⟨RX12, TX12, 37, rfl, by decide, tb5 70 (by decide +kernel)⟩, List.forall_mem_cons.mpr ⟨fun _ => ⟨RX12, TX12, 37, rfl, by decide, tb5 71 (by decide +kernel)⟩, List.forall_mem_cons.mpr ⟨fun _ => ⟨RX12, TX12, 37, rfl, by decide, tb5 72 (by decide +kernel)⟩, List.forall_mem_cons.mpr ⟨fun _ => ⟨RX12, TX12, 37, rfl, by decide, tb5 73 (by decide +kernel)⟩, List.forall_mem_cons.mpr ⟨fun _ => ⟨RX12, TX12, 37, rfl, by decide, tb5 74 (by decide +kernel)⟩, List.forall_mem_cons.mpr ⟨fun _ => ⟨RX12, TX12, 37, rfl, by decide, tb5 76 (by decide +kernel)⟩, List.forall_mem_cons.mpr ⟨fun _ => ⟨RX12, TX12, 37, rfl, by decide, tb5 78 (by decide +kernel)⟩, List.forall_mem_cons.mpr ⟨fun _ => ⟨RX12, TX12, 37, rfl, by decide, tb5 77 (by decide +kernel)⟩, List.forall_mem_cons.mpr ⟨fun _ => ⟨RX12, TX12, 37, rfl, by decide, tb5 79 (by decide +kernel)⟩, List.forall_mem_cons.mpr ⟨fun _ => ⟨RX12, TX12, 37, rfl, by decide, tb5 80 (by decide +kernel)⟩, List.forall_mem_cons.mpr ⟨fun _ => ⟨RX12, TX12, 37, rfl, by decide, tb5 92 (by decide +kernel)⟩, List.forall_mem_cons.mpr ⟨fun _ => ⟨RX12, TX12, 37, rfl, by decide, tb5 93 (by decide +kernel)⟩, List.forall_mem_cons.mpr ⟨fun _ => ⟨RX12, TX12, 37, rfl, by decide, tb5 94 (by decide +kernel)⟩, fun _ h => absurd h List.not_mem_nil⟩⟩⟩⟩⟩⟩⟩⟩⟩⟩⟩⟩⟩⟩⟩⟩⟩⟩⟩⟩⟩⟩⟩⟩⟩⟩⟩⟩⟩⟩⟩⟩⟩⟩⟩
theorem fp_all : ∀ own : Nat, ∀ q ∈ fpT own, q.2.1 = own → FLp own q.1 q.2.1 q.2.2 := by
  intro own
  match own with
  | 0 => exact fp_0
  | 1 => exact fp_1
  | 2 => exact fp_2
  | 3 => exact fp_3
  | 4 => exact fp_4
  | 5 => exact fp_5
  | 6 => exact fp_6
  | 7 => exact fp_7
  | 8 => exact fp_8
  | 9 => exact fp_9
  | 10 => exact fp_10
  | 11 => exact fp_11
  | 12 => exact fp_12
  | 13 => intro _ h; exact absurd h List.not_mem_nil 
  | 14 => intro _ h; exact absurd h List.not_mem_nil 
  | 15 => intro _ h; exact absurd h List.not_mem_nil 
  | n + 16 => intro _ h; exact absurd h List.not_mem_nil 
set_option maxRecDepth 20000 in
theorem mk_0 : ∀ q ∈ mkT 0, ML 0 q.1 q.2 := List.forall_mem_cons.mpr ⟨⟨Or.inr ⟨"VerdictFirst", tn4 59 (by decide +kernel)⟩, moX5_strengthOf⟩, List.forall_mem_cons.mpr ⟨⟨Or.inr ⟨"VerdictFirst", tn4 60 (by decide +kernel)⟩, moX5_reasonOf⟩, List.forall_mem_cons.mpr ⟨⟨Or.inr ⟨"VerdictFirst", tn4 64 (by decide +kernel)⟩, moX5_needsOf⟩, List.forall_mem_cons.mpr ⟨⟨Or.inr ⟨"VerdictFirst", tn4 90 (by decide +kernel)⟩, moX5_worthOf⟩, fun _ h => absurd h List.not_mem_nil⟩⟩⟩⟩
set_option maxRecDepth 20000 in
theorem mk_1 : ∀ q ∈ mkT 1, ML 1 q.1 q.2 := List.forall_mem_cons.mpr ⟨⟨Or.inr ⟨"VerdictFirst", tn1 37 (by decide +kernel)⟩, moX8_init⟩, List.forall_mem_cons.mpr ⟨⟨Or.inr ⟨"VerdictFirst", tn1 69 (by decide +kernel)⟩, moX3_init⟩, List.forall_mem_cons.mpr ⟨⟨Or.inr ⟨"VerdictFirst", tn1 92 (by decide +kernel)⟩, moX7_init⟩, List.forall_mem_cons.mpr ⟨⟨Or.inr ⟨"VerdictFirst", tn1 115 (by decide +kernel)⟩, moX9_init⟩, List.forall_mem_cons.mpr ⟨⟨Or.inr ⟨"VerdictFirst", tn5 20 (by decide +kernel)⟩, moX8_copy⟩, List.forall_mem_cons.mpr ⟨⟨Or.inr ⟨"VerdictFirst", tn5 25 (by decide +kernel)⟩, moX3_copy⟩, List.forall_mem_cons.mpr ⟨⟨Or.inr ⟨"VerdictFirst", tn5 30 (by decide +kernel)⟩, moX7_copy⟩, List.forall_mem_cons.mpr ⟨⟨Or.inr ⟨"VerdictFirst", tn5 35 (by decide +kernel)⟩, moX9_copy⟩, fun _ h => absurd h List.not_mem_nil⟩⟩⟩⟩⟩⟩⟩⟩
set_option maxRecDepth 20000 in
theorem mk_2 : ∀ q ∈ mkT 2, ML 2 q.1 q.2 := List.forall_mem_cons.mpr ⟨⟨Or.inl (tb4 185 (by decide +kernel)), moX2_rowOf⟩, List.forall_mem_cons.mpr ⟨⟨Or.inl (tb4 189 (by decide +kernel)), moX2_playHour⟩, List.forall_mem_cons.mpr ⟨⟨Or.inl (tb4 193 (by decide +kernel)), moJ6_bitCount_0f7a4⟩, List.forall_mem_cons.mpr ⟨⟨Or.inl (tb4 194 (by decide +kernel)), moX2_behindStrike⟩, List.forall_mem_cons.mpr ⟨⟨Or.inl (tb4 199 (by decide +kernel)), moX2_aheadOfCall⟩, List.forall_mem_cons.mpr ⟨⟨Or.inl (tb4 203 (by decide +kernel)), moX2_feeAt⟩, fun _ h => absurd h List.not_mem_nil⟩⟩⟩⟩⟩⟩
set_option maxRecDepth 20000 in
theorem mk_5 : ∀ q ∈ mkT 5, ML 5 q.1 q.2 := List.forall_mem_cons.mpr ⟨⟨Or.inl (tb3 160 (by decide +kernel)), moX5_has⟩, List.forall_mem_cons.mpr ⟨⟨Or.inl (tb3 161 (by decide +kernel)), moX5_valueOf⟩, List.forall_mem_cons.mpr ⟨⟨Or.inl (tb3 165 (by decide +kernel)), moX5_named⟩, List.forall_mem_cons.mpr ⟨⟨Or.inl (tb3 168 (by decide +kernel)), moX5_turned⟩, List.forall_mem_cons.mpr ⟨⟨Or.inl (tb3 171 (by decide +kernel)), moX5_reckoned⟩, List.forall_mem_cons.mpr ⟨⟨Or.inl (tb3 174 (by decide +kernel)), moX5_bounded⟩, List.forall_mem_cons.mpr ⟨⟨Or.inl (tb4 68 (by decide +kernel)), moX5_isRule⟩, List.forall_mem_cons.mpr ⟨⟨Or.inl (tb4 7 (by decide +kernel)), moX5_shownAtAll⟩, List.forall_mem_cons.mpr ⟨⟨Or.inl (tb4 11 (by decide +kernel)), moX5_shownBy⟩, fun _ h => absurd h List.not_mem_nil⟩⟩⟩⟩⟩⟩⟩⟩⟩
set_option maxRecDepth 20000 in
theorem mk_6 : ∀ q ∈ mkT 6, ML 6 q.1 q.2 := List.forall_mem_cons.mpr ⟨⟨Or.inr ⟨"VerdictFirst", tn1 219 (by decide +kernel)⟩, moX10_init⟩, List.forall_mem_cons.mpr ⟨⟨Or.inr ⟨"VerdictFirst", tn2 8 (by decide +kernel)⟩, moX5_init⟩, List.forall_mem_cons.mpr ⟨⟨Or.inr ⟨"VerdictFirst", tn2 201 (by decide +kernel)⟩, moX5_clear⟩, List.forall_mem_cons.mpr ⟨⟨Or.inr ⟨"VerdictFirst", tn2 205 (by decide +kernel)⟩, moX10_split⟩, List.forall_mem_cons.mpr ⟨⟨Or.inl (tb3 49 (by decide +kernel)), moX6_sort⟩, List.forall_mem_cons.mpr ⟨⟨Or.inl (tb3 53 (by decide +kernel)), moX6_clause⟩, List.forall_mem_cons.mpr ⟨⟨Or.inl (tb3 57 (by decide +kernel)), moX6_fail⟩, List.forall_mem_cons.mpr ⟨⟨Or.inr ⟨"VerdictFirst", tn3 61 (by decide +kernel)⟩, moX5_has⟩, List.forall_mem_cons.mpr ⟨⟨Or.inr ⟨"VerdictFirst", tn3 65 (by decide +kernel)⟩, moX5_open⟩, List.forall_mem_cons.mpr ⟨⟨Or.inl (tb3 69 (by decide +kernel)), moX6_rule⟩, List.forall_mem_cons.mpr ⟨⟨Or.inl (tb3 93 (by decide +kernel)), moX6_sum⟩, List.forall_mem_cons.mpr ⟨⟨Or.inl (tb3 109 (by decide +kernel)), moX6_either⟩, List.forall_mem_cons.mpr ⟨⟨Or.inr ⟨"VerdictFirst", tn3 120 (by decide +kernel)⟩, moX5_shut⟩, List.forall_mem_cons.mpr ⟨⟨Or.inl (tb3 81 (by decide +kernel)), moX6_pass⟩, List.forall_mem_cons.mpr ⟨⟨Or.inl (tb3 73 (by decide +kernel)), moX6_number⟩, List.forall_mem_cons.mpr ⟨⟨Or.inl (tb3 85 (by decide +kernel)), moX6_factsBehind⟩, List.forall_mem_cons.mpr ⟨⟨Or.inr ⟨"VerdictFirst", tn3 89 (by decide +kernel)⟩, moX5_addRule⟩, List.forall_mem_cons.mpr ⟨⟨Or.inl (tb3 77 (by decide +kernel)), moX6_value⟩, List.forall_mem_cons.mpr ⟨⟨Or.inl (tb3 113 (by decide +kernel)), moX6_ask⟩, List.forall_mem_cons.mpr ⟨⟨Or.inr ⟨"VerdictFirst", tn3 105 (by decide +kernel)⟩, moX5_emit⟩, List.forall_mem_cons.mpr ⟨⟨Or.inl (tb3 117 (by decide +kernel)), moX6_compares⟩, List.forall_mem_cons.mpr ⟨⟨Or.inl (tb3 97 (by decide +kernel)), moX6_one⟩, List.forall_mem_cons.mpr ⟨⟨Or.inl (tb3 101 (by decide +kernel)), moX6_isForeign⟩, fun _ h => absurd h List.not_mem_nil⟩⟩⟩⟩⟩⟩⟩⟩⟩⟩⟩⟩⟩⟩⟩⟩⟩⟩⟩⟩⟩⟩⟩
set_option maxRecDepth 20000 in
theorem mk_10 : ∀ q ∈ mkT 10, ML 10 q.1 q.2 := List.forall_mem_cons.mpr ⟨⟨Or.inl (tb2 209 (by decide +kernel)), moX10_behindToken⟩, List.forall_mem_cons.mpr ⟨⟨Or.inl (tb2 222 (by decide +kernel)), moX10_sortOf⟩, List.forall_mem_cons.mpr ⟨⟨Or.inl (tb2 213 (by decide +kernel)), moX10_isLetter⟩, List.forall_mem_cons.mpr ⟨⟨Or.inl (tb2 226 (by decide +kernel)), moX10_wordOf⟩, List.forall_mem_cons.mpr ⟨⟨Or.inl (tb2 216 (by decide +kernel)), moX10_isDigit⟩, List.forall_mem_cons.mpr ⟨⟨Or.inl (tb3 39 (by decide +kernel)), moX10_numberOf⟩, List.forall_mem_cons.mpr ⟨⟨Or.inl (tb3 46 (by decide +kernel)), moX10_isSign⟩, fun _ h => absurd h List.not_mem_nil⟩⟩⟩⟩⟩⟩⟩
set_option maxRecDepth 20000 in
theorem mk_11 : ∀ q ∈ mkT 11, ML 11 q.1 q.2 := List.forall_mem_cons.mpr ⟨⟨Or.inr ⟨"VerdictFirst", tn1 31 (by decide +kernel)⟩, moX1_init⟩, List.forall_mem_cons.mpr ⟨⟨Or.inr ⟨"VerdictFirst", tn1 165 (by decide +kernel)⟩, moX5_init⟩, List.forall_mem_cons.mpr ⟨⟨Or.inr ⟨"VerdictFirst", tn1 213 (by decide +kernel)⟩, moX6_init⟩, List.forall_mem_cons.mpr ⟨⟨Or.inr ⟨"VerdictFirst", tn2 38 (by decide +kernel)⟩, moX4_init⟩, List.forall_mem_cons.mpr ⟨⟨Or.inr ⟨"VerdictFirst", tn2 50 (by decide +kernel)⟩, moX0_init⟩, List.forall_mem_cons.mpr ⟨⟨Or.inr ⟨"VerdictFirst", tn2 71 (by decide +kernel)⟩, moX2_init⟩, List.forall_mem_cons.mpr ⟨⟨Or.inr ⟨"VerdictFirst", tn2 154 (by decide +kernel)⟩, moX8_add⟩, List.forall_mem_cons.mpr ⟨⟨Or.inl (tb2 162 (by decide +kernel)), moX11_isFact⟩, List.forall_mem_cons.mpr ⟨⟨Or.inr ⟨"VerdictFirst", tn2 165 (by decide +kernel)⟩, moX3_add⟩, List.forall_mem_cons.mpr ⟨⟨Or.inl (tb2 177 (by decide +kernel)), moX11_isWitness⟩, List.forall_mem_cons.mpr ⟨⟨Or.inr ⟨"VerdictFirst", tn2 185 (by decide +kernel)⟩, moX10_put⟩, List.forall_mem_cons.mpr ⟨⟨Or.inr ⟨"VerdictFirst", tn2 197 (by decide +kernel)⟩, moX6_read⟩, List.forall_mem_cons.mpr ⟨⟨Or.inr ⟨"VerdictFirst", tn3 124 (by decide +kernel)⟩, moX5_copy⟩, List.forall_mem_cons.mpr ⟨⟨Or.inl (tb3 144 (by decide +kernel)), moX11_saysAs⟩, List.forall_mem_cons.mpr ⟨⟨Or.inl (tb3 185 (by decide +kernel)), moX11_feeNow⟩, List.forall_mem_cons.mpr ⟨⟨Or.inl (tb3 195 (by decide +kernel)), moX11_isStruck⟩, List.forall_mem_cons.mpr ⟨⟨Or.inr ⟨"VerdictFirst", tn3 199 (by decide +kernel)⟩, moX7_has⟩, List.forall_mem_cons.mpr ⟨⟨Or.inr ⟨"VerdictFirst", tn3 207 (by decide +kernel)⟩, moX7_add⟩, List.forall_mem_cons.mpr ⟨⟨Or.inr ⟨"VerdictFirst", tn3 215 (by decide +kernel)⟩, moX7_paid⟩, List.forall_mem_cons.mpr ⟨⟨Or.inl (tb3 223 (by decide +kernel)), moX11_isSet⟩, List.forall_mem_cons.mpr ⟨⟨Or.inl (tb3 227 (by decide +kernel)), moX11_findSayings⟩, List.forall_mem_cons.mpr ⟨⟨Or.inl (tb3 231 (by decide +kernel)), moX11_weigh⟩, List.forall_mem_cons.mpr ⟨⟨Or.inl (tb3 152 (by decide +kernel)), moX11_ruling⟩, List.forall_mem_cons.mpr ⟨⟨Or.inr ⟨"VerdictFirst", tn4 3 (by decide +kernel)⟩, moX5_strengthOf⟩, List.forall_mem_cons.mpr ⟨⟨Or.inl (tb4 19 (by decide +kernel)), moX11_isHeardCount⟩, List.forall_mem_cons.mpr ⟨⟨Or.inl (tb4 23 (by decide +kernel)), moX11_weighHeard⟩, List.forall_mem_cons.mpr ⟨⟨Or.inl (tb4 31 (by decide +kernel)), moX11_isVerdict⟩, List.forall_mem_cons.mpr ⟨⟨Or.inl (tb4 35 (by decide +kernel)), moX11_followsBySet⟩, List.forall_mem_cons.mpr ⟨⟨Or.inl (tb4 39 (by decide +kernel)), moX11_carried⟩, List.forall_mem_cons.mpr ⟨⟨Or.inr ⟨"VerdictFirst", tn4 55 (by decide +kernel)⟩, moX0_trace⟩, List.forall_mem_cons.mpr ⟨⟨Or.inl (tb4 72 (by decide +kernel)), moJ6_bitCount_0f7a4⟩, List.forall_mem_cons.mpr ⟨⟨Or.inr ⟨"VerdictFirst", tn4 78 (by decide +kernel)⟩, moX0_factAt⟩, List.forall_mem_cons.mpr ⟨⟨Or.inr ⟨"VerdictFirst", tn4 86 (by decide +kernel)⟩, moX0_weakestFact⟩, List.forall_mem_cons.mpr ⟨⟨Or.inr ⟨"VerdictFirst", tn4 98 (by decide +kernel)⟩, moX4_copy⟩, List.forall_mem_cons.mpr ⟨⟨Or.inr ⟨"VerdictFirst", tn3 239 (by decide +kernel)⟩, moX4_add⟩, List.forall_mem_cons.mpr ⟨⟨Or.inr ⟨"VerdictFirst", tn4 43 (by decide +kernel)⟩, moX5_carries⟩, List.forall_mem_cons.mpr ⟨⟨Or.inl (tb4 107 (by decide +kernel)), moX11_findFees⟩, List.forall_mem_cons.mpr ⟨⟨Or.inl (tb4 111 (by decide +kernel)), moX11_findLeast⟩, List.forall_mem_cons.mpr ⟨⟨Or.inl (tb4 144 (by decide +kernel)), moX11_carriedAmong⟩, List.forall_mem_cons.mpr ⟨⟨Or.inr ⟨"VerdictFirst", tn4 131 (by decide +kernel)⟩, moX5_shownAtAll⟩, List.forall_mem_cons.mpr ⟨⟨Or.inr ⟨"VerdictFirst", tn4 136 (by decide +kernel)⟩, moX5_isBarred⟩, List.forall_mem_cons.mpr ⟨⟨Or.inl (tb4 160 (by decide +kernel)), moX11_isDay⟩, List.forall_mem_cons.mpr ⟨⟨Or.inl (tb4 164 (by decide +kernel)), moX11_playDay⟩, List.forall_mem_cons.mpr ⟨⟨Or.inr ⟨"VerdictFirst", tn4 208 (by decide +kernel)⟩, moX2_isWon⟩, List.forall_mem_cons.mpr ⟨⟨Or.inr ⟨"VerdictFirst", tn4 216 (by decide +kernel)⟩, moX2_firstCall⟩, List.forall_mem_cons.mpr ⟨⟨Or.inr ⟨"VerdictFirst", tn4 224 (by decide +kernel)⟩, moX9_add⟩, List.forall_mem_cons.mpr ⟨⟨Or.inr ⟨"VerdictFirst", tn4 232 (by decide +kernel)⟩, moX9_fit⟩, List.forall_mem_cons.mpr ⟨⟨Or.inr ⟨"VerdictFirst", tn5 0 (by decide +kernel)⟩, moX3_chances⟩, List.forall_mem_cons.mpr ⟨⟨Or.inl (tb5 4 (by decide +kernel)), moX11_findCosts⟩, List.forall_mem_cons.mpr ⟨⟨Or.inr ⟨"VerdictFirst", tn5 8 (by decide +kernel)⟩, moX3_drawnBy⟩, List.forall_mem_cons.mpr ⟨⟨Or.inr ⟨"VerdictFirst", tn5 16 (by decide +kernel)⟩, moX1_copy⟩, List.forall_mem_cons.mpr ⟨⟨Or.inl (tb5 48 (by decide +kernel)), moX11_aboutHeard⟩, List.forall_mem_cons.mpr ⟨⟨Or.inl (tb3 148 (by decide +kernel)), moX11_describe⟩, List.forall_mem_cons.mpr ⟨⟨Or.inr ⟨"VerdictFirst", tn3 156 (by decide +kernel)⟩, moX5_spoken⟩, List.forall_mem_cons.mpr ⟨⟨Or.inr ⟨"VerdictFirst", tn3 189 (by decide +kernel)⟩, moX5_charged⟩, List.forall_mem_cons.mpr ⟨⟨Or.inr ⟨"VerdictFirst", tn3 235 (by decide +kernel)⟩, moX4_clear⟩, List.forall_mem_cons.mpr ⟨⟨Or.inl (tb4 115 (by decide +kernel)), moX11_tryLeast⟩, List.forall_mem_cons.mpr ⟨⟨Or.inl (tb4 119 (by decide +kernel)), moX11_feesOf⟩, List.forall_mem_cons.mpr ⟨⟨Or.inl (tb4 123 (by decide +kernel)), moX11_isLess⟩, List.forall_mem_cons.mpr ⟨⟨Or.inl (tb4 127 (by decide +kernel)), moX11_keepLeast⟩, List.forall_mem_cons.mpr ⟨⟨Or.inr ⟨"VerdictFirst", tn4 132 (by decide +kernel)⟩, moX5_bendOf⟩, List.forall_mem_cons.mpr ⟨⟨Or.inl (tb4 168 (by decide +kernel)), moX11_seatFree⟩, List.forall_mem_cons.mpr ⟨⟨Or.inr ⟨"VerdictFirst", tn4 172 (by decide +kernel)⟩, moX2_witnessesOf⟩, List.forall_mem_cons.mpr ⟨⟨Or.inr ⟨"VerdictFirst", tn4 176 (by decide +kernel)⟩, moX2_close⟩, List.forall_mem_cons.mpr ⟨⟨Or.inr ⟨"VerdictFirst", tn4 181 (by decide +kernel)⟩, moX2_play⟩, fun _ h => absurd h List.not_mem_nil⟩⟩⟩⟩⟩⟩⟩⟩⟩⟩⟩⟩⟩⟩⟩⟩⟩⟩⟩⟩⟩⟩⟩⟩⟩⟩⟩⟩⟩⟩⟩⟩⟩⟩⟩⟩⟩⟩⟩⟩⟩⟩⟩⟩⟩⟩⟩⟩⟩⟩⟩⟩⟩⟩⟩⟩⟩⟩⟩⟩⟩⟩⟩⟩⟩
set_option maxRecDepth 20000 in
theorem mk_12 : ∀ q ∈ mkT 12, ML 12 q.1 q.2 := List.forall_mem_cons.mpr ⟨⟨Or.inl (tb5 58 (by decide +kernel)), moX12_copy⟩, List.forall_mem_cons.mpr ⟨⟨Or.inl (tb5 178 (by decide +kernel)), moX12_isIn⟩, List.forall_mem_cons.mpr ⟨⟨Or.inl (tb5 193 (by decide +kernel)), moX12_isWitness⟩, List.forall_mem_cons.mpr ⟨⟨Or.inl (tb5 201 (by decide +kernel)), moX12_four⟩, List.forall_mem_cons.mpr ⟨⟨Or.inl (tb5 221 (by decide +kernel)), moX12_byteAt⟩, List.forall_mem_cons.mpr ⟨⟨Or.inl (tb5 225 (by decide +kernel)), moX12_isDigit⟩, List.forall_mem_cons.mpr ⟨⟨Or.inl (tb5 229 (by decide +kernel)), moX12_isLetter⟩, List.forall_mem_cons.mpr ⟨⟨Or.inl (tb6 0 (by decide +kernel)), moX12_w3⟩, List.forall_mem_cons.mpr ⟨⟨Or.inl (tb6 7 (by decide +kernel)), moX12_w5⟩, List.forall_mem_cons.mpr ⟨⟨Or.inl (tb6 49 (by decide +kernel)), moX12_emit⟩, List.forall_mem_cons.mpr ⟨⟨Or.inl (tb6 10 (by decide +kernel)), moX12_w4⟩, List.forall_mem_cons.mpr ⟨⟨Or.inl (tb6 69 (by decide +kernel)), moX12_isStrength⟩, List.forall_mem_cons.mpr ⟨⟨Or.inl (tb5 217 (by decide +kernel)), moX12_nextToken⟩, List.forall_mem_cons.mpr ⟨⟨Or.inl (tb6 57 (by decide +kernel)), moX12_whole⟩, List.forall_mem_cons.mpr ⟨⟨Or.inl (tb6 65 (by decide +kernel)), moX12_nameOf⟩, List.forall_mem_cons.mpr ⟨⟨Or.inl (tb6 73 (by decide +kernel)), moX12_isBarred⟩, List.forall_mem_cons.mpr ⟨⟨Or.inl (tb6 53 (by decide +kernel)), moX12_push⟩, List.forall_mem_cons.mpr ⟨⟨Or.inl (tb6 37 (by decide +kernel)), moX12_hasParen⟩, List.forall_mem_cons.mpr ⟨⟨Or.inl (tb6 45 (by decide +kernel)), moX12_settle⟩, List.forall_mem_cons.mpr ⟨⟨Or.inl (tb6 33 (by decide +kernel)), moX12_goesOn⟩, List.forall_mem_cons.mpr ⟨⟨Or.inl (tb6 41 (by decide +kernel)), moX12_behindOne⟩, List.forall_mem_cons.mpr ⟨⟨Or.inl (tb6 61 (by decide +kernel)), moX12_beginOne⟩, List.forall_mem_cons.mpr ⟨⟨Or.inl (tb6 3 (by decide +kernel)), moX12_isWord⟩, List.forall_mem_cons.mpr ⟨⟨Or.inl (tb6 29 (by decide +kernel)), moX12_summed⟩, List.forall_mem_cons.mpr ⟨⟨Or.inl (tb6 85 (by decide +kernel)), moX12_compareOf⟩, List.forall_mem_cons.mpr ⟨⟨Or.inl (tb6 81 (by decide +kernel)), moX12_asks⟩, List.forall_mem_cons.mpr ⟨⟨Or.inl (tb6 17 (by decide +kernel)), moX12_figure⟩, List.forall_mem_cons.mpr ⟨⟨Or.inl (tb6 22 (by decide +kernel)), moX12_facts⟩, List.forall_mem_cons.mpr ⟨⟨Or.inl (tb6 26 (by decide +kernel)), moX12_w6⟩, List.forall_mem_cons.mpr ⟨⟨Or.inl (tb5 236 (by decide +kernel)), moX12_sortOf⟩, List.forall_mem_cons.mpr ⟨⟨Or.inl (tb6 13 (by decide +kernel)), moX12_ruled⟩, List.forall_mem_cons.mpr ⟨⟨Or.inl (tb6 77 (by decide +kernel)), moX12_either⟩, List.forall_mem_cons.mpr ⟨⟨Or.inl (tb5 232 (by decide +kernel)), moX12_clause⟩, List.forall_mem_cons.mpr ⟨⟨Or.inl (tb5 213 (by decide +kernel)), moX12_readText⟩, List.forall_mem_cons.mpr ⟨⟨Or.inl (tb6 136 (by decide +kernel)), moX12_clip⟩, List.forall_mem_cons.mpr ⟨⟨Or.inl (tb6 118 (by decide +kernel)), moX12_clauseAt⟩, List.forall_mem_cons.mpr ⟨⟨Or.inl (tb6 133 (by decide +kernel)), moX12_two⟩, List.forall_mem_cons.mpr ⟨⟨Or.inl (tb6 141 (by decide +kernel)), moX12_isAsked⟩, List.forall_mem_cons.mpr ⟨⟨Or.inl (tb6 114 (by decide +kernel)), moX12_clauses⟩, List.forall_mem_cons.mpr ⟨⟨Or.inl (tb6 110 (by decide +kernel)), moX12_clauseOf⟩, List.forall_mem_cons.mpr ⟨⟨Or.inl (tb6 122 (by decide +kernel)), moX12_name⟩, List.forall_mem_cons.mpr ⟨⟨Or.inl (tb6 126 (by decide +kernel)), moX12_has⟩, List.forall_mem_cons.mpr ⟨⟨Or.inl (tb6 129 (by decide +kernel)), moX12_work⟩, List.forall_mem_cons.mpr ⟨⟨Or.inl (tb6 106 (by decide +kernel)), moX12_saidBy⟩, List.forall_mem_cons.mpr ⟨⟨Or.inl (tb6 148 (by decide +kernel)), moX12_held⟩, List.forall_mem_cons.mpr ⟨⟨Or.inl (tb6 102 (by decide +kernel)), moX12_saysNow⟩, List.forall_mem_cons.mpr ⟨⟨Or.inl (tb6 144 (by decide +kernel)), moX12_feeOf⟩, List.forall_mem_cons.mpr ⟨⟨Or.inl (tb6 151 (by decide +kernel)), moX12_isHeard⟩, List.forall_mem_cons.mpr ⟨⟨Or.inl (tb6 159 (by decide +kernel)), moX12_isStruck⟩, List.forall_mem_cons.mpr ⟨⟨Or.inl (tb6 183 (by decide +kernel)), moX12_clear⟩, List.forall_mem_cons.mpr ⟨⟨Or.inl (tb6 187 (by decide +kernel)), moX12_adduce⟩, List.forall_mem_cons.mpr ⟨⟨Or.inl (tb6 195 (by decide +kernel)), moX12_isRule⟩, List.forall_mem_cons.mpr ⟨⟨Or.inl (tb6 199 (by decide +kernel)), moX12_strong⟩, List.forall_mem_cons.mpr ⟨⟨Or.inl (tb6 227 (by decide +kernel)), moX12_factOf⟩, List.forall_mem_cons.mpr ⟨⟨Or.inl (tb6 179 (by decide +kernel)), moX12_bySet⟩, List.forall_mem_cons.mpr ⟨⟨Or.inl (tb6 191 (by decide +kernel)), moX12_show⟩, List.forall_mem_cons.mpr ⟨⟨Or.inl (tb6 223 (by decide +kernel)), moX12_isShown⟩, List.forall_mem_cons.mpr ⟨⟨Or.inl (tb6 171 (by decide +kernel)), moX12_isSet⟩, List.forall_mem_cons.mpr ⟨⟨Or.inl (tb6 175 (by decide +kernel)), moX12_ask⟩, List.forall_mem_cons.mpr ⟨⟨Or.inl (tb6 207 (by decide +kernel)), moX12_byHeard⟩, List.forall_mem_cons.mpr ⟨⟨Or.inl (tb6 215 (by decide +kernel)), moX12_isVerdict⟩, List.forall_mem_cons.mpr ⟨⟨Or.inl (tb6 219 (by decide +kernel)), moX12_followsBy⟩, List.forall_mem_cons.mpr ⟨⟨Or.inl (tb7 3 (by decide +kernel)), moX12_firstRule⟩, List.forall_mem_cons.mpr ⟨⟨Or.inl (tb6 239 (by decide +kernel)), moX12_findChain⟩, List.forall_mem_cons.mpr ⟨⟨Or.inl (tb7 23 (by decide +kernel)), moX12_feesOf⟩, List.forall_mem_cons.mpr ⟨⟨Or.inl (tb7 27 (by decide +kernel)), moX12_tryBent⟩, List.forall_mem_cons.mpr ⟨⟨Or.inl (tb7 19 (by decide +kernel)), moX12_findLeast⟩, List.forall_mem_cons.mpr ⟨⟨Or.inl (tb7 55 (by decide +kernel)), moX12_canMove⟩, List.forall_mem_cons.mpr ⟨⟨Or.inl (tb7 59 (by decide +kernel)), moX12_takeBack⟩, List.forall_mem_cons.mpr ⟨⟨Or.inl (tb7 47 (by decide +kernel)), moX12_isDay⟩, List.forall_mem_cons.mpr ⟨⟨Or.inl (tb7 51 (by decide +kernel)), moX12_findBest⟩, List.forall_mem_cons.mpr ⟨⟨Or.inl (tb7 91 (by decide +kernel)), moX12_rules⟩, fun _ h => absurd h List.not_mem_nil⟩⟩⟩⟩⟩⟩⟩⟩⟩⟩⟩⟩⟩⟩⟩⟩⟩⟩⟩⟩⟩⟩⟩⟩⟩⟩⟩⟩⟩⟩⟩⟩⟩⟩⟩⟩⟩⟩⟩⟩⟩⟩⟩⟩⟩⟩⟩⟩⟩⟩⟩⟩⟩⟩⟩⟩⟩⟩⟩⟩⟩⟩⟩⟩⟩⟩⟩⟩⟩⟩⟩⟩
set_option maxRecDepth 20000 in
theorem mk_13 : ∀ q ∈ mkT 13, ML 13 q.1 q.2 := List.forall_mem_cons.mpr ⟨⟨Or.inl (tb1 23 (by decide +kernel)), moX11_init⟩, List.forall_mem_cons.mpr ⟨⟨Or.inl (tb5 54 (by decide +kernel)), moX12_init⟩, List.forall_mem_cons.mpr ⟨⟨Or.inl (tb2 149 (by decide +kernel)), moX11_witness⟩, List.forall_mem_cons.mpr ⟨⟨Or.inl (tb5 173 (by decide +kernel)), moX12_witness⟩, List.forall_mem_cons.mpr ⟨⟨Or.inl (tb2 158 (by decide +kernel)), moX11_verdict⟩, List.forall_mem_cons.mpr ⟨⟨Or.inl (tb5 181 (by decide +kernel)), moX12_verdict⟩, List.forall_mem_cons.mpr ⟨⟨Or.inl (tb2 169 (by decide +kernel)), moX11_hour⟩, List.forall_mem_cons.mpr ⟨⟨Or.inl (tb5 185 (by decide +kernel)), moX12_hour⟩, List.forall_mem_cons.mpr ⟨⟨Or.inl (tb2 173 (by decide +kernel)), moX11_strike⟩, List.forall_mem_cons.mpr ⟨⟨Or.inl (tb5 189 (by decide +kernel)), moX12_strike⟩, List.forall_mem_cons.mpr ⟨⟨Or.inl (tb2 181 (by decide +kernel)), moX11_feed⟩, List.forall_mem_cons.mpr ⟨⟨Or.inl (tb5 197 (by decide +kernel)), moX12_feed⟩, List.forall_mem_cons.mpr ⟨⟨Or.inl (tb2 189 (by decide +kernel)), moX11_end⟩, List.forall_mem_cons.mpr ⟨⟨Or.inl (tb5 205 (by decide +kernel)), moX12_end⟩, List.forall_mem_cons.mpr ⟨⟨Or.inl (tb2 193 (by decide +kernel)), moX11_text⟩, List.forall_mem_cons.mpr ⟨⟨Or.inl (tb5 209 (by decide +kernel)), moX12_text⟩, List.forall_mem_cons.mpr ⟨⟨Or.inl (tb3 132 (by decide +kernel)), moX11_fault⟩, List.forall_mem_cons.mpr ⟨⟨Or.inl (tb6 90 (by decide +kernel)), moX12_fault⟩, List.forall_mem_cons.mpr ⟨⟨Or.inl (tb3 136 (by decide +kernel)), moX11_by⟩, List.forall_mem_cons.mpr ⟨⟨Or.inl (tb6 94 (by decide +kernel)), moX12_by⟩, List.forall_mem_cons.mpr ⟨⟨Or.inl (tb3 140 (by decide +kernel)), moX11_of⟩, List.forall_mem_cons.mpr ⟨⟨Or.inl (tb6 98 (by decide +kernel)), moX12_of⟩, List.forall_mem_cons.mpr ⟨⟨Or.inl (tb3 203 (by decide +kernel)), moX11_hear⟩, List.forall_mem_cons.mpr ⟨⟨Or.inl (tb6 155 (by decide +kernel)), moX12_hear⟩, List.forall_mem_cons.mpr ⟨⟨Or.inl (tb3 211 (by decide +kernel)), moX11_rise⟩, List.forall_mem_cons.mpr ⟨⟨Or.inl (tb6 163 (by decide +kernel)), moX12_rise⟩, List.forall_mem_cons.mpr ⟨⟨Or.inl (tb3 219 (by decide +kernel)), moX11_shown⟩, List.forall_mem_cons.mpr ⟨⟨Or.inl (tb6 167 (by decide +kernel)), moX12_shown⟩, List.forall_mem_cons.mpr ⟨⟨Or.inl (tb4 15 (by decide +kernel)), moX11_known⟩, List.forall_mem_cons.mpr ⟨⟨Or.inl (tb6 203 (by decide +kernel)), moX12_known⟩, List.forall_mem_cons.mpr ⟨⟨Or.inl (tb4 27 (by decide +kernel)), moX11_follows⟩, List.forall_mem_cons.mpr ⟨⟨Or.inl (tb6 211 (by decide +kernel)), moX12_follows⟩, List.forall_mem_cons.mpr ⟨⟨Or.inl (tb4 47 (by decide +kernel)), moX11_appeal⟩, List.forall_mem_cons.mpr ⟨⟨Or.inl (tb6 231 (by decide +kernel)), moX12_appeal⟩, List.forall_mem_cons.mpr ⟨⟨Or.inl (tb4 51 (by decide +kernel)), moX11_chain⟩, List.forall_mem_cons.mpr ⟨⟨Or.inl (tb6 235 (by decide +kernel)), moX12_chain⟩, List.forall_mem_cons.mpr ⟨⟨Or.inl (tb4 82 (by decide +kernel)), moX11_weakest⟩, List.forall_mem_cons.mpr ⟨⟨Or.inl (tb7 7 (by decide +kernel)), moX12_weakest⟩, List.forall_mem_cons.mpr ⟨⟨Or.inl (tb4 94 (by decide +kernel)), moX11_defeats⟩, List.forall_mem_cons.mpr ⟨⟨Or.inl (tb7 11 (by decide +kernel)), moX12_defeats⟩, List.forall_mem_cons.mpr ⟨⟨Or.inl (tb4 103 (by decide +kernel)), moX11_least⟩, List.forall_mem_cons.mpr ⟨⟨Or.inl (tb7 15 (by decide +kernel)), moX12_least⟩, List.forall_mem_cons.mpr ⟨⟨Or.inl (tb4 140 (by decide +kernel)), moX11_never⟩, List.forall_mem_cons.mpr ⟨⟨Or.inl (tb7 31 (by decide +kernel)), moX12_never⟩, List.forall_mem_cons.mpr ⟨⟨Or.inl (tb4 148 (by decide +kernel)), moX11_together⟩, List.forall_mem_cons.mpr ⟨⟨Or.inl (tb7 35 (by decide +kernel)), moX12_together⟩, List.forall_mem_cons.mpr ⟨⟨Or.inl (tb4 152 (by decide +kernel)), moX11_amend⟩, List.forall_mem_cons.mpr ⟨⟨Or.inl (tb7 39 (by decide +kernel)), moX12_amend⟩, List.forall_mem_cons.mpr ⟨⟨Or.inl (tb4 156 (by decide +kernel)), moX11_day⟩, List.forall_mem_cons.mpr ⟨⟨Or.inl (tb7 43 (by decide +kernel)), moX12_day⟩, List.forall_mem_cons.mpr ⟨⟨Or.inl (tb4 212 (by decide +kernel)), moX11_best⟩, List.forall_mem_cons.mpr ⟨⟨Or.inl (tb7 63 (by decide +kernel)), moX12_best⟩, List.forall_mem_cons.mpr ⟨⟨Or.inl (tb4 220 (by decide +kernel)), moX11_tell⟩, List.forall_mem_cons.mpr ⟨⟨Or.inl (tb7 67 (by decide +kernel)), moX12_tell⟩, List.forall_mem_cons.mpr ⟨⟨Or.inl (tb4 228 (by decide +kernel)), moX11_kinds⟩, List.forall_mem_cons.mpr ⟨⟨Or.inl (tb7 71 (by decide +kernel)), moX12_kinds⟩, List.forall_mem_cons.mpr ⟨⟨Or.inl (tb4 236 (by decide +kernel)), moX11_draws⟩, List.forall_mem_cons.mpr ⟨⟨Or.inl (tb7 75 (by decide +kernel)), moX12_draws⟩, List.forall_mem_cons.mpr ⟨⟨Or.inl (tb5 12 (by decide +kernel)), moX11_image⟩, List.forall_mem_cons.mpr ⟨⟨Or.inl (tb7 79 (by decide +kernel)), moX12_image⟩, List.forall_mem_cons.mpr ⟨⟨Or.inl (tb5 40 (by decide +kernel)), moX11_back⟩, List.forall_mem_cons.mpr ⟨⟨Or.inl (tb7 83 (by decide +kernel)), moX12_back⟩, List.forall_mem_cons.mpr ⟨⟨Or.inl (tb5 44 (by decide +kernel)), moX11_about⟩, List.forall_mem_cons.mpr ⟨⟨Or.inl (tb7 87 (by decide +kernel)), moX12_about⟩, fun _ h => absurd h List.not_mem_nil⟩⟩⟩⟩⟩⟩⟩⟩⟩⟩⟩⟩⟩⟩⟩⟩⟩⟩⟩⟩⟩⟩⟩⟩⟩⟩⟩⟩⟩⟩⟩⟩⟩⟩⟩⟩⟩⟩⟩⟩⟩⟩⟩⟩⟩⟩⟩⟩⟩⟩⟩⟩⟩⟩⟩⟩⟩⟩⟩⟩⟩⟩⟩⟩
theorem mk_all : ∀ own : Nat, ∀ q ∈ mkT own, ML own q.1 q.2 := by
  intro own
  match own with
  | 0 => exact mk_0
  | 1 => exact mk_1
  | 2 => exact mk_2
  | 3 => intro _ h; exact absurd h List.not_mem_nil 
  | 4 => intro _ h; exact absurd h List.not_mem_nil 
  | 5 => exact mk_5
  | 6 => exact mk_6
  | 7 => intro _ h; exact absurd h List.not_mem_nil 
  | 8 => intro _ h; exact absurd h List.not_mem_nil 
  | 9 => intro _ h; exact absurd h List.not_mem_nil 
  | 10 => exact mk_10
  | 11 => exact mk_11
  | 12 => exact mk_12
  | 13 => exact mk_13
  | 14 => intro _ h; exact absurd h List.not_mem_nil 
  | 15 => intro _ h; exact absurd h List.not_mem_nil 
  | n + 16 => intro _ h; exact absurd h List.not_mem_nil 
def NL (own idx ci : Nat) : Prop := ∃ (C : String) (T : u_T) (N : Nat), vwCl[ci]? = some (C, T, N) ∧ Cond.classLink (cnm own) idx C ∈ lw_g ∧ Cond.instantiable C N ∈ lw_g ∧ Cond.initialized C ∈ lw_g
set_option maxRecDepth 20000 in
theorem nk_1 : ∀ q ∈ nkT 1, NL 1 q.1 q.2 := List.forall_mem_cons.mpr ⟨⟨RX8, TX8, 6, rfl, tb1 35 (by decide +kernel), tb1 36 (by decide +kernel), ini8⟩, List.forall_mem_cons.mpr ⟨⟨RX3, TX3, 4, rfl, tb1 67 (by decide +kernel), tb1 68 (by decide +kernel), ini3⟩, List.forall_mem_cons.mpr ⟨⟨RX7, TX7, 4, rfl, tb1 90 (by decide +kernel), tb1 91 (by decide +kernel), ini7⟩, List.forall_mem_cons.mpr ⟨⟨RX9, TX9, 4, rfl, tb1 113 (by decide +kernel), tb1 114 (by decide +kernel), ini9⟩, fun _ h => absurd h List.not_mem_nil⟩⟩⟩⟩
set_option maxRecDepth 20000 in
theorem nk_6 : ∀ q ∈ nkT 6, NL 6 q.1 q.2 := List.forall_mem_cons.mpr ⟨⟨RX10, TX10, 6, rfl, tb1 217 (by decide +kernel), tb1 218 (by decide +kernel), ini10⟩, List.forall_mem_cons.mpr ⟨⟨RX5, TX5, 13, rfl, tb2 7 (by decide +kernel), tb1 164 (by decide +kernel), ini5⟩, fun _ h => absurd h List.not_mem_nil⟩⟩
set_option maxRecDepth 20000 in
theorem nk_11 : ∀ q ∈ nkT 11, NL 11 q.1 q.2 := List.forall_mem_cons.mpr ⟨⟨RX1, TX1, 7, rfl, tb1 29 (by decide +kernel), tb1 30 (by decide +kernel), ini1⟩, List.forall_mem_cons.mpr ⟨⟨RX5, TX5, 13, rfl, tb1 162 (by decide +kernel), tb1 164 (by decide +kernel), ini5⟩, List.forall_mem_cons.mpr ⟨⟨RX6, TX6, 7, rfl, tb1 211 (by decide +kernel), tb1 212 (by decide +kernel), ini6⟩, List.forall_mem_cons.mpr ⟨⟨RX4, TX4, 1, rfl, tb2 36 (by decide +kernel), tb2 37 (by decide +kernel), ini4⟩, List.forall_mem_cons.mpr ⟨⟨RX0, TX0, 4, rfl, tb2 48 (by decide +kernel), tb2 49 (by decide +kernel), ini0⟩, List.forall_mem_cons.mpr ⟨⟨RX2, TX2, 7, rfl, tb2 69 (by decide +kernel), tb2 70 (by decide +kernel), ini2⟩, fun _ h => absurd h List.not_mem_nil⟩⟩⟩⟩⟩⟩
set_option maxRecDepth 20000 in
theorem nk_13 : ∀ q ∈ nkT 13, NL 13 q.1 q.2 := List.forall_mem_cons.mpr ⟨⟨RX11, TX11, 16, rfl, tb1 21 (by decide +kernel), tb1 22 (by decide +kernel), ini11⟩, List.forall_mem_cons.mpr ⟨⟨RX12, TX12, 37, rfl, tb5 52 (by decide +kernel), tb5 53 (by decide +kernel), ini12⟩, fun _ h => absurd h List.not_mem_nil⟩⟩
theorem nk_all : ∀ own : Nat, ∀ q ∈ nkT own, NL own q.1 q.2 := by
  intro own
  match own with
  | 0 => intro _ h; exact absurd h List.not_mem_nil 
  | 1 => exact nk_1
  | 2 => intro _ h; exact absurd h List.not_mem_nil 
  | 3 => intro _ h; exact absurd h List.not_mem_nil 
  | 4 => intro _ h; exact absurd h List.not_mem_nil 
  | 5 => intro _ h; exact absurd h List.not_mem_nil 
  | 6 => exact nk_6
  | 7 => intro _ h; exact absurd h List.not_mem_nil 
  | 8 => intro _ h; exact absurd h List.not_mem_nil 
  | 9 => intro _ h; exact absurd h List.not_mem_nil 
  | 10 => intro _ h; exact absurd h List.not_mem_nil 
  | 11 => exact nk_11
  | 12 => intro _ h; exact absurd h List.not_mem_nil 
  | 13 => exact nk_13
  | 14 => intro _ h; exact absurd h List.not_mem_nil 
  | 15 => intro _ h; exact absurd h List.not_mem_nil 
  | n + 16 => intro _ h; exact absurd h List.not_mem_nil 
set_option maxRecDepth 20000 in
theorem ki_2 : ∀ q ∈ kiT 2, Cond.constant (cnm 2) q.1 q.2 ∈ lw_g := List.forall_mem_cons.mpr ⟨tb4 180 (by decide +kernel), fun _ h => absurd h List.not_mem_nil⟩
set_option maxRecDepth 20000 in
theorem ki_11 : ∀ q ∈ kiT 11, Cond.constant (cnm 11) q.1 q.2 ∈ lw_g := List.forall_mem_cons.mpr ⟨tb2 153 (by decide +kernel), fun _ h => absurd h List.not_mem_nil⟩
set_option maxRecDepth 20000 in
theorem ki_12 : ∀ q ∈ kiT 12, Cond.constant (cnm 12) q.1 q.2 ∈ lw_g := List.forall_mem_cons.mpr ⟨tb5 177 (by decide +kernel), List.forall_mem_cons.mpr ⟨tb5 228 (by decide +kernel), fun _ h => absurd h List.not_mem_nil⟩⟩
set_option maxRecDepth 20000 in
theorem ki_14 : ∀ q ∈ kiT 14, Cond.constant (cnm 14) q.1 q.2 ∈ lw_g := List.forall_mem_cons.mpr ⟨tb4 75 (by decide +kernel), List.forall_mem_cons.mpr ⟨tb4 76 (by decide +kernel), List.forall_mem_cons.mpr ⟨tb4 77 (by decide +kernel), fun _ h => absurd h List.not_mem_nil⟩⟩⟩
theorem ki_all : ∀ own : Nat, ∀ q ∈ kiT own, Cond.constant (cnm own) q.1 q.2 ∈ lw_g := by
  intro own
  match own with
  | 0 => intro _ h; exact absurd h List.not_mem_nil 
  | 1 => intro _ h; exact absurd h List.not_mem_nil 
  | 2 => exact ki_2
  | 3 => intro _ h; exact absurd h List.not_mem_nil 
  | 4 => intro _ h; exact absurd h List.not_mem_nil 
  | 5 => intro _ h; exact absurd h List.not_mem_nil 
  | 6 => intro _ h; exact absurd h List.not_mem_nil 
  | 7 => intro _ h; exact absurd h List.not_mem_nil 
  | 8 => intro _ h; exact absurd h List.not_mem_nil 
  | 9 => intro _ h; exact absurd h List.not_mem_nil 
  | 10 => intro _ h; exact absurd h List.not_mem_nil 
  | 11 => exact ki_11
  | 12 => exact ki_12
  | 13 => intro _ h; exact absurd h List.not_mem_nil 
  | 14 => exact ki_14
  | 15 => intro _ h; exact absurd h List.not_mem_nil 
  | n + 16 => intro _ h; exact absurd h List.not_mem_nil 
set_option maxRecDepth 20000 in
theorem kl_5 : ∀ q ∈ klT 5, Cond.constantLong (cnm 5) q.1 q.2 ∈ lw_g := List.forall_mem_cons.mpr ⟨tb3 177 (by decide +kernel), List.forall_mem_cons.mpr ⟨tb3 178 (by decide +kernel), fun _ h => absurd h List.not_mem_nil⟩⟩
set_option maxRecDepth 20000 in
theorem kl_12 : ∀ q ∈ klT 12, Cond.constantLong (cnm 12) q.1 q.2 ∈ lw_g := List.forall_mem_cons.mpr ⟨tb6 89 (by decide +kernel), List.forall_mem_cons.mpr ⟨tb6 21 (by decide +kernel), List.forall_mem_cons.mpr ⟨tb6 139 (by decide +kernel), List.forall_mem_cons.mpr ⟨tb6 140 (by decide +kernel), fun _ h => absurd h List.not_mem_nil⟩⟩⟩⟩
theorem kl_all : ∀ own : Nat, ∀ q ∈ klT own, Cond.constantLong (cnm own) q.1 q.2 ∈ lw_g := by
  intro own
  match own with
  | 0 => intro _ h; exact absurd h List.not_mem_nil 
  | 1 => intro _ h; exact absurd h List.not_mem_nil 
  | 2 => intro _ h; exact absurd h List.not_mem_nil 
  | 3 => intro _ h; exact absurd h List.not_mem_nil 
  | 4 => intro _ h; exact absurd h List.not_mem_nil 
  | 5 => exact kl_5
  | 6 => intro _ h; exact absurd h List.not_mem_nil 
  | 7 => intro _ h; exact absurd h List.not_mem_nil 
  | 8 => intro _ h; exact absurd h List.not_mem_nil 
  | 9 => intro _ h; exact absurd h List.not_mem_nil 
  | 10 => intro _ h; exact absurd h List.not_mem_nil 
  | 11 => intro _ h; exact absurd h List.not_mem_nil 
  | 12 => exact kl_12
  | 13 => intro _ h; exact absurd h List.not_mem_nil 
  | 14 => intro _ h; exact absurd h List.not_mem_nil 
  | 15 => intro _ h; exact absurd h List.not_mem_nil 
  | n + 16 => intro _ h; exact absurd h List.not_mem_nil 
def NTq (own idx cd : Nat) : Prop := match cd with
  | 1 => Cond.methodLink (cnm own) idx Lib.Math.max.name ∈ lw_g
  | 2 => Cond.methodLink (cnm own) idx Lib.Math.min.name ∈ lw_g
  | 3 => Cond.methodLink (cnm own) idx Lib.MathLoose.max_long.x ∈ lw_g
  | 4 => Cond.methodLink (cnm own) idx Lib.MathLoose.min_long.x ∈ lw_g
  | _ => Cond.methodLink (cnm own) idx arraycopyName ∈ lw_g
def ntT (own : Nat) : List (Nat × Nat) := match own with
  | 2 => [(56, 1), (64, 2)]
  | 3 => [(25, 5)]
  | 4 => [(15, 5)]
  | 5 => [(52, 5), (66, 2), (72, 1), (95, 4), (98, 3)]
  | 7 => [(25, 5)]
  | 8 => [(31, 5)]
  | 9 => [(25, 5)]
  | 10 => [(35, 1), (73, 2)]
  | _ => []
def ntl (own idx : Nat) : Option Nat := lk2 (ntT own) idx
set_option maxRecDepth 20000 in
theorem nt_2 : ∀ q ∈ ntT 2, NTq 2 q.1 q.2 := List.forall_mem_cons.mpr ⟨tb4 198 rfl, List.forall_mem_cons.mpr ⟨tb4 207 rfl, fun _ h => absurd h List.not_mem_nil⟩⟩
set_option maxRecDepth 20000 in
theorem nt_3 : ∀ q ∈ ntT 3, NTq 3 q.1 q.2 := List.forall_mem_cons.mpr ⟨tb5 29 rfl, fun _ h => absurd h List.not_mem_nil⟩
set_option maxRecDepth 20000 in
theorem nt_4 : ∀ q ∈ ntT 4, NTq 4 q.1 q.2 := List.forall_mem_cons.mpr ⟨tb4 102 rfl, fun _ h => absurd h List.not_mem_nil⟩
set_option maxRecDepth 20000 in
theorem nt_5 : ∀ q ∈ ntT 5, NTq 5 q.1 q.2 := List.forall_mem_cons.mpr ⟨tb3 128 rfl, List.forall_mem_cons.mpr ⟨tb3 193 rfl, List.forall_mem_cons.mpr ⟨tb3 194 rfl, List.forall_mem_cons.mpr ⟨tb3 179 rfl, List.forall_mem_cons.mpr ⟨tb3 182 rfl, fun _ h => absurd h List.not_mem_nil⟩⟩⟩⟩⟩
set_option maxRecDepth 20000 in
theorem nt_7 : ∀ q ∈ ntT 7, NTq 7 q.1 q.2 := List.forall_mem_cons.mpr ⟨tb5 34 rfl, fun _ h => absurd h List.not_mem_nil⟩
set_option maxRecDepth 20000 in
theorem nt_8 : ∀ q ∈ ntT 8, NTq 8 q.1 q.2 := List.forall_mem_cons.mpr ⟨tb5 24 rfl, fun _ h => absurd h List.not_mem_nil⟩
set_option maxRecDepth 20000 in
theorem nt_9 : ∀ q ∈ ntT 9, NTq 9 q.1 q.2 := List.forall_mem_cons.mpr ⟨tb5 39 rfl, fun _ h => absurd h List.not_mem_nil⟩
set_option maxRecDepth 20000 in
theorem nt_10 : ∀ q ∈ ntT 10, NTq 10 q.1 q.2 := List.forall_mem_cons.mpr ⟨tb2 219 rfl, List.forall_mem_cons.mpr ⟨tb3 43 rfl, fun _ h => absurd h List.not_mem_nil⟩⟩
theorem nt_all : ∀ own : Nat, ∀ q ∈ ntT own, NTq own q.1 q.2 := by
  intro own
  match own with
  | 0 => intro _ h; exact absurd h List.not_mem_nil 
  | 1 => intro _ h; exact absurd h List.not_mem_nil 
  | 2 => exact nt_2
  | 3 => exact nt_3
  | 4 => exact nt_4
  | 5 => exact nt_5
  | 6 => intro _ h; exact absurd h List.not_mem_nil 
  | 7 => exact nt_7
  | 8 => exact nt_8
  | 9 => exact nt_9
  | 10 => exact nt_10
  | 11 => intro _ h; exact absurd h List.not_mem_nil 
  | 12 => intro _ h; exact absurd h List.not_mem_nil 
  | 13 => intro _ h; exact absurd h List.not_mem_nil 
  | 14 => intro _ h; exact absurd h List.not_mem_nil 
  | 15 => intro _ h; exact absurd h List.not_mem_nil 
  | n + 16 => intro _ h; exact absurd h List.not_mem_nil 
theorem nw1 : Cond.static Lib.Math.max.name ∈ lw_g ∧ Cond.code Lib.Math.max.name Lib.Math.max.code 2 (some .int) ∈ lw_g := ⟨tb2 220 rfl, tb2 221 rfl⟩
theorem nw2 : Cond.static Lib.Math.min.name ∈ lw_g ∧ Cond.code Lib.Math.min.name Lib.Math.min.code 2 (some .int) ∈ lw_g := ⟨tb3 44 rfl, tb3 45 rfl⟩
theorem nw3 : Cond.static Lib.MathLoose.max_long.x ∈ lw_g ∧ Cond.code Lib.MathLoose.max_long.x Lib.MathLoose.max_long.code 4 (some .long) ∈ lw_g := ⟨tb3 183 rfl, tb3 184 rfl⟩
theorem nw4 : Cond.static Lib.MathLoose.min_long.x ∈ lw_g ∧ Cond.code Lib.MathLoose.min_long.x Lib.MathLoose.min_long.code 4 (some .long) ∈ lw_g := ⟨tb3 180 rfl, tb3 181 rfl⟩
theorem nw5 : Cond.native arraycopyName ∈ lw_g ∧ Cond.static arraycopyName ∈ lw_g ∧ Cond.initialized "java/lang/System" ∈ lw_g := ⟨tb3 130 rfl, tb3 129 rfl, tb1 19 (by decide +kernel)⟩
theorem nwo : Cond.instanceMethod objectInit ∈ lw_g ∧ Cond.code objectInit ⟨#[0xb1]⟩ 1 none ∈ lw_g := ⟨tb1 27 rfl, tb1 28 rfl⟩
def obT (own : Nat) : List (Nat × Nat) := match own with
  | 0 => [(3, 0)]
  | 1 => [(3, 0)]
  | 2 => [(3, 0)]
  | 3 => [(3, 0)]
  | 4 => [(3, 0)]
  | 5 => [(3, 0)]
  | 6 => [(3, 0)]
  | 7 => [(3, 0)]
  | 8 => [(3, 0)]
  | 9 => [(3, 0)]
  | 10 => [(3, 0)]
  | 11 => [(1, 0)]
  | 12 => [(1, 0)]
  | _ => []
set_option maxRecDepth 20000 in
theorem ob_0 : ∀ q ∈ obT 0, Cond.methodLink (cnm 0) q.1 objectInit ∈ lw_g := List.forall_mem_cons.mpr ⟨tb2 53 rfl, fun _ h => absurd h List.not_mem_nil⟩
set_option maxRecDepth 20000 in
theorem ob_1 : ∀ q ∈ obT 1, Cond.methodLink (cnm 1) q.1 objectInit ∈ lw_g := List.forall_mem_cons.mpr ⟨tb1 34 rfl, fun _ h => absurd h List.not_mem_nil⟩
set_option maxRecDepth 20000 in
theorem ob_2 : ∀ q ∈ obT 2, Cond.methodLink (cnm 2) q.1 objectInit ∈ lw_g := List.forall_mem_cons.mpr ⟨tb2 74 rfl, fun _ h => absurd h List.not_mem_nil⟩
set_option maxRecDepth 20000 in
theorem ob_3 : ∀ q ∈ obT 3, Cond.methodLink (cnm 3) q.1 objectInit ∈ lw_g := List.forall_mem_cons.mpr ⟨tb1 72 rfl, fun _ h => absurd h List.not_mem_nil⟩
set_option maxRecDepth 20000 in
theorem ob_4 : ∀ q ∈ obT 4, Cond.methodLink (cnm 4) q.1 objectInit ∈ lw_g := List.forall_mem_cons.mpr ⟨tb2 41 rfl, fun _ h => absurd h List.not_mem_nil⟩
set_option maxRecDepth 20000 in
theorem ob_5 : ∀ q ∈ obT 5, Cond.methodLink (cnm 5) q.1 objectInit ∈ lw_g := List.forall_mem_cons.mpr ⟨tb1 168 rfl, fun _ h => absurd h List.not_mem_nil⟩
set_option maxRecDepth 20000 in
theorem ob_6 : ∀ q ∈ obT 6, Cond.methodLink (cnm 6) q.1 objectInit ∈ lw_g := List.forall_mem_cons.mpr ⟨tb1 216 rfl, fun _ h => absurd h List.not_mem_nil⟩
set_option maxRecDepth 20000 in
theorem ob_7 : ∀ q ∈ obT 7, Cond.methodLink (cnm 7) q.1 objectInit ∈ lw_g := List.forall_mem_cons.mpr ⟨tb1 95 rfl, fun _ h => absurd h List.not_mem_nil⟩
set_option maxRecDepth 20000 in
theorem ob_8 : ∀ q ∈ obT 8, Cond.methodLink (cnm 8) q.1 objectInit ∈ lw_g := List.forall_mem_cons.mpr ⟨tb1 40 rfl, fun _ h => absurd h List.not_mem_nil⟩
set_option maxRecDepth 20000 in
theorem ob_9 : ∀ q ∈ obT 9, Cond.methodLink (cnm 9) q.1 objectInit ∈ lw_g := List.forall_mem_cons.mpr ⟨tb1 118 rfl, fun _ h => absurd h List.not_mem_nil⟩
set_option maxRecDepth 20000 in
theorem ob_10 : ∀ q ∈ obT 10, Cond.methodLink (cnm 10) q.1 objectInit ∈ lw_g := List.forall_mem_cons.mpr ⟨tb1 222 rfl, fun _ h => absurd h List.not_mem_nil⟩
set_option maxRecDepth 20000 in
theorem ob_11 : ∀ q ∈ obT 11, Cond.methodLink (cnm 11) q.1 objectInit ∈ lw_g := List.forall_mem_cons.mpr ⟨tb1 26 rfl, fun _ h => absurd h List.not_mem_nil⟩
set_option maxRecDepth 20000 in
theorem ob_12 : ∀ q ∈ obT 12, Cond.methodLink (cnm 12) q.1 objectInit ∈ lw_g := List.forall_mem_cons.mpr ⟨tb5 57 rfl, fun _ h => absurd h List.not_mem_nil⟩
theorem ob_all : ∀ own : Nat, ∀ q ∈ obT own, Cond.methodLink (cnm own) q.1 objectInit ∈ lw_g := by
  intro own
  match own with
  | 0 => exact ob_0
  | 1 => exact ob_1
  | 2 => exact ob_2
  | 3 => exact ob_3
  | 4 => exact ob_4
  | 5 => exact ob_5
  | 6 => exact ob_6
  | 7 => exact ob_7
  | 8 => exact ob_8
  | 9 => exact ob_9
  | 10 => exact ob_10
  | 11 => exact ob_11
  | 12 => exact ob_12
  | 13 => intro _ h; exact absurd h List.not_mem_nil 
  | 14 => intro _ h; exact absurd h List.not_mem_nil 
  | 15 => intro _ h; exact absurd h List.not_mem_nil 
  | n + 16 => intro _ h; exact absurd h List.not_mem_nil 
theorem acw : Cond.arrayClass .int ∈ lw_g ∧ Cond.arrayClass .long ∈ lw_g ∧ Cond.arrayClass .boolean ∈ lw_g := ⟨tb1 66 rfl, tb5 171 rfl, tb5 172 rfl⟩
def CK (ci : Nat) (C : String) (T : u_T) (N : Nat) : Prop := (∀ w ∈ u_ws C T N, w ∈ lw_g) ∧ (∃ ty : Nat → FieldType, (∀ k, k < N → parseFieldDescriptor (T k).2.2.1 = some (ty k)) ∧ ∀ k, k < N → ((fty ci k).1 = 0 → ty k = .int) ∧ ((fty ci k).1 = 1 → ty k = .long) ∧ ((fty ci k).1 = 2 → ty k = .boolean) ∧ ((fty ci k).1 = 3 → (∃ n : String, ty k = .object n) ∨ ∃ t : FieldType, ty k = .array t) ∧ (fty ci k).1 < 4) ∧ (∀ a, a < N → ∀ b, b < N → a ≠ b → (T a).2.1 ≠ (T b).2.1) ∧ (∀ k, k < N → (T k).2.2.2 = (fty ci k).2) ∧ (∀ k, k < N → (T k).1 = C) ∧ N = nmF ci ∧ C = cnm ci
set_option maxRecDepth 20000 in
theorem uw0 : ∀ w ∈ u_ws RX0 TX0 4, w ∈ lw_g := by
  have h : u_ws RX0 TX0 4 = ([300, 302, 304, 306] : List Nat).filterMap (fun i => tables_1[i]?) := by rfl
  intro w hw
  rw [h] at hw
  obtain ⟨i, -, hi⟩ := List.mem_filterMap.mp hw
  exact lw_gi (List.mem_append_right _ (List.mem_of_getElem? hi)) (List.all_eq_true.mp (by decide +kernel : (([300, 302, 304, 306] : List Nat).filterMap (fun i => tables_1[i]?)).all goodWord = true) w hw)
set_option maxRecDepth 20000 in
theorem ck0 : CK 0 RX0 TX0 4 := by
  refine ⟨uw0, ⟨tyX0, tyX0_ok, ?_⟩, nmX0, by decide, by decide +kernel, rfl, rfl⟩
  intro k hk
  match k, hk with
  | 0, _ => exact ⟨fun _ => rfl, nofun, nofun, nofun, by decide⟩
  | 1, _ => exact ⟨fun _ => rfl, nofun, nofun, nofun, by decide⟩
  | 2, _ => exact ⟨nofun, nofun, nofun, fun _ => Or.inr ⟨_, rfl⟩, by decide⟩
  | 3, _ => exact ⟨nofun, nofun, nofun, fun _ => Or.inr ⟨_, rfl⟩, by decide⟩
  | q + 4, h => exact absurd h (by omega)
set_option maxRecDepth 20000 in
theorem uw1 : ∀ w ∈ u_ws RX1 TX1 7, w ∈ lw_g := by
  have h : u_ws RX1 TX1 7 = ([147, 149, 151, 153, 155, 157, 159] : List Nat).filterMap (fun i => tables_1[i]?) := by rfl
  intro w hw
  rw [h] at hw
  obtain ⟨i, -, hi⟩ := List.mem_filterMap.mp hw
  exact lw_gi (List.mem_append_right _ (List.mem_of_getElem? hi)) (List.all_eq_true.mp (by decide +kernel : (([147, 149, 151, 153, 155, 157, 159] : List Nat).filterMap (fun i => tables_1[i]?)).all goodWord = true) w hw)
set_option maxRecDepth 20000 in
theorem ck1 : CK 1 RX1 TX1 7 := by
  refine ⟨uw1, ⟨tyX1, tyX1_ok, ?_⟩, nmX1, by decide, by decide +kernel, rfl, rfl⟩
  intro k hk
  match k, hk with
  | 0, _ => exact ⟨nofun, nofun, nofun, fun _ => Or.inl ⟨_, rfl⟩, by decide⟩
  | 1, _ => exact ⟨nofun, nofun, nofun, fun _ => Or.inl ⟨_, rfl⟩, by decide⟩
  | 2, _ => exact ⟨nofun, nofun, nofun, fun _ => Or.inl ⟨_, rfl⟩, by decide⟩
  | 3, _ => exact ⟨nofun, nofun, nofun, fun _ => Or.inl ⟨_, rfl⟩, by decide⟩
  | 4, _ => exact ⟨fun _ => rfl, nofun, nofun, nofun, by decide⟩
  | 5, _ => exact ⟨fun _ => rfl, nofun, nofun, nofun, by decide⟩
  | 6, _ => exact ⟨fun _ => rfl, nofun, nofun, nofun, by decide⟩
  | q + 7, h => exact absurd h (by omega)
set_option maxRecDepth 20000 in
theorem uw2 : ∀ w ∈ u_ws RX2 TX2 7, w ∈ lw_g := by
  have h : u_ws RX2 TX2 7 = ([325, 327, 329, 331, 333, 335, 337] : List Nat).filterMap (fun i => tables_1[i]?) := by rfl
  intro w hw
  rw [h] at hw
  obtain ⟨i, -, hi⟩ := List.mem_filterMap.mp hw
  exact lw_gi (List.mem_append_right _ (List.mem_of_getElem? hi)) (List.all_eq_true.mp (by decide +kernel : (([325, 327, 329, 331, 333, 335, 337] : List Nat).filterMap (fun i => tables_1[i]?)).all goodWord = true) w hw)
set_option maxRecDepth 20000 in
theorem ck2 : CK 2 RX2 TX2 7 := by
  refine ⟨uw2, ⟨tyX2, tyX2_ok, ?_⟩, nmX2, by decide, by decide +kernel, rfl, rfl⟩
  intro k hk
  match k, hk with
  | 0, _ => exact ⟨fun _ => rfl, nofun, nofun, nofun, by decide⟩
  | 1, _ => exact ⟨nofun, nofun, nofun, fun _ => Or.inr ⟨_, rfl⟩, by decide⟩
  | 2, _ => exact ⟨nofun, nofun, nofun, fun _ => Or.inr ⟨_, rfl⟩, by decide⟩
  | 3, _ => exact ⟨nofun, nofun, nofun, fun _ => Or.inr ⟨_, rfl⟩, by decide⟩
  | 4, _ => exact ⟨nofun, nofun, nofun, fun _ => Or.inr ⟨_, rfl⟩, by decide⟩
  | 5, _ => exact ⟨nofun, nofun, nofun, fun _ => Or.inr ⟨_, rfl⟩, by decide⟩
  | 6, _ => exact ⟨nofun, nofun, nofun, fun _ => Or.inr ⟨_, rfl⟩, by decide⟩
  | q + 7, h => exact absurd h (by omega)
set_option maxRecDepth 20000 in
theorem uw3 : ∀ w ∈ u_ws RX3 TX3 4, w ∈ lw_g := by
  have h : u_ws RX3 TX3 4 = ([81, 83, 85, 87] : List Nat).filterMap (fun i => tables_1[i]?) := by rfl
  intro w hw
  rw [h] at hw
  obtain ⟨i, -, hi⟩ := List.mem_filterMap.mp hw
  exact lw_gi (List.mem_append_right _ (List.mem_of_getElem? hi)) (List.all_eq_true.mp (by decide +kernel : (([81, 83, 85, 87] : List Nat).filterMap (fun i => tables_1[i]?)).all goodWord = true) w hw)
set_option maxRecDepth 20000 in
theorem ck3 : CK 3 RX3 TX3 4 := by
  refine ⟨uw3, ⟨tyX3, tyX3_ok, ?_⟩, nmX3, by decide, by decide +kernel, rfl, rfl⟩
  intro k hk
  match k, hk with
  | 0, _ => exact ⟨fun _ => rfl, nofun, nofun, nofun, by decide⟩
  | 1, _ => exact ⟨nofun, nofun, nofun, fun _ => Or.inr ⟨_, rfl⟩, by decide⟩
  | 2, _ => exact ⟨nofun, nofun, nofun, fun _ => Or.inr ⟨_, rfl⟩, by decide⟩
  | 3, _ => exact ⟨nofun, nofun, nofun, fun _ => Or.inr ⟨_, rfl⟩, by decide⟩
  | q + 4, h => exact absurd h (by omega)
set_option maxRecDepth 20000 in
theorem uw4 : ∀ w ∈ u_ws RX4 TX4 1, w ∈ lw_g := by
  have h : u_ws RX4 TX4 1 = ([285] : List Nat).filterMap (fun i => tables_1[i]?) := by rfl
  intro w hw
  rw [h] at hw
  obtain ⟨i, -, hi⟩ := List.mem_filterMap.mp hw
  exact lw_gi (List.mem_append_right _ (List.mem_of_getElem? hi)) (List.all_eq_true.mp (by decide +kernel : (([285] : List Nat).filterMap (fun i => tables_1[i]?)).all goodWord = true) w hw)
set_option maxRecDepth 20000 in
theorem ck4 : CK 4 RX4 TX4 1 := by
  refine ⟨uw4, ⟨tyX4, tyX4_ok, ?_⟩, nmX4, by decide, by decide +kernel, rfl, rfl⟩
  intro k hk
  match k, hk with
  | 0, _ => exact ⟨nofun, nofun, nofun, fun _ => Or.inr ⟨_, rfl⟩, by decide⟩
  | q + 1, h => exact absurd h (by omega)
set_option maxRecDepth 20000 in
theorem uw5 : ∀ w ∈ u_ws RX5 TX5 13, w ∈ lw_g := by
  have h : u_ws RX5 TX5 13 = ([184, 186, 188, 190, 192, 194, 196, 198, 200, 202, 204, 206, 208] : List Nat).filterMap (fun i => tables_1[i]?) := by rfl
  intro w hw
  rw [h] at hw
  obtain ⟨i, -, hi⟩ := List.mem_filterMap.mp hw
  exact lw_gi (List.mem_append_right _ (List.mem_of_getElem? hi)) (List.all_eq_true.mp (by decide +kernel : (([184, 186, 188, 190, 192, 194, 196, 198, 200, 202, 204, 206, 208] : List Nat).filterMap (fun i => tables_1[i]?)).all goodWord = true) w hw)
set_option maxRecDepth 20000 in
theorem ck5 : CK 5 RX5 TX5 13 := by
  refine ⟨uw5, ⟨tyX5, tyX5_ok, ?_⟩, nmX5, by decide, by decide +kernel, rfl, rfl⟩
  intro k hk
  match k, hk with
  | 0, _ => exact ⟨fun _ => rfl, nofun, nofun, nofun, by decide⟩
  | 1, _ => exact ⟨fun _ => rfl, nofun, nofun, nofun, by decide⟩
  | 2, _ => exact ⟨fun _ => rfl, nofun, nofun, nofun, by decide⟩
  | 3, _ => exact ⟨nofun, nofun, nofun, fun _ => Or.inr ⟨_, rfl⟩, by decide⟩
  | 4, _ => exact ⟨nofun, nofun, nofun, fun _ => Or.inr ⟨_, rfl⟩, by decide⟩
  | 5, _ => exact ⟨nofun, nofun, nofun, fun _ => Or.inr ⟨_, rfl⟩, by decide⟩
  | 6, _ => exact ⟨nofun, nofun, nofun, fun _ => Or.inr ⟨_, rfl⟩, by decide⟩
  | 7, _ => exact ⟨nofun, nofun, nofun, fun _ => Or.inr ⟨_, rfl⟩, by decide⟩
  | 8, _ => exact ⟨nofun, nofun, nofun, fun _ => Or.inr ⟨_, rfl⟩, by decide⟩
  | 9, _ => exact ⟨nofun, nofun, nofun, fun _ => Or.inr ⟨_, rfl⟩, by decide⟩
  | 10, _ => exact ⟨nofun, nofun, nofun, fun _ => Or.inr ⟨_, rfl⟩, by decide⟩
  | 11, _ => exact ⟨nofun, nofun, nofun, fun _ => Or.inr ⟨_, rfl⟩, by decide⟩
  | 12, _ => exact ⟨nofun, nofun, nofun, fun _ => Or.inr ⟨_, rfl⟩, by decide⟩
  | q + 13, h => exact absurd h (by omega)
set_option maxRecDepth 20000 in
theorem uw6 : ∀ w ∈ u_ws RX6 TX6 7, w ∈ lw_g := by
  have h : u_ws RX6 TX6 7 = ([261, 263, 265, 267, 269, 271, 273] : List Nat).filterMap (fun i => tables_1[i]?) := by rfl
  intro w hw
  rw [h] at hw
  obtain ⟨i, -, hi⟩ := List.mem_filterMap.mp hw
  exact lw_gi (List.mem_append_right _ (List.mem_of_getElem? hi)) (List.all_eq_true.mp (by decide +kernel : (([261, 263, 265, 267, 269, 271, 273] : List Nat).filterMap (fun i => tables_1[i]?)).all goodWord = true) w hw)
set_option maxRecDepth 20000 in
theorem ck6 : CK 6 RX6 TX6 7 := by
  refine ⟨uw6, ⟨tyX6, tyX6_ok, ?_⟩, nmX6, by decide, by decide +kernel, rfl, rfl⟩
  intro k hk
  match k, hk with
  | 0, _ => exact ⟨nofun, nofun, nofun, fun _ => Or.inl ⟨_, rfl⟩, by decide⟩
  | 1, _ => exact ⟨nofun, nofun, nofun, fun _ => Or.inl ⟨_, rfl⟩, by decide⟩
  | 2, _ => exact ⟨nofun, nofun, fun _ => rfl, nofun, by decide⟩
  | 3, _ => exact ⟨fun _ => rfl, nofun, nofun, nofun, by decide⟩
  | 4, _ => exact ⟨fun _ => rfl, nofun, nofun, nofun, by decide⟩
  | 5, _ => exact ⟨fun _ => rfl, nofun, nofun, nofun, by decide⟩
  | 6, _ => exact ⟨nofun, nofun, fun _ => rfl, nofun, by decide⟩
  | q + 7, h => exact absurd h (by omega)
set_option maxRecDepth 20000 in
theorem uw7 : ∀ w ∈ u_ws RX7 TX7 4, w ∈ lw_g := by
  have h : u_ws RX7 TX7 4 = ([104, 106, 108, 110] : List Nat).filterMap (fun i => tables_1[i]?) := by rfl
  intro w hw
  rw [h] at hw
  obtain ⟨i, -, hi⟩ := List.mem_filterMap.mp hw
  exact lw_gi (List.mem_append_right _ (List.mem_of_getElem? hi)) (List.all_eq_true.mp (by decide +kernel : (([104, 106, 108, 110] : List Nat).filterMap (fun i => tables_1[i]?)).all goodWord = true) w hw)
set_option maxRecDepth 20000 in
theorem ck7 : CK 7 RX7 TX7 4 := by
  refine ⟨uw7, ⟨tyX7, tyX7_ok, ?_⟩, nmX7, by decide, by decide +kernel, rfl, rfl⟩
  intro k hk
  match k, hk with
  | 0, _ => exact ⟨fun _ => rfl, nofun, nofun, nofun, by decide⟩
  | 1, _ => exact ⟨nofun, nofun, nofun, fun _ => Or.inr ⟨_, rfl⟩, by decide⟩
  | 2, _ => exact ⟨nofun, nofun, nofun, fun _ => Or.inr ⟨_, rfl⟩, by decide⟩
  | 3, _ => exact ⟨nofun, nofun, nofun, fun _ => Or.inr ⟨_, rfl⟩, by decide⟩
  | q + 4, h => exact absurd h (by omega)
set_option maxRecDepth 20000 in
theorem uw8 : ∀ w ∈ u_ws RX8 TX8 6, w ∈ lw_g := by
  have h : u_ws RX8 TX8 6 = ([53, 55, 57, 59, 61, 63] : List Nat).filterMap (fun i => tables_1[i]?) := by rfl
  intro w hw
  rw [h] at hw
  obtain ⟨i, -, hi⟩ := List.mem_filterMap.mp hw
  exact lw_gi (List.mem_append_right _ (List.mem_of_getElem? hi)) (List.all_eq_true.mp (by decide +kernel : (([53, 55, 57, 59, 61, 63] : List Nat).filterMap (fun i => tables_1[i]?)).all goodWord = true) w hw)
set_option maxRecDepth 20000 in
theorem ck8 : CK 8 RX8 TX8 6 := by
  refine ⟨uw8, ⟨tyX8, tyX8_ok, ?_⟩, nmX8, by decide, by decide +kernel, rfl, rfl⟩
  intro k hk
  match k, hk with
  | 0, _ => exact ⟨fun _ => rfl, nofun, nofun, nofun, by decide⟩
  | 1, _ => exact ⟨fun _ => rfl, nofun, nofun, nofun, by decide⟩
  | 2, _ => exact ⟨nofun, nofun, nofun, fun _ => Or.inr ⟨_, rfl⟩, by decide⟩
  | 3, _ => exact ⟨nofun, nofun, nofun, fun _ => Or.inr ⟨_, rfl⟩, by decide⟩
  | 4, _ => exact ⟨nofun, nofun, nofun, fun _ => Or.inr ⟨_, rfl⟩, by decide⟩
  | 5, _ => exact ⟨nofun, nofun, nofun, fun _ => Or.inr ⟨_, rfl⟩, by decide⟩
  | q + 6, h => exact absurd h (by omega)
set_option maxRecDepth 20000 in
theorem uw9 : ∀ w ∈ u_ws RX9 TX9 4, w ∈ lw_g := by
  have h : u_ws RX9 TX9 4 = ([124, 126, 128, 130] : List Nat).filterMap (fun i => tables_1[i]?) := by rfl
  intro w hw
  rw [h] at hw
  obtain ⟨i, -, hi⟩ := List.mem_filterMap.mp hw
  exact lw_gi (List.mem_append_right _ (List.mem_of_getElem? hi)) (List.all_eq_true.mp (by decide +kernel : (([124, 126, 128, 130] : List Nat).filterMap (fun i => tables_1[i]?)).all goodWord = true) w hw)
set_option maxRecDepth 20000 in
theorem ck9 : CK 9 RX9 TX9 4 := by
  refine ⟨uw9, ⟨tyX9, tyX9_ok, ?_⟩, nmX9, by decide, by decide +kernel, rfl, rfl⟩
  intro k hk
  match k, hk with
  | 0, _ => exact ⟨fun _ => rfl, nofun, nofun, nofun, by decide⟩
  | 1, _ => exact ⟨nofun, nofun, nofun, fun _ => Or.inr ⟨_, rfl⟩, by decide⟩
  | 2, _ => exact ⟨nofun, nofun, nofun, fun _ => Or.inr ⟨_, rfl⟩, by decide⟩
  | 3, _ => exact ⟨nofun, nofun, nofun, fun _ => Or.inr ⟨_, rfl⟩, by decide⟩
  | q + 4, h => exact absurd h (by omega)
set_option maxRecDepth 20000 in
theorem uw10 : ∀ w ∈ u_ws RX10 TX10 6, w ∈ lw_g := by
  have h : u_ws RX10 TX10 6 = ([234, 236, 238, 240, 242, 244] : List Nat).filterMap (fun i => tables_1[i]?) := by rfl
  intro w hw
  rw [h] at hw
  obtain ⟨i, -, hi⟩ := List.mem_filterMap.mp hw
  exact lw_gi (List.mem_append_right _ (List.mem_of_getElem? hi)) (List.all_eq_true.mp (by decide +kernel : (([234, 236, 238, 240, 242, 244] : List Nat).filterMap (fun i => tables_1[i]?)).all goodWord = true) w hw)
set_option maxRecDepth 20000 in
theorem ck10 : CK 10 RX10 TX10 6 := by
  refine ⟨uw10, ⟨tyX10, tyX10_ok, ?_⟩, nmX10, by decide, by decide +kernel, rfl, rfl⟩
  intro k hk
  match k, hk with
  | 0, _ => exact ⟨fun _ => rfl, nofun, nofun, nofun, by decide⟩
  | 1, _ => exact ⟨fun _ => rfl, nofun, nofun, nofun, by decide⟩
  | 2, _ => exact ⟨nofun, nofun, nofun, fun _ => Or.inr ⟨_, rfl⟩, by decide⟩
  | 3, _ => exact ⟨nofun, nofun, nofun, fun _ => Or.inr ⟨_, rfl⟩, by decide⟩
  | 4, _ => exact ⟨nofun, nofun, nofun, fun _ => Or.inr ⟨_, rfl⟩, by decide⟩
  | 5, _ => exact ⟨nofun, nofun, nofun, fun _ => Or.inr ⟨_, rfl⟩, by decide⟩
  | q + 6, h => exact absurd h (by omega)
set_option maxRecDepth 20000 in
theorem uw11 : ∀ w ∈ u_ws RX11 TX11 16, w ∈ lw_g := by
  have h : u_ws RX11 TX11 16 = ([356, 358, 360, 362, 364, 366, 368, 370, 372, 374, 376, 378, 380, 382, 384, 386] : List Nat).filterMap (fun i => tables_1[i]?) := by rfl
  intro w hw
  rw [h] at hw
  obtain ⟨i, -, hi⟩ := List.mem_filterMap.mp hw
  exact lw_gi (List.mem_append_right _ (List.mem_of_getElem? hi)) (List.all_eq_true.mp (by decide +kernel : (([356, 358, 360, 362, 364, 366, 368, 370, 372, 374, 376, 378, 380, 382, 384, 386] : List Nat).filterMap (fun i => tables_1[i]?)).all goodWord = true) w hw)
set_option maxRecDepth 20000 in
theorem ck11 : CK 11 RX11 TX11 16 := by
  refine ⟨uw11, ⟨tyX11, tyX11_ok, ?_⟩, nmX11, by decide, by decide +kernel, rfl, rfl⟩
  intro k hk
  match k, hk with
  | 0, _ => exact ⟨nofun, nofun, nofun, fun _ => Or.inl ⟨_, rfl⟩, by decide⟩
  | 1, _ => exact ⟨nofun, nofun, nofun, fun _ => Or.inl ⟨_, rfl⟩, by decide⟩
  | 2, _ => exact ⟨nofun, nofun, nofun, fun _ => Or.inr ⟨_, rfl⟩, by decide⟩
  | 3, _ => exact ⟨nofun, nofun, nofun, fun _ => Or.inl ⟨_, rfl⟩, by decide⟩
  | 4, _ => exact ⟨nofun, nofun, nofun, fun _ => Or.inl ⟨_, rfl⟩, by decide⟩
  | 5, _ => exact ⟨nofun, nofun, nofun, fun _ => Or.inl ⟨_, rfl⟩, by decide⟩
  | 6, _ => exact ⟨nofun, nofun, nofun, fun _ => Or.inl ⟨_, rfl⟩, by decide⟩
  | 7, _ => exact ⟨nofun, nofun, nofun, fun _ => Or.inl ⟨_, rfl⟩, by decide⟩
  | 8, _ => exact ⟨nofun, nofun, nofun, fun _ => Or.inl ⟨_, rfl⟩, by decide⟩
  | 9, _ => exact ⟨nofun, nofun, nofun, fun _ => Or.inr ⟨_, rfl⟩, by decide⟩
  | 10, _ => exact ⟨nofun, nofun, nofun, fun _ => Or.inr ⟨_, rfl⟩, by decide⟩
  | 11, _ => exact ⟨nofun, nofun, nofun, fun _ => Or.inr ⟨_, rfl⟩, by decide⟩
  | 12, _ => exact ⟨nofun, nofun, nofun, fun _ => Or.inr ⟨_, rfl⟩, by decide⟩
  | 13, _ => exact ⟨fun _ => rfl, nofun, nofun, nofun, by decide⟩
  | 14, _ => exact ⟨fun _ => rfl, nofun, nofun, nofun, by decide⟩
  | 15, _ => exact ⟨fun _ => rfl, nofun, nofun, nofun, by decide⟩
  | q + 16, h => exact absurd h (by omega)
set_option maxRecDepth 20000 in
theorem uw12 : ∀ w ∈ u_ws RX12 TX12 37, w ∈ lw_g := by
  have h : u_ws RX12 TX12 37 = ([1056, 1058, 1060, 1062, 1064, 1066, 1068, 1070, 1072, 1074, 1076, 1078, 1080, 1082, 1084, 1086, 1088, 1090, 1092, 1094, 1096, 1098, 1100, 1102, 1104, 1106, 1108, 1110, 1112, 1114, 1116, 1118, 1120, 1122, 1124, 1126, 1128] : List Nat).filterMap (fun i => tables_1[i]?) := by rfl
  intro w hw
  rw [h] at hw
  obtain ⟨i, -, hi⟩ := List.mem_filterMap.mp hw
  exact lw_gi (List.mem_append_right _ (List.mem_of_getElem? hi)) (List.all_eq_true.mp (by decide +kernel : (([1056, 1058, 1060, 1062, 1064, 1066, 1068, 1070, 1072, 1074, 1076, 1078, 1080, 1082, 1084, 1086, 1088, 1090, 1092, 1094, 1096, 1098, 1100, 1102, 1104, 1106, 1108, 1110, 1112, 1114, 1116, 1118, 1120, 1122, 1124, 1126, 1128] : List Nat).filterMap (fun i => tables_1[i]?)).all goodWord = true) w hw)
set_option maxRecDepth 20000 in
theorem ck12 : CK 12 RX12 TX12 37 := by
  refine ⟨uw12, ⟨tyX12, tyX12_ok, ?_⟩, nmX12, by decide, by decide +kernel, rfl, rfl⟩
  intro k hk
  match k, hk with
  | 0, _ => exact ⟨nofun, nofun, nofun, fun _ => Or.inr ⟨_, rfl⟩, by decide⟩
  | 1, _ => exact ⟨nofun, nofun, nofun, fun _ => Or.inr ⟨_, rfl⟩, by decide⟩
  | 2, _ => exact ⟨nofun, nofun, nofun, fun _ => Or.inr ⟨_, rfl⟩, by decide⟩
  | 3, _ => exact ⟨nofun, nofun, nofun, fun _ => Or.inr ⟨_, rfl⟩, by decide⟩
  | 4, _ => exact ⟨fun _ => rfl, nofun, nofun, nofun, by decide⟩
  | 5, _ => exact ⟨fun _ => rfl, nofun, nofun, nofun, by decide⟩
  | 6, _ => exact ⟨fun _ => rfl, nofun, nofun, nofun, by decide⟩
  | 7, _ => exact ⟨fun _ => rfl, nofun, nofun, nofun, by decide⟩
  | 8, _ => exact ⟨fun _ => rfl, nofun, nofun, nofun, by decide⟩
  | 9, _ => exact ⟨fun _ => rfl, nofun, nofun, nofun, by decide⟩
  | 10, _ => exact ⟨fun _ => rfl, nofun, nofun, nofun, by decide⟩
  | 11, _ => exact ⟨nofun, fun _ => rfl, nofun, nofun, by decide⟩
  | 12, _ => exact ⟨fun _ => rfl, nofun, nofun, nofun, by decide⟩
  | 13, _ => exact ⟨fun _ => rfl, nofun, nofun, nofun, by decide⟩
  | 14, _ => exact ⟨fun _ => rfl, nofun, nofun, nofun, by decide⟩
  | 15, _ => exact ⟨fun _ => rfl, nofun, nofun, nofun, by decide⟩
  | 16, _ => exact ⟨nofun, nofun, nofun, fun _ => Or.inr ⟨_, rfl⟩, by decide⟩
  | 17, _ => exact ⟨fun _ => rfl, nofun, nofun, nofun, by decide⟩
  | 18, _ => exact ⟨fun _ => rfl, nofun, nofun, nofun, by decide⟩
  | 19, _ => exact ⟨nofun, nofun, fun _ => rfl, nofun, by decide⟩
  | 20, _ => exact ⟨fun _ => rfl, nofun, nofun, nofun, by decide⟩
  | 21, _ => exact ⟨fun _ => rfl, nofun, nofun, nofun, by decide⟩
  | 22, _ => exact ⟨nofun, nofun, nofun, fun _ => Or.inr ⟨_, rfl⟩, by decide⟩
  | 23, _ => exact ⟨nofun, nofun, nofun, fun _ => Or.inr ⟨_, rfl⟩, by decide⟩
  | 24, _ => exact ⟨nofun, nofun, nofun, fun _ => Or.inr ⟨_, rfl⟩, by decide⟩
  | 25, _ => exact ⟨nofun, nofun, nofun, fun _ => Or.inr ⟨_, rfl⟩, by decide⟩
  | 26, _ => exact ⟨nofun, nofun, nofun, fun _ => Or.inr ⟨_, rfl⟩, by decide⟩
  | 27, _ => exact ⟨nofun, nofun, nofun, fun _ => Or.inr ⟨_, rfl⟩, by decide⟩
  | 28, _ => exact ⟨nofun, nofun, nofun, fun _ => Or.inr ⟨_, rfl⟩, by decide⟩
  | 29, _ => exact ⟨nofun, nofun, nofun, fun _ => Or.inr ⟨_, rfl⟩, by decide⟩
  | 30, _ => exact ⟨nofun, nofun, nofun, fun _ => Or.inr ⟨_, rfl⟩, by decide⟩
  | 31, _ => exact ⟨nofun, nofun, nofun, fun _ => Or.inr ⟨_, rfl⟩, by decide⟩
  | 32, _ => exact ⟨nofun, nofun, nofun, fun _ => Or.inr ⟨_, rfl⟩, by decide⟩
  | 33, _ => exact ⟨fun _ => rfl, nofun, nofun, nofun, by decide⟩
  | 34, _ => exact ⟨fun _ => rfl, nofun, nofun, nofun, by decide⟩
  | 35, _ => exact ⟨fun _ => rfl, nofun, nofun, nofun, by decide⟩
  | 36, _ => exact ⟨nofun, nofun, nofun, fun _ => Or.inr ⟨_, rfl⟩, by decide⟩
  | q + 37, h => exact absurd h (by omega)
theorem ck_all : ∀ (ci : Nat) (C : String) (T : u_T) (N : Nat), vwCl[ci]? = some (C, T, N) → CK ci C T N := by
  intro ci C T N h
  match ci, h with
  | 0, h => cases h; exact ck0
  | 1, h => cases h; exact ck1
  | 2, h => cases h; exact ck2
  | 3, h => cases h; exact ck3
  | 4, h => cases h; exact ck4
  | 5, h => cases h; exact ck5
  | 6, h => cases h; exact ck6
  | 7, h => cases h; exact ck7
  | 8, h => cases h; exact ck8
  | 9, h => cases h; exact ck9
  | 10, h => cases h; exact ck10
  | 11, h => cases h; exact ck11
  | 12, h => cases h; exact ck12
  | n + 13, h => cases h
