/-! what the constant pools link: fields by (class, number), methods by their tables; each word by its place in tables_1 -/
theorem tbm {w : Cond} (i : Nat) (h : tables_1[i]? = some w) : w ∈ lw_tbl := List.mem_append_right _ (List.mem_of_getElem? h)
theorem tbs {w : Cond} (i : Nat) (h : (k2_sels lw_privs)[i]? = some w) : w ∈ lw_tbl := List.mem_append_left _ (List.mem_of_getElem? h)
def cnm (own : Nat) : String := match own with
  | 0 => RX0
  | 1 => RX1
  | 2 => RX2
  | 3 => RX3
  | 4 => RX4
  | 5 => RX5
  | 6 => RX6
  | 7 => RX7
  | 8 => RX8
  | 9 => RX9
  | 10 => RX10
  | 11 => RX11
  | 12 => RX12
  | 13 => RL
  | 14 => RJ6
  | _ => RJ9
def nmF (ci : Nat) : Nat := match ci with
  | 0 => 4
  | 1 => 7
  | 2 => 7
  | 3 => 4
  | 4 => 1
  | 5 => 13
  | 6 => 7
  | 7 => 4
  | 8 => 6
  | 9 => 4
  | 10 => 6
  | 11 => 16
  | 12 => 37
  | _ => 0
def lk2 {α : Type} (t : List (Nat × α)) (i : Nat) : Option α := match t with
  | [] => none
  | q :: r => cond (Nat.beq q.1 i) (some q.2) (lk2 r i)
theorem lk2_mem {α : Type} {t : List (Nat × α)} {i : Nat} {x : α} (h : lk2 t i = some x) : (i, x) ∈ t := by
  induction t with
  | nil => cases h
  | cons q r ih =>
    unfold lk2 at h
    cases hb : Nat.beq q.1 i with
    | true =>
      rw [hb] at h
      have e1 : q.2 = x := Option.some.inj h
      have e2 : q.1 = i := Nat.eq_of_beq_eq_true hb
      rw [← e1, ← e2]
      exact List.mem_cons_self
    | false =>
      rw [hb] at h
      exact List.mem_cons_of_mem _ (ih h)
/-- a field's type: 0 int, 1 long, 2 boolean, 3 a reference; and whether it is final -/
def fty (ci k : Nat) : Nat × Bool := match ci with
  | 0 => (([(0, false), (0, false), (3, true), (3, true)] : List (Nat × Bool)).getD k (9, true))
  | 1 => (([(3, true), (3, true), (3, true), (3, true), (0, false), (0, false), (0, false)] : List (Nat × Bool)).getD k (9, true))
  | 2 => (([(0, false), (3, true), (3, true), (3, true), (3, true), (3, true), (3, true)] : List (Nat × Bool)).getD k (9, true))
  | 3 => (([(0, false), (3, true), (3, true), (3, true)] : List (Nat × Bool)).getD k (9, true))
  | 4 => (([(3, true)] : List (Nat × Bool)).getD k (9, true))
  | 5 => (([(0, false), (0, false), (0, false), (3, true), (3, true), (3, true), (3, true), (3, true), (3, true), (3, true), (3, true), (3, true), (3, true)] : List (Nat × Bool)).getD k (9, true))
  | 6 => (([(3, true), (3, true), (2, false), (0, false), (0, false), (0, false), (2, false)] : List (Nat × Bool)).getD k (9, true))
  | 7 => (([(0, false), (3, true), (3, true), (3, true)] : List (Nat × Bool)).getD k (9, true))
  | 8 => (([(0, false), (0, false), (3, true), (3, true), (3, true), (3, true)] : List (Nat × Bool)).getD k (9, true))
  | 9 => (([(0, false), (3, true), (3, true), (3, true)] : List (Nat × Bool)).getD k (9, true))
  | 10 => (([(0, false), (0, false), (3, true), (3, true), (3, true), (3, true)] : List (Nat × Bool)).getD k (9, true))
  | 11 => (([(3, true), (3, true), (3, true), (3, true), (3, true), (3, true), (3, true), (3, true), (3, true), (3, true), (3, true), (3, true), (3, true), (0, false), (0, false), (0, false)] : List (Nat × Bool)).getD k (9, true))
  | 12 => (([(3, true), (3, true), (3, true), (3, true), (0, false), (0, false), (0, false), (0, false), (0, false), (0, false), (0, false), (1, false), (0, false), (0, false), (0, false), (0, false), (3, true), (0, false), (0, false), (2, false), (0, false), (0, false), (3, true), (3, true), (3, true), (3, true), (3, true), (3, true), (3, true), (3, true), (3, true), (3, true), (3, true), (0, false), (0, false), (0, false), (3, true)] : List (Nat × Bool)).getD k (9, true))
  | _ => (9, true)
def FL (own idx ci k : Nat) : Prop := ∃ (C : String) (T : u_T) (N : Nat), vwCl[ci]? = some (C, T, N) ∧ k < N ∧ ((Cond.fieldLink (cnm own) idx (T k).1 (T k).2.1 (T k).2.2.1 ∈ lw_tbl) ∨ ∃ host : String, Cond.fieldLinkNest (cnm own) idx (T k).1 (T k).2.1 (T k).2.2.1 host ∈ lw_tbl)
def my (M : Mth) : MethodName := M.2.1
def mcc (M : Mth) : ByteArray := M.2.2.1
def mml (M : Mth) : Nat := M.2.2.2.1
def mret (M : Mth) : Option FieldType := M.2.2.2.2.1
def mtab (M : Mth) : Tab := M.2.2.2.2.2
def MOk (M : Mth) (kd n : Nat) : Prop := Cond.code (my M) (mcc M) (mml M) (mret M) ∈ lw_tbl ∧ Cond.initialized (my M).cls ∈ lw_tbl ∧ plainName (my M).cls = true ∧ ((my M).cls ≠ "java/lang/invoke/MethodHandle" ∧ (my M).cls ≠ "java/lang/invoke/VarHandle" ∧ (parseMethodDescriptor (my M).desc).map (fun d => d.parameters.length) = some n) ∧ okT (mcc M) (mtab M) = true ∧ cnm M.1 = (my M).cls ∧ (match kd with
  | 0 => Cond.static (my M) ∈ lw_tbl
  | 1 => Cond.instanceMethod (my M) ∈ lw_tbl ∧ Cond.selects (my M).cls (my M) (my M) ∈ lw_tbl
  | _ => (my M).name = "<init>" ∧ Cond.instanceMethod (my M) ∈ lw_tbl ∧ mret M = none)
def ML (own idx : Nat) (q : Mth × Nat × Nat) : Prop := ((Cond.methodLink (cnm own) idx (my q.1) ∈ lw_tbl) ∨ ∃ host : String, Cond.methodLinkNest (cnm own) idx (my q.1) host ∈ lw_tbl) ∧ MOk q.1 q.2.1 q.2.2
set_option maxRecDepth 20000 in
theorem moX5_strengthOf : MOk mX5_strengthOf 1 2 := ⟨tbm 726 rfl, tbm 7 rfl, by decide +kernel, by decide +kernel, okX5_strengthOf, rfl, ⟨tbm 725 rfl, tbs 46 rfl⟩⟩
set_option maxRecDepth 20000 in
theorem moX5_reasonOf : MOk mX5_reasonOf 1 3 := ⟨tbm 783 rfl, tbm 7 rfl, by decide +kernel, by decide +kernel, okX5_reasonOf, rfl, ⟨tbm 782 rfl, tbs 56 rfl⟩⟩
set_option maxRecDepth 20000 in
theorem moX5_needsOf : MOk mX5_needsOf 1 1 := ⟨tbm 787 rfl, tbm 7 rfl, by decide +kernel, by decide +kernel, okX5_needsOf, rfl, ⟨tbm 786 rfl, tbs 57 rfl⟩⟩
set_option maxRecDepth 20000 in
theorem moX5_worthOf : MOk mX5_worthOf 1 1 := ⟨tbm 813 rfl, tbm 7 rfl, by decide +kernel, by decide +kernel, okX5_worthOf, rfl, ⟨tbm 812 rfl, tbs 61 rfl⟩⟩
set_option maxRecDepth 20000 in
theorem moX8_init : MOk mX8_init 2 0 := ⟨tbm 39 rfl, tbm 3 rfl, by decide +kernel, by decide +kernel, okX8_init, rfl, ⟨rfl, tbm 38 rfl, rfl⟩⟩
set_option maxRecDepth 20000 in
theorem moX3_init : MOk mX3_init 2 0 := ⟨tbm 71 rfl, tbm 4 rfl, by decide +kernel, by decide +kernel, okX3_init, rfl, ⟨rfl, tbm 70 rfl, rfl⟩⟩
set_option maxRecDepth 20000 in
theorem moX7_init : MOk mX7_init 2 0 := ⟨tbm 94 rfl, tbm 5 rfl, by decide +kernel, by decide +kernel, okX7_init, rfl, ⟨rfl, tbm 93 rfl, rfl⟩⟩
set_option maxRecDepth 20000 in
theorem moX9_init : MOk mX9_init 2 0 := ⟨tbm 117 rfl, tbm 6 rfl, by decide +kernel, by decide +kernel, okX9_init, rfl, ⟨rfl, tbm 116 rfl, rfl⟩⟩
set_option maxRecDepth 20000 in
theorem moX8_copy : MOk mX8_copy 1 1 := ⟨tbm 983 rfl, tbm 3 rfl, by decide +kernel, by decide +kernel, okX8_copy, rfl, ⟨tbm 982 rfl, tbs 91 rfl⟩⟩
set_option maxRecDepth 20000 in
theorem moX3_copy : MOk mX3_copy 1 1 := ⟨tbm 988 rfl, tbm 4 rfl, by decide +kernel, by decide +kernel, okX3_copy, rfl, ⟨tbm 987 rfl, tbs 92 rfl⟩⟩
set_option maxRecDepth 20000 in
theorem moX7_copy : MOk mX7_copy 1 1 := ⟨tbm 993 rfl, tbm 5 rfl, by decide +kernel, by decide +kernel, okX7_copy, rfl, ⟨tbm 992 rfl, tbs 93 rfl⟩⟩
set_option maxRecDepth 20000 in
theorem moX9_copy : MOk mX9_copy 1 1 := ⟨tbm 998 rfl, tbm 6 rfl, by decide +kernel, by decide +kernel, okX9_copy, rfl, ⟨tbm 997 rfl, tbs 94 rfl⟩⟩
set_option maxRecDepth 20000 in
theorem moX2_rowOf : MOk mX2_rowOf 1 2 := ⟨tbm 908 rfl, tbm 12 rfl, by decide +kernel, by decide +kernel, okX2_rowOf, rfl, ⟨tbm 907 rfl, tbs 78 rfl⟩⟩
set_option maxRecDepth 20000 in
theorem moX2_playHour : MOk mX2_playHour 1 2 := ⟨tbm 912 rfl, tbm 12 rfl, by decide +kernel, by decide +kernel, okX2_playHour, rfl, ⟨tbm 911 rfl, tbs 79 rfl⟩⟩
set_option maxRecDepth 20000 in
theorem moJ6_bitCount_0f7a4 : MOk mJ6_bitCount_0f7a4 0 1 := ⟨tbm 794 rfl, tbm 20 rfl, by decide +kernel, by decide +kernel, okJ6_bitCount_0f7a4, rfl, tbm 793 rfl⟩
set_option maxRecDepth 20000 in
theorem moX2_behindStrike : MOk mX2_behindStrike 1 3 := ⟨tbm 917 rfl, tbm 12 rfl, by decide +kernel, by decide +kernel, okX2_behindStrike, rfl, ⟨tbm 916 rfl, tbs 80 rfl⟩⟩
set_option maxRecDepth 20000 in
theorem moX2_aheadOfCall : MOk mX2_aheadOfCall 1 2 := ⟨tbm 922 rfl, tbm 12 rfl, by decide +kernel, by decide +kernel, okX2_aheadOfCall, rfl, ⟨tbm 921 rfl, tbs 81 rfl⟩⟩
set_option maxRecDepth 20000 in
theorem moJ9_max_7cf53 : MOk mJ9_max_7cf53 0 2 := ⟨tbm 461 rfl, tbm 14 rfl, by decide +kernel, by decide +kernel, okJ9_max_7cf53, rfl, tbm 460 rfl⟩
set_option maxRecDepth 20000 in
theorem moX2_feeAt : MOk mX2_feeAt 1 2 := ⟨tbm 926 rfl, tbm 12 rfl, by decide +kernel, by decide +kernel, okX2_feeAt, rfl, ⟨tbm 925 rfl, tbs 82 rfl⟩⟩
set_option maxRecDepth 20000 in
theorem moJ9_min_7cf53 : MOk mJ9_min_7cf53 0 2 := ⟨tbm 525 rfl, tbm 14 rfl, by decide +kernel, by decide +kernel, okJ9_min_7cf53, rfl, tbm 524 rfl⟩
set_option maxRecDepth 20000 in
theorem moX5_has : MOk mX5_has 1 1 := ⟨tbm 544 rfl, tbm 7 rfl, by decide +kernel, by decide +kernel, okX5_has, rfl, ⟨tbm 543 rfl, tbs 14 rfl⟩⟩
set_option maxRecDepth 20000 in
theorem moX5_valueOf : MOk mX5_valueOf 1 2 := ⟨tbm 644 rfl, tbm 7 rfl, by decide +kernel, by decide +kernel, okX5_valueOf, rfl, ⟨tbm 643 rfl, tbs 34 rfl⟩⟩
set_option maxRecDepth 20000 in
theorem moX5_named : MOk mX5_named 0 2 := ⟨tbm 647 rfl, tbm 7 rfl, by decide +kernel, by decide +kernel, okX5_named, rfl, tbm 646 rfl⟩
set_option maxRecDepth 20000 in
theorem moX5_turned : MOk mX5_turned 0 2 := ⟨tbm 650 rfl, tbm 7 rfl, by decide +kernel, by decide +kernel, okX5_turned, rfl, tbm 649 rfl⟩
set_option maxRecDepth 20000 in
theorem moX5_reckoned : MOk mX5_reckoned 0 3 := ⟨tbm 653 rfl, tbm 7 rfl, by decide +kernel, by decide +kernel, okX5_reckoned, rfl, tbm 652 rfl⟩
set_option maxRecDepth 20000 in
theorem moX5_bounded : MOk mX5_bounded 0 1 := ⟨tbm 656 rfl, tbm 7 rfl, by decide +kernel, by decide +kernel, okX5_bounded, rfl, tbm 655 rfl⟩
set_option maxRecDepth 20000 in
theorem moJ9_min_f86c9 : MOk mJ9_min_f86c9 0 2 := ⟨tbm 661 rfl, tbm 14 rfl, by decide +kernel, by decide +kernel, okJ9_min_f86c9, rfl, tbm 660 rfl⟩
set_option maxRecDepth 20000 in
theorem moJ9_max_f86c9 : MOk mJ9_max_f86c9 0 2 := ⟨tbm 664 rfl, tbm 14 rfl, by decide +kernel, by decide +kernel, okJ9_max_f86c9, rfl, tbm 663 rfl⟩
set_option maxRecDepth 20000 in
theorem moX5_isRule : MOk mX5_isRule 1 1 := ⟨tbm 791 rfl, tbm 7 rfl, by decide +kernel, by decide +kernel, okX5_isRule, rfl, ⟨tbm 790 rfl, tbs 58 rfl⟩⟩
set_option maxRecDepth 20000 in
theorem moX5_shownAtAll : MOk mX5_shownAtAll 1 2 := ⟨tbm 730 rfl, tbm 7 rfl, by decide +kernel, by decide +kernel, okX5_shownAtAll, rfl, ⟨tbm 729 rfl, tbs 47 rfl⟩⟩
set_option maxRecDepth 20000 in
theorem moX5_shownBy : MOk mX5_shownBy 1 4 := ⟨tbm 734 rfl, tbm 7 rfl, by decide +kernel, by decide +kernel, okX5_shownBy, rfl, ⟨tbm 733 rfl, tbs 48 rfl⟩⟩
set_option maxRecDepth 20000 in
theorem moX10_init : MOk mX10_init 2 0 := ⟨tbm 221 rfl, tbm 9 rfl, by decide +kernel, by decide +kernel, okX10_init, rfl, ⟨rfl, tbm 220 rfl, rfl⟩⟩
set_option maxRecDepth 20000 in
theorem moX5_init : MOk mX5_init 2 0 := ⟨tbm 167 rfl, tbm 7 rfl, by decide +kernel, by decide +kernel, okX5_init, rfl, ⟨rfl, tbm 166 rfl, rfl⟩⟩
set_option maxRecDepth 20000 in
theorem moX5_clear : MOk mX5_clear 1 0 := ⟨tbm 444 rfl, tbm 7 rfl, by decide +kernel, by decide +kernel, okX5_clear, rfl, ⟨tbm 443 rfl, tbs 5 rfl⟩⟩
set_option maxRecDepth 20000 in
theorem moX10_split : MOk mX10_split 1 0 := ⟨tbm 448 rfl, tbm 9 rfl, by decide +kernel, by decide +kernel, okX10_split, rfl, ⟨tbm 447 rfl, tbs 6 rfl⟩⟩
set_option maxRecDepth 20000 in
theorem moX6_sort : MOk mX6_sort 1 0 := ⟨tbm 532 rfl, tbm 8 rfl, by decide +kernel, by decide +kernel, okX6_sort, rfl, ⟨tbm 531 rfl, tbs 11 rfl⟩⟩
set_option maxRecDepth 20000 in
theorem moX6_clause : MOk mX6_clause 1 0 := ⟨tbm 536 rfl, tbm 8 rfl, by decide +kernel, by decide +kernel, okX6_clause, rfl, ⟨tbm 535 rfl, tbs 12 rfl⟩⟩
set_option maxRecDepth 20000 in
theorem moX6_fail : MOk mX6_fail 1 1 := ⟨tbm 540 rfl, tbm 8 rfl, by decide +kernel, by decide +kernel, okX6_fail, rfl, ⟨tbm 539 rfl, tbs 13 rfl⟩⟩
set_option maxRecDepth 20000 in
theorem moX5_open : MOk mX5_open 1 1 := ⟨tbm 548 rfl, tbm 7 rfl, by decide +kernel, by decide +kernel, okX5_open, rfl, ⟨tbm 547 rfl, tbs 15 rfl⟩⟩
set_option maxRecDepth 20000 in
theorem moX6_rule : MOk mX6_rule 1 0 := ⟨tbm 552 rfl, tbm 8 rfl, by decide +kernel, by decide +kernel, okX6_rule, rfl, ⟨tbm 551 rfl, tbs 16 rfl⟩⟩
set_option maxRecDepth 20000 in
theorem moX6_sum : MOk mX6_sum 1 1 := ⟨tbm 576 rfl, tbm 8 rfl, by decide +kernel, by decide +kernel, okX6_sum, rfl, ⟨tbm 575 rfl, tbs 22 rfl⟩⟩
set_option maxRecDepth 20000 in
theorem moX6_either : MOk mX6_either 1 0 := ⟨tbm 592 rfl, tbm 8 rfl, by decide +kernel, by decide +kernel, okX6_either, rfl, ⟨tbm 591 rfl, tbs 26 rfl⟩⟩
set_option maxRecDepth 20000 in
theorem moX5_shut : MOk mX5_shut 1 1 := ⟨tbm 603 rfl, tbm 7 rfl, by decide +kernel, by decide +kernel, okX5_shut, rfl, ⟨tbm 602 rfl, tbs 28 rfl⟩⟩
set_option maxRecDepth 20000 in
theorem moX6_pass : MOk mX6_pass 1 1 := ⟨tbm 564 rfl, tbm 8 rfl, by decide +kernel, by decide +kernel, okX6_pass, rfl, ⟨tbm 563 rfl, tbs 19 rfl⟩⟩
set_option maxRecDepth 20000 in
theorem moX6_number : MOk mX6_number 1 2 := ⟨tbm 556 rfl, tbm 8 rfl, by decide +kernel, by decide +kernel, okX6_number, rfl, ⟨tbm 555 rfl, tbs 17 rfl⟩⟩
set_option maxRecDepth 20000 in
theorem moX6_factsBehind : MOk mX6_factsBehind 1 2 := ⟨tbm 568 rfl, tbm 8 rfl, by decide +kernel, by decide +kernel, okX6_factsBehind, rfl, ⟨tbm 567 rfl, tbs 20 rfl⟩⟩
set_option maxRecDepth 20000 in
theorem moX5_addRule : MOk mX5_addRule 1 5 := ⟨tbm 572 rfl, tbm 7 rfl, by decide +kernel, by decide +kernel, okX5_addRule, rfl, ⟨tbm 571 rfl, tbs 21 rfl⟩⟩
set_option maxRecDepth 20000 in
theorem moX6_value : MOk mX6_value 1 0 := ⟨tbm 560 rfl, tbm 8 rfl, by decide +kernel, by decide +kernel, okX6_value, rfl, ⟨tbm 559 rfl, tbs 18 rfl⟩⟩
set_option maxRecDepth 20000 in
theorem moX6_ask : MOk mX6_ask 1 1 := ⟨tbm 596 rfl, tbm 8 rfl, by decide +kernel, by decide +kernel, okX6_ask, rfl, ⟨tbm 595 rfl, tbs 27 rfl⟩⟩
set_option maxRecDepth 20000 in
theorem moX5_emit : MOk mX5_emit 1 1 := ⟨tbm 588 rfl, tbm 7 rfl, by decide +kernel, by decide +kernel, okX5_emit, rfl, ⟨tbm 587 rfl, tbs 25 rfl⟩⟩
set_option maxRecDepth 20000 in
theorem moX6_compares : MOk mX6_compares 0 1 := ⟨tbm 599 rfl, tbm 8 rfl, by decide +kernel, by decide +kernel, okX6_compares, rfl, tbm 598 rfl⟩
set_option maxRecDepth 20000 in
theorem moX6_one : MOk mX6_one 1 1 := ⟨tbm 580 rfl, tbm 8 rfl, by decide +kernel, by decide +kernel, okX6_one, rfl, ⟨tbm 579 rfl, tbs 23 rfl⟩⟩
set_option maxRecDepth 20000 in
theorem moX6_isForeign : MOk mX6_isForeign 1 1 := ⟨tbm 584 rfl, tbm 8 rfl, by decide +kernel, by decide +kernel, okX6_isForeign, rfl, ⟨tbm 583 rfl, tbs 24 rfl⟩⟩
set_option maxRecDepth 20000 in
theorem moX10_behindToken : MOk mX10_behindToken 1 1 := ⟨tbm 452 rfl, tbm 9 rfl, by decide +kernel, by decide +kernel, okX10_behindToken, rfl, ⟨tbm 451 rfl, tbs 7 rfl⟩⟩
set_option maxRecDepth 20000 in
theorem moX10_sortOf : MOk mX10_sortOf 1 2 := ⟨tbm 465 rfl, tbm 9 rfl, by decide +kernel, by decide +kernel, okX10_sortOf, rfl, ⟨tbm 464 rfl, tbs 8 rfl⟩⟩
set_option maxRecDepth 20000 in
theorem moX10_isLetter : MOk mX10_isLetter 0 1 := ⟨tbm 455 rfl, tbm 9 rfl, by decide +kernel, by decide +kernel, okX10_isLetter, rfl, tbm 454 rfl⟩
set_option maxRecDepth 20000 in
theorem moX10_wordOf : MOk mX10_wordOf 1 2 := ⟨tbm 469 rfl, tbm 9 rfl, by decide +kernel, by decide +kernel, okX10_wordOf, rfl, ⟨tbm 468 rfl, tbs 9 rfl⟩⟩
set_option maxRecDepth 20000 in
theorem moX10_isDigit : MOk mX10_isDigit 0 1 := ⟨tbm 458 rfl, tbm 9 rfl, by decide +kernel, by decide +kernel, okX10_isDigit, rfl, tbm 457 rfl⟩
set_option maxRecDepth 20000 in
theorem moX10_numberOf : MOk mX10_numberOf 1 2 := ⟨tbm 522 rfl, tbm 9 rfl, by decide +kernel, by decide +kernel, okX10_numberOf, rfl, ⟨tbm 521 rfl, tbs 10 rfl⟩⟩
set_option maxRecDepth 20000 in
theorem moX10_isSign : MOk mX10_isSign 0 1 := ⟨tbm 528 rfl, tbm 9 rfl, by decide +kernel, by decide +kernel, okX10_isSign, rfl, tbm 527 rfl⟩
set_option maxRecDepth 20000 in
theorem moX1_init : MOk mX1_init 2 0 := ⟨tbm 33 rfl, tbm 2 rfl, by decide +kernel, by decide +kernel, okX1_init, rfl, ⟨rfl, tbm 32 rfl, rfl⟩⟩
set_option maxRecDepth 20000 in
theorem moX6_init : MOk mX6_init 2 0 := ⟨tbm 215 rfl, tbm 8 rfl, by decide +kernel, by decide +kernel, okX6_init, rfl, ⟨rfl, tbm 214 rfl, rfl⟩⟩
set_option maxRecDepth 20000 in
theorem moX4_init : MOk mX4_init 2 0 := ⟨tbm 280 rfl, tbm 10 rfl, by decide +kernel, by decide +kernel, okX4_init, rfl, ⟨rfl, tbm 279 rfl, rfl⟩⟩
set_option maxRecDepth 20000 in
theorem moX0_init : MOk mX0_init 2 0 := ⟨tbm 292 rfl, tbm 11 rfl, by decide +kernel, by decide +kernel, okX0_init, rfl, ⟨rfl, tbm 291 rfl, rfl⟩⟩
set_option maxRecDepth 20000 in
theorem moX2_init : MOk mX2_init 2 0 := ⟨tbm 313 rfl, tbm 12 rfl, by decide +kernel, by decide +kernel, okX2_init, rfl, ⟨rfl, tbm 312 rfl, rfl⟩⟩
set_option maxRecDepth 20000 in
theorem moX8_add : MOk mX8_add 1 4 := ⟨tbm 397 rfl, tbm 3 rfl, by decide +kernel, by decide +kernel, okX8_add, rfl, ⟨tbm 396 rfl, tbs 0 rfl⟩⟩
set_option maxRecDepth 20000 in
theorem moX11_isFact : MOk mX11_isFact 0 1 := ⟨tbm 404 rfl, tbm 1 rfl, by decide +kernel, by decide +kernel, okX11_isFact, rfl, tbm 403 rfl⟩
set_option maxRecDepth 20000 in
theorem moX3_add : MOk mX3_add 1 3 := ⟨tbm 408 rfl, tbm 4 rfl, by decide +kernel, by decide +kernel, okX3_add, rfl, ⟨tbm 407 rfl, tbs 1 rfl⟩⟩
set_option maxRecDepth 20000 in
theorem moX11_isWitness : MOk mX11_isWitness 1 1 := ⟨tbm 420 rfl, tbm 1 rfl, by decide +kernel, by decide +kernel, okX11_isWitness, rfl, ⟨tbm 419 rfl, tbs 2 rfl⟩⟩
set_option maxRecDepth 20000 in
theorem moX10_put : MOk mX10_put 1 1 := ⟨tbm 428 rfl, tbm 9 rfl, by decide +kernel, by decide +kernel, okX10_put, rfl, ⟨tbm 427 rfl, tbs 3 rfl⟩⟩
set_option maxRecDepth 20000 in
theorem moX6_read : MOk mX6_read 1 0 := ⟨tbm 440 rfl, tbm 8 rfl, by decide +kernel, by decide +kernel, okX6_read, rfl, ⟨tbm 439 rfl, tbs 4 rfl⟩⟩
set_option maxRecDepth 20000 in
theorem moX5_copy : MOk mX5_copy 1 1 := ⟨tbm 607 rfl, tbm 7 rfl, by decide +kernel, by decide +kernel, okX5_copy, rfl, ⟨tbm 606 rfl, tbs 29 rfl⟩⟩
set_option maxRecDepth 20000 in
theorem moX11_saysAs : MOk mX11_saysAs 1 2 := ⟨tbm 627 rfl, tbm 1 rfl, by decide +kernel, by decide +kernel, okX11_saysAs, rfl, ⟨tbm 626 rfl, tbs 30 rfl⟩⟩
set_option maxRecDepth 20000 in
theorem moX11_feeNow : MOk mX11_feeNow 1 2 := ⟨tbm 668 rfl, tbm 1 rfl, by decide +kernel, by decide +kernel, okX11_feeNow, rfl, ⟨tbm 667 rfl, tbs 35 rfl⟩⟩
set_option maxRecDepth 20000 in
theorem moX11_isStruck : MOk mX11_isStruck 1 1 := ⟨tbm 678 rfl, tbm 1 rfl, by decide +kernel, by decide +kernel, okX11_isStruck, rfl, ⟨tbm 677 rfl, tbs 37 rfl⟩⟩
set_option maxRecDepth 20000 in
theorem moX7_has : MOk mX7_has 1 1 := ⟨tbm 682 rfl, tbm 5 rfl, by decide +kernel, by decide +kernel, okX7_has, rfl, ⟨tbm 681 rfl, tbs 38 rfl⟩⟩
set_option maxRecDepth 20000 in
theorem moX7_add : MOk mX7_add 1 3 := ⟨tbm 690 rfl, tbm 5 rfl, by decide +kernel, by decide +kernel, okX7_add, rfl, ⟨tbm 689 rfl, tbs 39 rfl⟩⟩
set_option maxRecDepth 20000 in
theorem moX7_paid : MOk mX7_paid 1 0 := ⟨tbm 698 rfl, tbm 5 rfl, by decide +kernel, by decide +kernel, okX7_paid, rfl, ⟨tbm 697 rfl, tbs 40 rfl⟩⟩
set_option maxRecDepth 20000 in
theorem moX11_isSet : MOk mX11_isSet 1 1 := ⟨tbm 706 rfl, tbm 1 rfl, by decide +kernel, by decide +kernel, okX11_isSet, rfl, ⟨tbm 705 rfl, tbs 41 rfl⟩⟩
set_option maxRecDepth 20000 in
theorem moX11_findSayings : MOk mX11_findSayings 1 0 := ⟨tbm 710 rfl, tbm 1 rfl, by decide +kernel, by decide +kernel, okX11_findSayings, rfl, ⟨tbm 709 rfl, tbs 42 rfl⟩⟩
set_option maxRecDepth 20000 in
theorem moX11_weigh : MOk mX11_weigh 1 1 := ⟨tbm 714 rfl, tbm 1 rfl, by decide +kernel, by decide +kernel, okX11_weigh, rfl, ⟨tbm 713 rfl, tbs 43 rfl⟩⟩
set_option maxRecDepth 20000 in
theorem moX11_ruling : MOk mX11_ruling 1 0 := ⟨tbm 635 rfl, tbm 1 rfl, by decide +kernel, by decide +kernel, okX11_ruling, rfl, ⟨tbm 634 rfl, tbs 32 rfl⟩⟩
set_option maxRecDepth 20000 in
theorem moX11_isHeardCount : MOk mX11_isHeardCount 1 1 := ⟨tbm 742 rfl, tbm 1 rfl, by decide +kernel, by decide +kernel, okX11_isHeardCount, rfl, ⟨tbm 741 rfl, tbs 49 rfl⟩⟩
set_option maxRecDepth 20000 in
theorem moX11_weighHeard : MOk mX11_weighHeard 1 1 := ⟨tbm 746 rfl, tbm 1 rfl, by decide +kernel, by decide +kernel, okX11_weighHeard, rfl, ⟨tbm 745 rfl, tbs 50 rfl⟩⟩
set_option maxRecDepth 20000 in
theorem moX11_isVerdict : MOk mX11_isVerdict 1 1 := ⟨tbm 754 rfl, tbm 1 rfl, by decide +kernel, by decide +kernel, okX11_isVerdict, rfl, ⟨tbm 753 rfl, tbs 51 rfl⟩⟩
set_option maxRecDepth 20000 in
theorem moX11_followsBySet : MOk mX11_followsBySet 1 2 := ⟨tbm 758 rfl, tbm 1 rfl, by decide +kernel, by decide +kernel, okX11_followsBySet, rfl, ⟨tbm 757 rfl, tbs 52 rfl⟩⟩
set_option maxRecDepth 20000 in
theorem moX11_carried : MOk mX11_carried 1 2 := ⟨tbm 762 rfl, tbm 1 rfl, by decide +kernel, by decide +kernel, okX11_carried, rfl, ⟨tbm 761 rfl, tbs 53 rfl⟩⟩
set_option maxRecDepth 20000 in
theorem moX0_trace : MOk mX0_trace 1 3 := ⟨tbm 778 rfl, tbm 11 rfl, by decide +kernel, by decide +kernel, okX0_trace, rfl, ⟨tbm 777 rfl, tbs 55 rfl⟩⟩
set_option maxRecDepth 20000 in
theorem moX0_factAt : MOk mX0_factAt 1 1 := ⟨tbm 801 rfl, tbm 11 rfl, by decide +kernel, by decide +kernel, okX0_factAt, rfl, ⟨tbm 800 rfl, tbs 59 rfl⟩⟩
set_option maxRecDepth 20000 in
theorem moX0_weakestFact : MOk mX0_weakestFact 1 1 := ⟨tbm 809 rfl, tbm 11 rfl, by decide +kernel, by decide +kernel, okX0_weakestFact, rfl, ⟨tbm 808 rfl, tbs 60 rfl⟩⟩
set_option maxRecDepth 20000 in
theorem moX4_copy : MOk mX4_copy 1 1 := ⟨tbm 821 rfl, tbm 10 rfl, by decide +kernel, by decide +kernel, okX4_copy, rfl, ⟨tbm 820 rfl, tbs 62 rfl⟩⟩
set_option maxRecDepth 20000 in
theorem moX4_add : MOk mX4_add 1 2 := ⟨tbm 722 rfl, tbm 10 rfl, by decide +kernel, by decide +kernel, okX4_add, rfl, ⟨tbm 721 rfl, tbs 45 rfl⟩⟩
set_option maxRecDepth 20000 in
theorem moX5_carries : MOk mX5_carries 1 4 := ⟨tbm 766 rfl, tbm 7 rfl, by decide +kernel, by decide +kernel, okX5_carries, rfl, ⟨tbm 765 rfl, tbs 54 rfl⟩⟩
set_option maxRecDepth 20000 in
theorem moX11_findFees : MOk mX11_findFees 1 0 := ⟨tbm 830 rfl, tbm 1 rfl, by decide +kernel, by decide +kernel, okX11_findFees, rfl, ⟨tbm 829 rfl, tbs 63 rfl⟩⟩
set_option maxRecDepth 20000 in
theorem moX11_findLeast : MOk mX11_findLeast 1 1 := ⟨tbm 834 rfl, tbm 1 rfl, by decide +kernel, by decide +kernel, okX11_findLeast, rfl, ⟨tbm 833 rfl, tbs 64 rfl⟩⟩
set_option maxRecDepth 20000 in
theorem moX11_carriedAmong : MOk mX11_carriedAmong 1 1 := ⟨tbm 867 rfl, tbm 1 rfl, by decide +kernel, by decide +kernel, okX11_carriedAmong, rfl, ⟨tbm 866 rfl, tbs 71 rfl⟩⟩
set_option maxRecDepth 20000 in
theorem moX5_isBarred : MOk mX5_isBarred 1 2 := ⟨tbm 859 rfl, tbm 7 rfl, by decide +kernel, by decide +kernel, okX5_isBarred, rfl, ⟨tbm 858 rfl, tbs 70 rfl⟩⟩
set_option maxRecDepth 20000 in
theorem moX11_isDay : MOk mX11_isDay 1 4 := ⟨tbm 883 rfl, tbm 1 rfl, by decide +kernel, by decide +kernel, okX11_isDay, rfl, ⟨tbm 882 rfl, tbs 72 rfl⟩⟩
set_option maxRecDepth 20000 in
theorem moX11_playDay : MOk mX11_playDay 1 3 := ⟨tbm 887 rfl, tbm 1 rfl, by decide +kernel, by decide +kernel, okX11_playDay, rfl, ⟨tbm 886 rfl, tbs 73 rfl⟩⟩
set_option maxRecDepth 20000 in
theorem moX2_isWon : MOk mX2_isWon 1 1 := ⟨tbm 931 rfl, tbm 12 rfl, by decide +kernel, by decide +kernel, okX2_isWon, rfl, ⟨tbm 930 rfl, tbs 83 rfl⟩⟩
set_option maxRecDepth 20000 in
theorem moX2_firstCall : MOk mX2_firstCall 1 1 := ⟨tbm 939 rfl, tbm 12 rfl, by decide +kernel, by decide +kernel, okX2_firstCall, rfl, ⟨tbm 938 rfl, tbs 84 rfl⟩⟩
set_option maxRecDepth 20000 in
theorem moX9_add : MOk mX9_add 1 3 := ⟨tbm 947 rfl, tbm 6 rfl, by decide +kernel, by decide +kernel, okX9_add, rfl, ⟨tbm 946 rfl, tbs 85 rfl⟩⟩
set_option maxRecDepth 20000 in
theorem moX9_fit : MOk mX9_fit 1 2 := ⟨tbm 955 rfl, tbm 6 rfl, by decide +kernel, by decide +kernel, okX9_fit, rfl, ⟨tbm 954 rfl, tbs 86 rfl⟩⟩
set_option maxRecDepth 20000 in
theorem moX3_chances : MOk mX3_chances 1 0 := ⟨tbm 963 rfl, tbm 4 rfl, by decide +kernel, by decide +kernel, okX3_chances, rfl, ⟨tbm 962 rfl, tbs 87 rfl⟩⟩
set_option maxRecDepth 20000 in
theorem moX11_findCosts : MOk mX11_findCosts 1 0 := ⟨tbm 967 rfl, tbm 1 rfl, by decide +kernel, by decide +kernel, okX11_findCosts, rfl, ⟨tbm 966 rfl, tbs 88 rfl⟩⟩
set_option maxRecDepth 20000 in
theorem moX3_drawnBy : MOk mX3_drawnBy 1 1 := ⟨tbm 971 rfl, tbm 4 rfl, by decide +kernel, by decide +kernel, okX3_drawnBy, rfl, ⟨tbm 970 rfl, tbs 89 rfl⟩⟩
set_option maxRecDepth 20000 in
theorem moX1_copy : MOk mX1_copy 1 1 := ⟨tbm 979 rfl, tbm 2 rfl, by decide +kernel, by decide +kernel, okX1_copy, rfl, ⟨tbm 978 rfl, tbs 90 rfl⟩⟩
set_option maxRecDepth 20000 in
theorem moX11_aboutHeard : MOk mX11_aboutHeard 1 1 := ⟨tbm 1011 rfl, tbm 1 rfl, by decide +kernel, by decide +kernel, okX11_aboutHeard, rfl, ⟨tbm 1010 rfl, tbs 95 rfl⟩⟩
set_option maxRecDepth 20000 in
theorem moX11_describe : MOk mX11_describe 1 1 := ⟨tbm 631 rfl, tbm 1 rfl, by decide +kernel, by decide +kernel, okX11_describe, rfl, ⟨tbm 630 rfl, tbs 31 rfl⟩⟩
set_option maxRecDepth 20000 in
theorem moX5_spoken : MOk mX5_spoken 1 2 := ⟨tbm 639 rfl, tbm 7 rfl, by decide +kernel, by decide +kernel, okX5_spoken, rfl, ⟨tbm 638 rfl, tbs 33 rfl⟩⟩
set_option maxRecDepth 20000 in
theorem moX5_charged : MOk mX5_charged 1 1 := ⟨tbm 672 rfl, tbm 7 rfl, by decide +kernel, by decide +kernel, okX5_charged, rfl, ⟨tbm 671 rfl, tbs 36 rfl⟩⟩
set_option maxRecDepth 20000 in
theorem moX4_clear : MOk mX4_clear 1 0 := ⟨tbm 718 rfl, tbm 10 rfl, by decide +kernel, by decide +kernel, okX4_clear, rfl, ⟨tbm 717 rfl, tbs 44 rfl⟩⟩
set_option maxRecDepth 20000 in
theorem moX11_tryLeast : MOk mX11_tryLeast 1 2 := ⟨tbm 838 rfl, tbm 1 rfl, by decide +kernel, by decide +kernel, okX11_tryLeast, rfl, ⟨tbm 837 rfl, tbs 65 rfl⟩⟩
set_option maxRecDepth 20000 in
theorem moX11_feesOf : MOk mX11_feesOf 1 1 := ⟨tbm 842 rfl, tbm 1 rfl, by decide +kernel, by decide +kernel, okX11_feesOf, rfl, ⟨tbm 841 rfl, tbs 66 rfl⟩⟩
set_option maxRecDepth 20000 in
theorem moX11_isLess : MOk mX11_isLess 1 1 := ⟨tbm 846 rfl, tbm 1 rfl, by decide +kernel, by decide +kernel, okX11_isLess, rfl, ⟨tbm 845 rfl, tbs 67 rfl⟩⟩
set_option maxRecDepth 20000 in
theorem moX11_keepLeast : MOk mX11_keepLeast 1 3 := ⟨tbm 850 rfl, tbm 1 rfl, by decide +kernel, by decide +kernel, okX11_keepLeast, rfl, ⟨tbm 849 rfl, tbs 68 rfl⟩⟩
set_option maxRecDepth 20000 in
theorem moX5_bendOf : MOk mX5_bendOf 1 1 := ⟨tbm 855 rfl, tbm 7 rfl, by decide +kernel, by decide +kernel, okX5_bendOf, rfl, ⟨tbm 854 rfl, tbs 69 rfl⟩⟩
set_option maxRecDepth 20000 in
theorem moX11_seatFree : MOk mX11_seatFree 1 0 := ⟨tbm 891 rfl, tbm 1 rfl, by decide +kernel, by decide +kernel, okX11_seatFree, rfl, ⟨tbm 890 rfl, tbs 74 rfl⟩⟩
set_option maxRecDepth 20000 in
theorem moX2_witnessesOf : MOk mX2_witnessesOf 1 1 := ⟨tbm 895 rfl, tbm 12 rfl, by decide +kernel, by decide +kernel, okX2_witnessesOf, rfl, ⟨tbm 894 rfl, tbs 75 rfl⟩⟩
set_option maxRecDepth 20000 in
theorem moX2_close : MOk mX2_close 1 2 := ⟨tbm 899 rfl, tbm 12 rfl, by decide +kernel, by decide +kernel, okX2_close, rfl, ⟨tbm 898 rfl, tbs 76 rfl⟩⟩
set_option maxRecDepth 20000 in
theorem moX2_play : MOk mX2_play 1 2 := ⟨tbm 904 rfl, tbm 12 rfl, by decide +kernel, by decide +kernel, okX2_play, rfl, ⟨tbm 903 rfl, tbs 77 rfl⟩⟩
set_option maxRecDepth 20000 in
theorem moX12_copy : MOk mX12_copy 0 2 := ⟨tbm 1020 rfl, tbm 13 rfl, by decide +kernel, by decide +kernel, okX12_copy, rfl, tbm 1019 rfl⟩
set_option maxRecDepth 20000 in
theorem moX12_isIn : MOk mX12_isIn 0 3 := ⟨tbm 1140 rfl, tbm 13 rfl, by decide +kernel, by decide +kernel, okX12_isIn, rfl, tbm 1139 rfl⟩
set_option maxRecDepth 20000 in
theorem moX12_isWitness : MOk mX12_isWitness 1 1 := ⟨tbm 1156 rfl, tbm 13 rfl, by decide +kernel, by decide +kernel, okX12_isWitness, rfl, ⟨tbm 1155 rfl, tbs 96 rfl⟩⟩
set_option maxRecDepth 20000 in
theorem moX12_four : MOk mX12_four 1 1 := ⟨tbm 1164 rfl, tbm 13 rfl, by decide +kernel, by decide +kernel, okX12_four, rfl, ⟨tbm 1163 rfl, tbs 97 rfl⟩⟩
set_option maxRecDepth 20000 in
theorem moX12_byteAt : MOk mX12_byteAt 1 1 := ⟨tbm 1184 rfl, tbm 13 rfl, by decide +kernel, by decide +kernel, okX12_byteAt, rfl, ⟨tbm 1183 rfl, tbs 100 rfl⟩⟩
set_option maxRecDepth 20000 in
theorem moX12_isDigit : MOk mX12_isDigit 0 1 := ⟨tbm 1187 rfl, tbm 13 rfl, by decide +kernel, by decide +kernel, okX12_isDigit, rfl, tbm 1186 rfl⟩
set_option maxRecDepth 20000 in
theorem moX12_isLetter : MOk mX12_isLetter 0 1 := ⟨tbm 1191 rfl, tbm 13 rfl, by decide +kernel, by decide +kernel, okX12_isLetter, rfl, tbm 1190 rfl⟩
set_option maxRecDepth 20000 in
theorem moX12_w3 : MOk mX12_w3 0 3 := ⟨tbm 1202 rfl, tbm 13 rfl, by decide +kernel, by decide +kernel, okX12_w3, rfl, tbm 1201 rfl⟩
set_option maxRecDepth 20000 in
theorem moX12_w5 : MOk mX12_w5 0 5 := ⟨tbm 1209 rfl, tbm 13 rfl, by decide +kernel, by decide +kernel, okX12_w5, rfl, tbm 1208 rfl⟩
set_option maxRecDepth 20000 in
theorem moX12_emit : MOk mX12_emit 1 2 := ⟨tbm 1252 rfl, tbm 13 rfl, by decide +kernel, by decide +kernel, okX12_emit, rfl, ⟨tbm 1251 rfl, tbs 112 rfl⟩⟩
set_option maxRecDepth 20000 in
theorem moX12_w4 : MOk mX12_w4 0 4 := ⟨tbm 1212 rfl, tbm 13 rfl, by decide +kernel, by decide +kernel, okX12_w4, rfl, tbm 1211 rfl⟩
set_option maxRecDepth 20000 in
theorem moX12_isStrength : MOk mX12_isStrength 1 0 := ⟨tbm 1272 rfl, tbm 13 rfl, by decide +kernel, by decide +kernel, okX12_isStrength, rfl, ⟨tbm 1271 rfl, tbs 117 rfl⟩⟩
set_option maxRecDepth 20000 in
theorem moX12_nextToken : MOk mX12_nextToken 1 0 := ⟨tbm 1180 rfl, tbm 13 rfl, by decide +kernel, by decide +kernel, okX12_nextToken, rfl, ⟨tbm 1179 rfl, tbs 99 rfl⟩⟩
set_option maxRecDepth 20000 in
theorem moX12_whole : MOk mX12_whole 1 0 := ⟨tbm 1260 rfl, tbm 13 rfl, by decide +kernel, by decide +kernel, okX12_whole, rfl, ⟨tbm 1259 rfl, tbs 114 rfl⟩⟩
set_option maxRecDepth 20000 in
theorem moX12_nameOf : MOk mX12_nameOf 1 0 := ⟨tbm 1268 rfl, tbm 13 rfl, by decide +kernel, by decide +kernel, okX12_nameOf, rfl, ⟨tbm 1267 rfl, tbs 116 rfl⟩⟩
set_option maxRecDepth 20000 in
theorem moX12_isBarred : MOk mX12_isBarred 1 1 := ⟨tbm 1276 rfl, tbm 13 rfl, by decide +kernel, by decide +kernel, okX12_isBarred, rfl, ⟨tbm 1275 rfl, tbs 118 rfl⟩⟩
set_option maxRecDepth 20000 in
theorem moX12_push : MOk mX12_push 1 1 := ⟨tbm 1256 rfl, tbm 13 rfl, by decide +kernel, by decide +kernel, okX12_push, rfl, ⟨tbm 1255 rfl, tbs 113 rfl⟩⟩
set_option maxRecDepth 20000 in
theorem moX12_hasParen : MOk mX12_hasParen 1 0 := ⟨tbm 1240 rfl, tbm 13 rfl, by decide +kernel, by decide +kernel, okX12_hasParen, rfl, ⟨tbm 1239 rfl, tbs 109 rfl⟩⟩
set_option maxRecDepth 20000 in
theorem moX12_settle : MOk mX12_settle 1 1 := ⟨tbm 1248 rfl, tbm 13 rfl, by decide +kernel, by decide +kernel, okX12_settle, rfl, ⟨tbm 1247 rfl, tbs 111 rfl⟩⟩
set_option maxRecDepth 20000 in
theorem moX12_goesOn : MOk mX12_goesOn 1 0 := ⟨tbm 1236 rfl, tbm 13 rfl, by decide +kernel, by decide +kernel, okX12_goesOn, rfl, ⟨tbm 1235 rfl, tbs 108 rfl⟩⟩
set_option maxRecDepth 20000 in
theorem moX12_behindOne : MOk mX12_behindOne 1 0 := ⟨tbm 1244 rfl, tbm 13 rfl, by decide +kernel, by decide +kernel, okX12_behindOne, rfl, ⟨tbm 1243 rfl, tbs 110 rfl⟩⟩
set_option maxRecDepth 20000 in
theorem moX12_beginOne : MOk mX12_beginOne 1 0 := ⟨tbm 1264 rfl, tbm 13 rfl, by decide +kernel, by decide +kernel, okX12_beginOne, rfl, ⟨tbm 1263 rfl, tbs 115 rfl⟩⟩
set_option maxRecDepth 20000 in
theorem moX12_isWord : MOk mX12_isWord 1 1 := ⟨tbm 1206 rfl, tbm 13 rfl, by decide +kernel, by decide +kernel, okX12_isWord, rfl, ⟨tbm 1205 rfl, tbs 103 rfl⟩⟩
set_option maxRecDepth 20000 in
theorem moX12_summed : MOk mX12_summed 1 0 := ⟨tbm 1232 rfl, tbm 13 rfl, by decide +kernel, by decide +kernel, okX12_summed, rfl, ⟨tbm 1231 rfl, tbs 107 rfl⟩⟩
set_option maxRecDepth 20000 in
theorem moX12_compareOf : MOk mX12_compareOf 1 0 := ⟨tbm 1288 rfl, tbm 13 rfl, by decide +kernel, by decide +kernel, okX12_compareOf, rfl, ⟨tbm 1287 rfl, tbs 121 rfl⟩⟩
set_option maxRecDepth 20000 in
theorem moX12_asks : MOk mX12_asks 1 0 := ⟨tbm 1284 rfl, tbm 13 rfl, by decide +kernel, by decide +kernel, okX12_asks, rfl, ⟨tbm 1283 rfl, tbs 120 rfl⟩⟩
set_option maxRecDepth 20000 in
theorem moX12_figure : MOk mX12_figure 1 3 := ⟨tbm 1220 rfl, tbm 13 rfl, by decide +kernel, by decide +kernel, okX12_figure, rfl, ⟨tbm 1219 rfl, tbs 105 rfl⟩⟩
set_option maxRecDepth 20000 in
theorem moX12_facts : MOk mX12_facts 1 2 := ⟨tbm 1225 rfl, tbm 13 rfl, by decide +kernel, by decide +kernel, okX12_facts, rfl, ⟨tbm 1224 rfl, tbs 106 rfl⟩⟩
set_option maxRecDepth 20000 in
theorem moX12_w6 : MOk mX12_w6 0 6 := ⟨tbm 1228 rfl, tbm 13 rfl, by decide +kernel, by decide +kernel, okX12_w6, rfl, tbm 1227 rfl⟩
set_option maxRecDepth 20000 in
theorem moX12_sortOf : MOk mX12_sortOf 1 0 := ⟨tbm 1199 rfl, tbm 13 rfl, by decide +kernel, by decide +kernel, okX12_sortOf, rfl, ⟨tbm 1198 rfl, tbs 102 rfl⟩⟩
set_option maxRecDepth 20000 in
theorem moX12_ruled : MOk mX12_ruled 1 1 := ⟨tbm 1216 rfl, tbm 13 rfl, by decide +kernel, by decide +kernel, okX12_ruled, rfl, ⟨tbm 1215 rfl, tbs 104 rfl⟩⟩
set_option maxRecDepth 20000 in
theorem moX12_either : MOk mX12_either 1 0 := ⟨tbm 1280 rfl, tbm 13 rfl, by decide +kernel, by decide +kernel, okX12_either, rfl, ⟨tbm 1279 rfl, tbs 119 rfl⟩⟩
set_option maxRecDepth 20000 in
theorem moX12_clause : MOk mX12_clause 1 0 := ⟨tbm 1195 rfl, tbm 13 rfl, by decide +kernel, by decide +kernel, okX12_clause, rfl, ⟨tbm 1194 rfl, tbs 101 rfl⟩⟩
set_option maxRecDepth 20000 in
theorem moX12_readText : MOk mX12_readText 1 0 := ⟨tbm 1176 rfl, tbm 13 rfl, by decide +kernel, by decide +kernel, okX12_readText, rfl, ⟨tbm 1175 rfl, tbs 98 rfl⟩⟩
set_option maxRecDepth 20000 in
theorem moX12_clip : MOk mX12_clip 0 1 := ⟨tbm 1338 rfl, tbm 13 rfl, by decide +kernel, by decide +kernel, okX12_clip, rfl, tbm 1337 rfl⟩
set_option maxRecDepth 20000 in
theorem moX12_clauseAt : MOk mX12_clauseAt 1 1 := ⟨tbm 1321 rfl, tbm 13 rfl, by decide +kernel, by decide +kernel, okX12_clauseAt, rfl, ⟨tbm 1320 rfl, tbs 126 rfl⟩⟩
set_option maxRecDepth 20000 in
theorem moX12_two : MOk mX12_two 0 3 := ⟨tbm 1335 rfl, tbm 13 rfl, by decide +kernel, by decide +kernel, okX12_two, rfl, tbm 1334 rfl⟩
set_option maxRecDepth 20000 in
theorem moX12_isAsked : MOk mX12_isAsked 0 3 := ⟨tbm 1343 rfl, tbm 13 rfl, by decide +kernel, by decide +kernel, okX12_isAsked, rfl, tbm 1342 rfl⟩
set_option maxRecDepth 20000 in
theorem moX12_clauses : MOk mX12_clauses 1 0 := ⟨tbm 1317 rfl, tbm 13 rfl, by decide +kernel, by decide +kernel, okX12_clauses, rfl, ⟨tbm 1316 rfl, tbs 125 rfl⟩⟩
set_option maxRecDepth 20000 in
theorem moX12_clauseOf : MOk mX12_clauseOf 1 1 := ⟨tbm 1313 rfl, tbm 13 rfl, by decide +kernel, by decide +kernel, okX12_clauseOf, rfl, ⟨tbm 1312 rfl, tbs 124 rfl⟩⟩
set_option maxRecDepth 20000 in
theorem moX12_name : MOk mX12_name 1 2 := ⟨tbm 1325 rfl, tbm 13 rfl, by decide +kernel, by decide +kernel, okX12_name, rfl, ⟨tbm 1324 rfl, tbs 127 rfl⟩⟩
set_option maxRecDepth 20000 in
theorem moX12_has : MOk mX12_has 0 2 := ⟨tbm 1328 rfl, tbm 13 rfl, by decide +kernel, by decide +kernel, okX12_has, rfl, tbm 1327 rfl⟩
set_option maxRecDepth 20000 in
theorem moX12_work : MOk mX12_work 1 1 := ⟨tbm 1332 rfl, tbm 13 rfl, by decide +kernel, by decide +kernel, okX12_work, rfl, ⟨tbm 1331 rfl, tbs 128 rfl⟩⟩
set_option maxRecDepth 20000 in
theorem moX12_saidBy : MOk mX12_saidBy 1 2 := ⟨tbm 1309 rfl, tbm 13 rfl, by decide +kernel, by decide +kernel, okX12_saidBy, rfl, ⟨tbm 1308 rfl, tbs 123 rfl⟩⟩
set_option maxRecDepth 20000 in
theorem moX12_held : MOk mX12_held 0 3 := ⟨tbm 1350 rfl, tbm 13 rfl, by decide +kernel, by decide +kernel, okX12_held, rfl, tbm 1349 rfl⟩
set_option maxRecDepth 20000 in
theorem moX12_saysNow : MOk mX12_saysNow 1 1 := ⟨tbm 1305 rfl, tbm 13 rfl, by decide +kernel, by decide +kernel, okX12_saysNow, rfl, ⟨tbm 1304 rfl, tbs 122 rfl⟩⟩
set_option maxRecDepth 20000 in
theorem moX12_feeOf : MOk mX12_feeOf 1 2 := ⟨tbm 1347 rfl, tbm 13 rfl, by decide +kernel, by decide +kernel, okX12_feeOf, rfl, ⟨tbm 1346 rfl, tbs 129 rfl⟩⟩
set_option maxRecDepth 20000 in
theorem moX12_isHeard : MOk mX12_isHeard 1 1 := ⟨tbm 1354 rfl, tbm 13 rfl, by decide +kernel, by decide +kernel, okX12_isHeard, rfl, ⟨tbm 1353 rfl, tbs 130 rfl⟩⟩
set_option maxRecDepth 20000 in
theorem moX12_isStruck : MOk mX12_isStruck 1 1 := ⟨tbm 1362 rfl, tbm 13 rfl, by decide +kernel, by decide +kernel, okX12_isStruck, rfl, ⟨tbm 1361 rfl, tbs 131 rfl⟩⟩
set_option maxRecDepth 20000 in
theorem moX12_clear : MOk mX12_clear 1 0 := ⟨tbm 1386 rfl, tbm 13 rfl, by decide +kernel, by decide +kernel, okX12_clear, rfl, ⟨tbm 1385 rfl, tbs 135 rfl⟩⟩
set_option maxRecDepth 20000 in
theorem moX12_adduce : MOk mX12_adduce 1 2 := ⟨tbm 1390 rfl, tbm 13 rfl, by decide +kernel, by decide +kernel, okX12_adduce, rfl, ⟨tbm 1389 rfl, tbs 136 rfl⟩⟩
set_option maxRecDepth 20000 in
theorem moX12_isRule : MOk mX12_isRule 1 1 := ⟨tbm 1398 rfl, tbm 13 rfl, by decide +kernel, by decide +kernel, okX12_isRule, rfl, ⟨tbm 1397 rfl, tbs 138 rfl⟩⟩
set_option maxRecDepth 20000 in
theorem moX12_strong : MOk mX12_strong 1 2 := ⟨tbm 1402 rfl, tbm 13 rfl, by decide +kernel, by decide +kernel, okX12_strong, rfl, ⟨tbm 1401 rfl, tbs 139 rfl⟩⟩
set_option maxRecDepth 20000 in
theorem moX12_factOf : MOk mX12_factOf 1 1 := ⟨tbm 1430 rfl, tbm 13 rfl, by decide +kernel, by decide +kernel, okX12_factOf, rfl, ⟨tbm 1429 rfl, tbs 144 rfl⟩⟩
set_option maxRecDepth 20000 in
theorem moX12_bySet : MOk mX12_bySet 1 1 := ⟨tbm 1382 rfl, tbm 13 rfl, by decide +kernel, by decide +kernel, okX12_bySet, rfl, ⟨tbm 1381 rfl, tbs 134 rfl⟩⟩
set_option maxRecDepth 20000 in
theorem moX12_show : MOk mX12_show 1 1 := ⟨tbm 1394 rfl, tbm 13 rfl, by decide +kernel, by decide +kernel, okX12_show, rfl, ⟨tbm 1393 rfl, tbs 137 rfl⟩⟩
set_option maxRecDepth 20000 in
theorem moX12_isShown : MOk mX12_isShown 1 1 := ⟨tbm 1426 rfl, tbm 13 rfl, by decide +kernel, by decide +kernel, okX12_isShown, rfl, ⟨tbm 1425 rfl, tbs 143 rfl⟩⟩
set_option maxRecDepth 20000 in
theorem moX12_isSet : MOk mX12_isSet 1 1 := ⟨tbm 1374 rfl, tbm 13 rfl, by decide +kernel, by decide +kernel, okX12_isSet, rfl, ⟨tbm 1373 rfl, tbs 132 rfl⟩⟩
set_option maxRecDepth 20000 in
theorem moX12_ask : MOk mX12_ask 1 0 := ⟨tbm 1378 rfl, tbm 13 rfl, by decide +kernel, by decide +kernel, okX12_ask, rfl, ⟨tbm 1377 rfl, tbs 133 rfl⟩⟩
set_option maxRecDepth 20000 in
theorem moX12_byHeard : MOk mX12_byHeard 1 1 := ⟨tbm 1410 rfl, tbm 13 rfl, by decide +kernel, by decide +kernel, okX12_byHeard, rfl, ⟨tbm 1409 rfl, tbs 140 rfl⟩⟩
set_option maxRecDepth 20000 in
theorem moX12_isVerdict : MOk mX12_isVerdict 1 1 := ⟨tbm 1418 rfl, tbm 13 rfl, by decide +kernel, by decide +kernel, okX12_isVerdict, rfl, ⟨tbm 1417 rfl, tbs 141 rfl⟩⟩
set_option maxRecDepth 20000 in
theorem moX12_followsBy : MOk mX12_followsBy 1 3 := ⟨tbm 1422 rfl, tbm 13 rfl, by decide +kernel, by decide +kernel, okX12_followsBy, rfl, ⟨tbm 1421 rfl, tbs 142 rfl⟩⟩
set_option maxRecDepth 20000 in
theorem moX12_firstRule : MOk mX12_firstRule 1 1 := ⟨tbm 1446 rfl, tbm 13 rfl, by decide +kernel, by decide +kernel, okX12_firstRule, rfl, ⟨tbm 1445 rfl, tbs 146 rfl⟩⟩
set_option maxRecDepth 20000 in
theorem moX12_findChain : MOk mX12_findChain 1 2 := ⟨tbm 1442 rfl, tbm 13 rfl, by decide +kernel, by decide +kernel, okX12_findChain, rfl, ⟨tbm 1441 rfl, tbs 145 rfl⟩⟩
set_option maxRecDepth 20000 in
theorem moX12_feesOf : MOk mX12_feesOf 1 1 := ⟨tbm 1466 rfl, tbm 13 rfl, by decide +kernel, by decide +kernel, okX12_feesOf, rfl, ⟨tbm 1465 rfl, tbs 148 rfl⟩⟩
set_option maxRecDepth 20000 in
theorem moX12_tryBent : MOk mX12_tryBent 1 4 := ⟨tbm 1470 rfl, tbm 13 rfl, by decide +kernel, by decide +kernel, okX12_tryBent, rfl, ⟨tbm 1469 rfl, tbs 149 rfl⟩⟩
set_option maxRecDepth 20000 in
theorem moX12_findLeast : MOk mX12_findLeast 1 1 := ⟨tbm 1462 rfl, tbm 13 rfl, by decide +kernel, by decide +kernel, okX12_findLeast, rfl, ⟨tbm 1461 rfl, tbs 147 rfl⟩⟩
set_option maxRecDepth 20000 in
theorem moX12_canMove : MOk mX12_canMove 1 1 := ⟨tbm 1498 rfl, tbm 13 rfl, by decide +kernel, by decide +kernel, okX12_canMove, rfl, ⟨tbm 1497 rfl, tbs 152 rfl⟩⟩
set_option maxRecDepth 20000 in
theorem moX12_takeBack : MOk mX12_takeBack 1 1 := ⟨tbm 1502 rfl, tbm 13 rfl, by decide +kernel, by decide +kernel, okX12_takeBack, rfl, ⟨tbm 1501 rfl, tbs 153 rfl⟩⟩
set_option maxRecDepth 20000 in
theorem moX12_isDay : MOk mX12_isDay 1 4 := ⟨tbm 1490 rfl, tbm 13 rfl, by decide +kernel, by decide +kernel, okX12_isDay, rfl, ⟨tbm 1489 rfl, tbs 150 rfl⟩⟩
set_option maxRecDepth 20000 in
theorem moX12_findBest : MOk mX12_findBest 1 4 := ⟨tbm 1494 rfl, tbm 13 rfl, by decide +kernel, by decide +kernel, okX12_findBest, rfl, ⟨tbm 1493 rfl, tbs 151 rfl⟩⟩
set_option maxRecDepth 20000 in
theorem moX12_rules : MOk mX12_rules 1 0 := ⟨tbm 1534 rfl, tbm 13 rfl, by decide +kernel, by decide +kernel, okX12_rules, rfl, ⟨tbm 1533 rfl, tbs 154 rfl⟩⟩
set_option maxRecDepth 20000 in
theorem moX11_init : MOk mX11_init 2 0 := ⟨tbm 25 rfl, tbm 1 rfl, by decide +kernel, by decide +kernel, okX11_init, rfl, ⟨rfl, tbm 24 rfl, rfl⟩⟩
set_option maxRecDepth 20000 in
theorem moX12_init : MOk mX12_init 2 0 := ⟨tbm 1016 rfl, tbm 13 rfl, by decide +kernel, by decide +kernel, okX12_init, rfl, ⟨rfl, tbm 1015 rfl, rfl⟩⟩
set_option maxRecDepth 20000 in
theorem moX11_witness : MOk mX11_witness 1 4 := ⟨tbm 392 rfl, tbm 1 rfl, by decide +kernel, by decide +kernel, okX11_witness, rfl, ⟨tbm 390 rfl, tbm 391 rfl⟩⟩
set_option maxRecDepth 20000 in
theorem moX12_witness : MOk mX12_witness 1 4 := ⟨tbm 1136 rfl, tbm 13 rfl, by decide +kernel, by decide +kernel, okX12_witness, rfl, ⟨tbm 1134 rfl, tbm 1135 rfl⟩⟩
set_option maxRecDepth 20000 in
theorem moX11_verdict : MOk mX11_verdict 1 3 := ⟨tbm 401 rfl, tbm 1 rfl, by decide +kernel, by decide +kernel, okX11_verdict, rfl, ⟨tbm 399 rfl, tbm 400 rfl⟩⟩
set_option maxRecDepth 20000 in
theorem moX12_verdict : MOk mX12_verdict 1 3 := ⟨tbm 1144 rfl, tbm 13 rfl, by decide +kernel, by decide +kernel, okX12_verdict, rfl, ⟨tbm 1142 rfl, tbm 1143 rfl⟩⟩
set_option maxRecDepth 20000 in
theorem moX11_hour : MOk mX11_hour 1 1 := ⟨tbm 412 rfl, tbm 1 rfl, by decide +kernel, by decide +kernel, okX11_hour, rfl, ⟨tbm 410 rfl, tbm 411 rfl⟩⟩
set_option maxRecDepth 20000 in
theorem moX12_hour : MOk mX12_hour 1 1 := ⟨tbm 1148 rfl, tbm 13 rfl, by decide +kernel, by decide +kernel, okX12_hour, rfl, ⟨tbm 1146 rfl, tbm 1147 rfl⟩⟩
set_option maxRecDepth 20000 in
theorem moX11_strike : MOk mX11_strike 1 2 := ⟨tbm 416 rfl, tbm 1 rfl, by decide +kernel, by decide +kernel, okX11_strike, rfl, ⟨tbm 414 rfl, tbm 415 rfl⟩⟩
set_option maxRecDepth 20000 in
theorem moX12_strike : MOk mX12_strike 1 2 := ⟨tbm 1152 rfl, tbm 13 rfl, by decide +kernel, by decide +kernel, okX12_strike, rfl, ⟨tbm 1150 rfl, tbm 1151 rfl⟩⟩
set_option maxRecDepth 20000 in
theorem moX11_feed : MOk mX11_feed 1 5 := ⟨tbm 424 rfl, tbm 1 rfl, by decide +kernel, by decide +kernel, okX11_feed, rfl, ⟨tbm 422 rfl, tbm 423 rfl⟩⟩
set_option maxRecDepth 20000 in
theorem moX12_feed : MOk mX12_feed 1 5 := ⟨tbm 1160 rfl, tbm 13 rfl, by decide +kernel, by decide +kernel, okX12_feed, rfl, ⟨tbm 1158 rfl, tbm 1159 rfl⟩⟩
set_option maxRecDepth 20000 in
theorem moX11_end : MOk mX11_end 1 1 := ⟨tbm 432 rfl, tbm 1 rfl, by decide +kernel, by decide +kernel, okX11_end, rfl, ⟨tbm 430 rfl, tbm 431 rfl⟩⟩
set_option maxRecDepth 20000 in
theorem moX12_end : MOk mX12_end 1 1 := ⟨tbm 1168 rfl, tbm 13 rfl, by decide +kernel, by decide +kernel, okX12_end, rfl, ⟨tbm 1166 rfl, tbm 1167 rfl⟩⟩
set_option maxRecDepth 20000 in
theorem moX11_text : MOk mX11_text 1 0 := ⟨tbm 436 rfl, tbm 1 rfl, by decide +kernel, by decide +kernel, okX11_text, rfl, ⟨tbm 434 rfl, tbm 435 rfl⟩⟩
set_option maxRecDepth 20000 in
theorem moX12_text : MOk mX12_text 1 0 := ⟨tbm 1172 rfl, tbm 13 rfl, by decide +kernel, by decide +kernel, okX12_text, rfl, ⟨tbm 1170 rfl, tbm 1171 rfl⟩⟩
set_option maxRecDepth 20000 in
theorem moX11_fault : MOk mX11_fault 1 1 := ⟨tbm 615 rfl, tbm 1 rfl, by decide +kernel, by decide +kernel, okX11_fault, rfl, ⟨tbm 613 rfl, tbm 614 rfl⟩⟩
set_option maxRecDepth 20000 in
theorem moX12_fault : MOk mX12_fault 1 1 := ⟨tbm 1293 rfl, tbm 13 rfl, by decide +kernel, by decide +kernel, okX12_fault, rfl, ⟨tbm 1291 rfl, tbm 1292 rfl⟩⟩
set_option maxRecDepth 20000 in
theorem moX11_by : MOk mX11_by 1 1 := ⟨tbm 619 rfl, tbm 1 rfl, by decide +kernel, by decide +kernel, okX11_by, rfl, ⟨tbm 617 rfl, tbm 618 rfl⟩⟩
set_option maxRecDepth 20000 in
theorem moX12_by : MOk mX12_by 1 1 := ⟨tbm 1297 rfl, tbm 13 rfl, by decide +kernel, by decide +kernel, okX12_by, rfl, ⟨tbm 1295 rfl, tbm 1296 rfl⟩⟩
set_option maxRecDepth 20000 in
theorem moX11_of : MOk mX11_of 1 2 := ⟨tbm 623 rfl, tbm 1 rfl, by decide +kernel, by decide +kernel, okX11_of, rfl, ⟨tbm 621 rfl, tbm 622 rfl⟩⟩
set_option maxRecDepth 20000 in
theorem moX12_of : MOk mX12_of 1 2 := ⟨tbm 1301 rfl, tbm 13 rfl, by decide +kernel, by decide +kernel, okX12_of, rfl, ⟨tbm 1299 rfl, tbm 1300 rfl⟩⟩
set_option maxRecDepth 20000 in
theorem moX11_hear : MOk mX11_hear 1 1 := ⟨tbm 686 rfl, tbm 1 rfl, by decide +kernel, by decide +kernel, okX11_hear, rfl, ⟨tbm 684 rfl, tbm 685 rfl⟩⟩
set_option maxRecDepth 20000 in
theorem moX12_hear : MOk mX12_hear 1 1 := ⟨tbm 1358 rfl, tbm 13 rfl, by decide +kernel, by decide +kernel, okX12_hear, rfl, ⟨tbm 1356 rfl, tbm 1357 rfl⟩⟩
set_option maxRecDepth 20000 in
theorem moX11_rise : MOk mX11_rise 1 0 := ⟨tbm 694 rfl, tbm 1 rfl, by decide +kernel, by decide +kernel, okX11_rise, rfl, ⟨tbm 692 rfl, tbm 693 rfl⟩⟩
set_option maxRecDepth 20000 in
theorem moX12_rise : MOk mX12_rise 1 0 := ⟨tbm 1366 rfl, tbm 13 rfl, by decide +kernel, by decide +kernel, okX12_rise, rfl, ⟨tbm 1364 rfl, tbm 1365 rfl⟩⟩
set_option maxRecDepth 20000 in
theorem moX11_shown : MOk mX11_shown 1 2 := ⟨tbm 702 rfl, tbm 1 rfl, by decide +kernel, by decide +kernel, okX11_shown, rfl, ⟨tbm 700 rfl, tbm 701 rfl⟩⟩
set_option maxRecDepth 20000 in
theorem moX12_shown : MOk mX12_shown 1 2 := ⟨tbm 1370 rfl, tbm 13 rfl, by decide +kernel, by decide +kernel, okX12_shown, rfl, ⟨tbm 1368 rfl, tbm 1369 rfl⟩⟩
set_option maxRecDepth 20000 in
theorem moX11_known : MOk mX11_known 1 2 := ⟨tbm 738 rfl, tbm 1 rfl, by decide +kernel, by decide +kernel, okX11_known, rfl, ⟨tbm 736 rfl, tbm 737 rfl⟩⟩
set_option maxRecDepth 20000 in
theorem moX12_known : MOk mX12_known 1 2 := ⟨tbm 1406 rfl, tbm 13 rfl, by decide +kernel, by decide +kernel, okX12_known, rfl, ⟨tbm 1404 rfl, tbm 1405 rfl⟩⟩
set_option maxRecDepth 20000 in
theorem moX11_follows : MOk mX11_follows 1 2 := ⟨tbm 750 rfl, tbm 1 rfl, by decide +kernel, by decide +kernel, okX11_follows, rfl, ⟨tbm 748 rfl, tbm 749 rfl⟩⟩
set_option maxRecDepth 20000 in
theorem moX12_follows : MOk mX12_follows 1 2 := ⟨tbm 1414 rfl, tbm 13 rfl, by decide +kernel, by decide +kernel, okX12_follows, rfl, ⟨tbm 1412 rfl, tbm 1413 rfl⟩⟩
set_option maxRecDepth 20000 in
theorem moX11_appeal : MOk mX11_appeal 1 2 := ⟨tbm 770 rfl, tbm 1 rfl, by decide +kernel, by decide +kernel, okX11_appeal, rfl, ⟨tbm 768 rfl, tbm 769 rfl⟩⟩
set_option maxRecDepth 20000 in
theorem moX12_appeal : MOk mX12_appeal 1 2 := ⟨tbm 1434 rfl, tbm 13 rfl, by decide +kernel, by decide +kernel, okX12_appeal, rfl, ⟨tbm 1432 rfl, tbm 1433 rfl⟩⟩
set_option maxRecDepth 20000 in
theorem moX11_chain : MOk mX11_chain 1 4 := ⟨tbm 774 rfl, tbm 1 rfl, by decide +kernel, by decide +kernel, okX11_chain, rfl, ⟨tbm 772 rfl, tbm 773 rfl⟩⟩
set_option maxRecDepth 20000 in
theorem moX12_chain : MOk mX12_chain 1 4 := ⟨tbm 1438 rfl, tbm 13 rfl, by decide +kernel, by decide +kernel, okX12_chain, rfl, ⟨tbm 1436 rfl, tbm 1437 rfl⟩⟩
set_option maxRecDepth 20000 in
theorem moX11_weakest : MOk mX11_weakest 1 2 := ⟨tbm 805 rfl, tbm 1 rfl, by decide +kernel, by decide +kernel, okX11_weakest, rfl, ⟨tbm 803 rfl, tbm 804 rfl⟩⟩
set_option maxRecDepth 20000 in
theorem moX12_weakest : MOk mX12_weakest 1 2 := ⟨tbm 1450 rfl, tbm 13 rfl, by decide +kernel, by decide +kernel, okX12_weakest, rfl, ⟨tbm 1448 rfl, tbm 1449 rfl⟩⟩
set_option maxRecDepth 20000 in
theorem moX11_defeats : MOk mX11_defeats 1 2 := ⟨tbm 817 rfl, tbm 1 rfl, by decide +kernel, by decide +kernel, okX11_defeats, rfl, ⟨tbm 815 rfl, tbm 816 rfl⟩⟩
set_option maxRecDepth 20000 in
theorem moX12_defeats : MOk mX12_defeats 1 2 := ⟨tbm 1454 rfl, tbm 13 rfl, by decide +kernel, by decide +kernel, okX12_defeats, rfl, ⟨tbm 1452 rfl, tbm 1453 rfl⟩⟩
set_option maxRecDepth 20000 in
theorem moX11_least : MOk mX11_least 1 2 := ⟨tbm 826 rfl, tbm 1 rfl, by decide +kernel, by decide +kernel, okX11_least, rfl, ⟨tbm 824 rfl, tbm 825 rfl⟩⟩
set_option maxRecDepth 20000 in
theorem moX12_least : MOk mX12_least 1 2 := ⟨tbm 1458 rfl, tbm 13 rfl, by decide +kernel, by decide +kernel, okX12_least, rfl, ⟨tbm 1456 rfl, tbm 1457 rfl⟩⟩
set_option maxRecDepth 20000 in
theorem moX11_never : MOk mX11_never 1 0 := ⟨tbm 863 rfl, tbm 1 rfl, by decide +kernel, by decide +kernel, okX11_never, rfl, ⟨tbm 861 rfl, tbm 862 rfl⟩⟩
set_option maxRecDepth 20000 in
theorem moX12_never : MOk mX12_never 1 0 := ⟨tbm 1474 rfl, tbm 13 rfl, by decide +kernel, by decide +kernel, okX12_never, rfl, ⟨tbm 1472 rfl, tbm 1473 rfl⟩⟩
set_option maxRecDepth 20000 in
theorem moX11_together : MOk mX11_together 1 2 := ⟨tbm 871 rfl, tbm 1 rfl, by decide +kernel, by decide +kernel, okX11_together, rfl, ⟨tbm 869 rfl, tbm 870 rfl⟩⟩
set_option maxRecDepth 20000 in
theorem moX12_together : MOk mX12_together 1 2 := ⟨tbm 1478 rfl, tbm 13 rfl, by decide +kernel, by decide +kernel, okX12_together, rfl, ⟨tbm 1476 rfl, tbm 1477 rfl⟩⟩
set_option maxRecDepth 20000 in
theorem moX11_amend : MOk mX11_amend 1 2 := ⟨tbm 875 rfl, tbm 1 rfl, by decide +kernel, by decide +kernel, okX11_amend, rfl, ⟨tbm 873 rfl, tbm 874 rfl⟩⟩
set_option maxRecDepth 20000 in
theorem moX12_amend : MOk mX12_amend 1 2 := ⟨tbm 1482 rfl, tbm 13 rfl, by decide +kernel, by decide +kernel, okX12_amend, rfl, ⟨tbm 1480 rfl, tbm 1481 rfl⟩⟩
set_option maxRecDepth 20000 in
theorem moX11_day : MOk mX11_day 1 4 := ⟨tbm 879 rfl, tbm 1 rfl, by decide +kernel, by decide +kernel, okX11_day, rfl, ⟨tbm 877 rfl, tbm 878 rfl⟩⟩
set_option maxRecDepth 20000 in
theorem moX12_day : MOk mX12_day 1 4 := ⟨tbm 1486 rfl, tbm 13 rfl, by decide +kernel, by decide +kernel, okX12_day, rfl, ⟨tbm 1484 rfl, tbm 1485 rfl⟩⟩
set_option maxRecDepth 20000 in
theorem moX11_best : MOk mX11_best 1 4 := ⟨tbm 935 rfl, tbm 1 rfl, by decide +kernel, by decide +kernel, okX11_best, rfl, ⟨tbm 933 rfl, tbm 934 rfl⟩⟩
set_option maxRecDepth 20000 in
theorem moX12_best : MOk mX12_best 1 4 := ⟨tbm 1506 rfl, tbm 13 rfl, by decide +kernel, by decide +kernel, okX12_best, rfl, ⟨tbm 1504 rfl, tbm 1505 rfl⟩⟩
set_option maxRecDepth 20000 in
theorem moX11_tell : MOk mX11_tell 1 3 := ⟨tbm 943 rfl, tbm 1 rfl, by decide +kernel, by decide +kernel, okX11_tell, rfl, ⟨tbm 941 rfl, tbm 942 rfl⟩⟩
set_option maxRecDepth 20000 in
theorem moX12_tell : MOk mX12_tell 1 3 := ⟨tbm 1510 rfl, tbm 13 rfl, by decide +kernel, by decide +kernel, okX12_tell, rfl, ⟨tbm 1508 rfl, tbm 1509 rfl⟩⟩
set_option maxRecDepth 20000 in
theorem moX11_kinds : MOk mX11_kinds 1 1 := ⟨tbm 951 rfl, tbm 1 rfl, by decide +kernel, by decide +kernel, okX11_kinds, rfl, ⟨tbm 949 rfl, tbm 950 rfl⟩⟩
set_option maxRecDepth 20000 in
theorem moX12_kinds : MOk mX12_kinds 1 1 := ⟨tbm 1514 rfl, tbm 13 rfl, by decide +kernel, by decide +kernel, okX12_kinds, rfl, ⟨tbm 1512 rfl, tbm 1513 rfl⟩⟩
set_option maxRecDepth 20000 in
theorem moX11_draws : MOk mX11_draws 1 3 := ⟨tbm 959 rfl, tbm 1 rfl, by decide +kernel, by decide +kernel, okX11_draws, rfl, ⟨tbm 957 rfl, tbm 958 rfl⟩⟩
set_option maxRecDepth 20000 in
theorem moX12_draws : MOk mX12_draws 1 3 := ⟨tbm 1518 rfl, tbm 13 rfl, by decide +kernel, by decide +kernel, okX12_draws, rfl, ⟨tbm 1516 rfl, tbm 1517 rfl⟩⟩
set_option maxRecDepth 20000 in
theorem moX11_image : MOk mX11_image 1 0 := ⟨tbm 975 rfl, tbm 1 rfl, by decide +kernel, by decide +kernel, okX11_image, rfl, ⟨tbm 973 rfl, tbm 974 rfl⟩⟩
set_option maxRecDepth 20000 in
theorem moX12_image : MOk mX12_image 1 0 := ⟨tbm 1522 rfl, tbm 13 rfl, by decide +kernel, by decide +kernel, okX12_image, rfl, ⟨tbm 1520 rfl, tbm 1521 rfl⟩⟩
set_option maxRecDepth 20000 in
theorem moX11_back : MOk mX11_back 1 0 := ⟨tbm 1003 rfl, tbm 1 rfl, by decide +kernel, by decide +kernel, okX11_back, rfl, ⟨tbm 1001 rfl, tbm 1002 rfl⟩⟩
set_option maxRecDepth 20000 in
theorem moX12_back : MOk mX12_back 1 0 := ⟨tbm 1526 rfl, tbm 13 rfl, by decide +kernel, by decide +kernel, okX12_back, rfl, ⟨tbm 1524 rfl, tbm 1525 rfl⟩⟩
set_option maxRecDepth 20000 in
theorem moX11_about : MOk mX11_about 1 1 := ⟨tbm 1007 rfl, tbm 1 rfl, by decide +kernel, by decide +kernel, okX11_about, rfl, ⟨tbm 1005 rfl, tbm 1006 rfl⟩⟩
set_option maxRecDepth 20000 in
theorem moX12_about : MOk mX12_about 1 1 := ⟨tbm 1530 rfl, tbm 13 rfl, by decide +kernel, by decide +kernel, okX12_about, rfl, ⟨tbm 1528 rfl, tbm 1529 rfl⟩⟩
def fkT (own : Nat) : List (Nat × Nat × Nat) := match own with
  | 0 => [(9, 0, 0), (15, 0, 1), (18, 0, 2), (22, 0, 3)]
  | 1 => [(12, 1, 0), (21, 1, 1), (28, 1, 2), (35, 1, 3), (39, 1, 4), (43, 1, 5), (46, 1, 6)]
  | 2 => [(9, 2, 0), (15, 2, 1), (19, 2, 2), (22, 2, 3), (25, 2, 4), (28, 2, 5), (31, 2, 6)]
  | 3 => [(9, 3, 0), (15, 3, 1), (19, 3, 2), (22, 3, 3)]
  | 4 => [(9, 4, 0)]
  | 5 => [(9, 5, 0), (15, 5, 1), (18, 5, 2), (21, 5, 3), (25, 5, 4), (28, 5, 5), (31, 5, 6), (34, 5, 7), (37, 5, 8), (40, 5, 9), (43, 5, 10), (46, 5, 11), (49, 5, 12), (103, 4, 0)]
  | 6 => [(12, 6, 0), (21, 6, 1), (25, 6, 2), (29, 6, 3), (33, 6, 4), (36, 6, 5), (39, 6, 6), (55, 10, 1), (58, 10, 3), (61, 10, 4), (64, 10, 5), (75, 5, 1)]
  | 7 => [(9, 7, 0), (15, 7, 1), (19, 7, 2), (22, 7, 3)]
  | 8 => [(9, 8, 0), (15, 8, 1), (18, 8, 2), (22, 8, 3), (25, 8, 4), (28, 8, 5)]
  | 9 => [(9, 9, 0), (15, 9, 1), (19, 9, 2), (22, 9, 3)]
  | 10 => [(9, 10, 0), (15, 10, 1), (18, 10, 2), (22, 10, 3), (25, 10, 4), (28, 10, 5)]
  | 11 => [(10, 11, 0), (16, 11, 1), (21, 11, 2), (26, 11, 3), (33, 11, 4), (40, 11, 5), (44, 11, 6), (50, 11, 7), (57, 11, 8), (61, 11, 9), (65, 11, 10), (68, 11, 11), (71, 11, 12), (74, 11, 13), (78, 11, 14), (81, 11, 15), (85, 1, 0), (101, 1, 1), (108, 1, 4), (114, 8, 1), (117, 6, 0), (121, 10, 0), (130, 1, 5), (136, 6, 3), (139, 6, 1), (146, 6, 2), (150, 6, 4), (153, 1, 6), (156, 8, 3), (163, 1, 2), (167, 7, 0), (220, 3, 1), (227, 0, 0), (239, 0, 2), (252, 3, 2), (265, 3, 0), (266, 8, 0), (270, 4, 0), (291, 1, 3), (315, 9, 0), (316, 5, 2), (322, 7, 1), (325, 7, 2), (328, 7, 3), (331, 8, 4), (334, 8, 5), (340, 8, 2), (369, 3, 3), (375, 2, 0), (388, 2, 1), (389, 2, 2)]
  | 12 => [(7, 12, 0), (13, 12, 1), (16, 12, 2), (19, 12, 3), (22, 12, 5), (26, 12, 6), (29, 12, 16), (32, 12, 22), (35, 12, 23), (39, 12, 24), (43, 12, 25), (46, 12, 26), (49, 12, 27), (52, 12, 28), (55, 12, 29), (58, 12, 30), (61, 12, 31), (64, 12, 32), (67, 12, 36), (83, 12, 4), (90, 12, 7), (97, 12, 8), (100, 12, 9), (106, 12, 10), (113, 12, 11), (125, 12, 12), (128, 12, 14), (131, 12, 17), (134, 12, 19), (138, 12, 18), (153, 12, 20), (219, 12, 21), (343, 12, 33), (346, 12, 34), (349, 12, 35)]
  | _ => []
def mkT (own : Nat) : List (Nat × Mth × Nat × Nat) := match own with
  | 0 => [(25, mX5_strengthOf, 1, 2), (31, mX5_reasonOf, 1, 3), (35, mX5_needsOf, 1, 1), (39, mX5_worthOf, 1, 1)]
  | 1 => [(11, mX8_init, 2, 0), (20, mX3_init, 2, 0), (27, mX7_init, 2, 0), (34, mX9_init, 2, 0), (49, mX8_copy, 1, 1), (53, mX3_copy, 1, 1), (56, mX7_copy, 1, 1), (59, mX9_copy, 1, 1)]
  | 2 => [(35, mX2_rowOf, 1, 2), (39, mX2_playHour, 1, 2), (43, mJ6_bitCount_0f7a4, 0, 1), (49, mX2_behindStrike, 1, 3), (53, mX2_aheadOfCall, 1, 2), (56, mJ9_max_7cf53, 0, 2), (61, mX2_feeAt, 1, 2), (64, mJ9_min_7cf53, 0, 2)]
  | 5 => [(58, mX5_has, 1, 1), (62, mX5_valueOf, 1, 2), (66, mJ9_min_7cf53, 0, 2), (72, mJ9_max_7cf53, 0, 2), (75, mX5_named, 0, 2), (80, mX5_turned, 0, 2), (83, mX5_reckoned, 0, 3), (87, mX5_bounded, 0, 1), (95, mJ9_min_f86c9, 0, 2), (98, mJ9_max_f86c9, 0, 2), (100, mX5_isRule, 1, 1), (108, mX5_shownAtAll, 1, 2), (111, mX5_shownBy, 1, 4)]
  | 6 => [(11, mX10_init, 2, 0), (20, mX5_init, 2, 0), (42, mX5_clear, 1, 0), (45, mX10_split, 1, 0), (48, mX6_sort, 1, 0), (52, mX6_clause, 1, 0), (67, mX6_fail, 1, 1), (71, mX5_has, 1, 1), (78, mX5_open, 1, 1), (81, mX6_rule, 1, 0), (84, mX6_sum, 1, 1), (87, mX6_either, 1, 0), (90, mX5_shut, 1, 1), (93, mX6_pass, 1, 1), (96, mX6_number, 1, 2), (100, mX6_factsBehind, 1, 2), (103, mX5_addRule, 1, 5), (107, mX6_value, 1, 0), (109, mX6_ask, 1, 1), (112, mX5_emit, 1, 1), (115, mX6_compares, 0, 1), (118, mX6_one, 1, 1), (121, mX6_isForeign, 1, 1)]
  | 10 => [(31, mX10_behindToken, 1, 1), (35, mJ9_max_7cf53, 0, 2), (41, mX10_sortOf, 1, 2), (46, mX10_isLetter, 0, 1), (50, mX10_wordOf, 1, 2), (53, mX10_isDigit, 0, 1), (56, mX10_numberOf, 1, 2), (59, mX10_isSign, 0, 1), (73, mJ9_min_7cf53, 0, 2)]
  | 11 => [(9, mX1_init, 2, 0), (25, mX5_init, 2, 0), (32, mX6_init, 2, 0), (39, mX4_init, 2, 0), (49, mX0_init, 2, 0), (56, mX2_init, 2, 0), (89, mX8_add, 1, 4), (95, mX11_isFact, 0, 1), (105, mX3_add, 1, 3), (111, mX11_isWitness, 1, 1), (126, mX10_put, 1, 1), (133, mX6_read, 1, 0), (142, mX5_copy, 1, 1), (159, mX11_saysAs, 1, 2), (172, mX11_feeNow, 1, 2), (175, mX11_isStruck, 1, 1), (178, mX7_has, 1, 1), (181, mX7_add, 1, 3), (184, mX7_paid, 1, 0), (188, mX11_isSet, 1, 1), (191, mX11_findSayings, 1, 0), (194, mX11_weigh, 1, 1), (197, mX11_ruling, 1, 0), (200, mX5_strengthOf, 1, 2), (204, mX11_isHeardCount, 1, 1), (207, mX11_weighHeard, 1, 1), (210, mX11_isVerdict, 1, 1), (213, mX11_followsBySet, 1, 2), (217, mX11_carried, 1, 2), (223, mX0_trace, 1, 3), (230, mJ6_bitCount_0f7a4, 0, 1), (236, mX0_factAt, 1, 1), (242, mX0_weakestFact, 1, 1), (246, mX4_copy, 1, 1), (249, mX4_add, 1, 2), (255, mX5_carries, 1, 4), (259, mX11_findFees, 1, 0), (262, mX11_findLeast, 1, 1), (267, mX11_carriedAmong, 1, 1), (272, mX5_shownAtAll, 1, 2), (275, mX5_isBarred, 1, 2), (278, mX11_isDay, 1, 4), (282, mX11_playDay, 1, 3), (285, mX2_isWon, 1, 1), (288, mX2_firstCall, 1, 1), (295, mX9_add, 1, 3), (300, mX9_fit, 1, 2), (303, mX3_chances, 1, 0), (306, mX11_findCosts, 1, 0), (309, mX3_drawnBy, 1, 1), (312, mX1_copy, 1, 1), (319, mX11_aboutHeard, 1, 1), (337, mX11_describe, 1, 1), (343, mX5_spoken, 1, 2), (347, mX5_charged, 1, 1), (351, mX4_clear, 1, 0), (354, mX11_tryLeast, 1, 2), (357, mX11_feesOf, 1, 1), (360, mX11_isLess, 1, 1), (363, mX11_keepLeast, 1, 3), (366, mX5_bendOf, 1, 1), (372, mX11_seatFree, 1, 0), (378, mX2_witnessesOf, 1, 1), (381, mX2_close, 1, 2), (385, mX2_play, 1, 2)]
  | 12 => [(70, mX12_copy, 0, 2), (74, mX12_isIn, 0, 3), (79, mX12_isWitness, 1, 1), (86, mX12_four, 1, 1), (93, mX12_byteAt, 1, 1), (103, mX12_isDigit, 0, 1), (110, mX12_isLetter, 0, 1), (117, mX12_w3, 0, 3), (121, mX12_w5, 0, 5), (141, mX12_emit, 1, 2), (145, mX12_w4, 0, 4), (149, mX12_isStrength, 1, 0), (156, mX12_nextToken, 1, 0), (159, mX12_whole, 1, 0), (162, mX12_nameOf, 1, 0), (166, mX12_isBarred, 1, 1), (169, mX12_push, 1, 1), (172, mX12_hasParen, 1, 0), (175, mX12_settle, 1, 1), (178, mX12_goesOn, 1, 0), (181, mX12_behindOne, 1, 0), (184, mX12_beginOne, 1, 0), (187, mX12_isWord, 1, 1), (191, mX12_summed, 1, 0), (194, mX12_compareOf, 1, 0), (197, mX12_asks, 1, 0), (202, mX12_figure, 1, 3), (208, mX12_facts, 1, 2), (212, mX12_w6, 0, 6), (216, mX12_sortOf, 1, 0), (222, mX12_ruled, 1, 1), (225, mX12_either, 1, 0), (228, mX12_clause, 1, 0), (231, mX12_readText, 1, 0), (238, mX12_clip, 0, 1), (242, mX12_clauseAt, 1, 1), (245, mX12_two, 0, 3), (249, mX12_isAsked, 0, 3), (253, mX12_clauses, 1, 0), (256, mX12_clauseOf, 1, 1), (259, mX12_name, 1, 2), (262, mX12_has, 0, 2), (266, mX12_work, 1, 1), (269, mX12_saidBy, 1, 2), (272, mX12_held, 0, 3), (276, mX12_saysNow, 1, 1), (279, mX12_feeOf, 1, 2), (282, mX12_isHeard, 1, 1), (285, mX12_isStruck, 1, 1), (288, mX12_clear, 1, 0), (291, mX12_adduce, 1, 2), (294, mX12_isRule, 1, 1), (297, mX12_strong, 1, 2), (300, mX12_factOf, 1, 1), (303, mX12_bySet, 1, 1), (306, mX12_show, 1, 1), (309, mX12_isShown, 1, 1), (312, mX12_isSet, 1, 1), (315, mX12_ask, 1, 0), (318, mX12_byHeard, 1, 1), (321, mX12_isVerdict, 1, 1), (324, mX12_followsBy, 1, 3), (327, mX12_firstRule, 1, 1), (330, mX12_findChain, 1, 2), (333, mX12_feesOf, 1, 1), (336, mX12_tryBent, 1, 4), (340, mX12_findLeast, 1, 1), (352, mX12_canMove, 1, 1), (355, mX12_takeBack, 1, 1), (358, mX12_isDay, 1, 4), (362, mX12_findBest, 1, 4), (366, mX12_rules, 1, 0)]
  | 13 => [(9, mX11_init, 2, 0), (12, mX12_init, 2, 0), (13, mX11_witness, 1, 4), (17, mX12_witness, 1, 4), (18, mX11_verdict, 1, 3), (22, mX12_verdict, 1, 3), (23, mX11_hour, 1, 1), (27, mX12_hour, 1, 1), (28, mX11_strike, 1, 2), (32, mX12_strike, 1, 2), (33, mX11_feed, 1, 5), (37, mX12_feed, 1, 5), (38, mX11_end, 1, 1), (42, mX12_end, 1, 1), (43, mX11_text, 1, 0), (47, mX12_text, 1, 0), (48, mX11_fault, 1, 1), (51, mX12_fault, 1, 1), (52, mX11_by, 1, 1), (55, mX12_by, 1, 1), (56, mX11_of, 1, 2), (60, mX12_of, 1, 2), (61, mX11_hear, 1, 1), (64, mX12_hear, 1, 1), (65, mX11_rise, 1, 0), (68, mX12_rise, 1, 0), (69, mX11_shown, 1, 2), (72, mX12_shown, 1, 2), (73, mX11_known, 1, 2), (76, mX12_known, 1, 2), (77, mX11_follows, 1, 2), (80, mX12_follows, 1, 2), (81, mX11_appeal, 1, 2), (84, mX12_appeal, 1, 2), (85, mX11_chain, 1, 4), (88, mX12_chain, 1, 4), (89, mX11_weakest, 1, 2), (92, mX12_weakest, 1, 2), (93, mX11_defeats, 1, 2), (96, mX12_defeats, 1, 2), (97, mX11_least, 1, 2), (100, mX12_least, 1, 2), (101, mX11_never, 1, 0), (104, mX12_never, 1, 0), (105, mX11_together, 1, 2), (109, mX12_together, 1, 2), (110, mX11_amend, 1, 2), (113, mX12_amend, 1, 2), (114, mX11_day, 1, 4), (117, mX12_day, 1, 4), (118, mX11_best, 1, 4), (121, mX12_best, 1, 4), (122, mX11_tell, 1, 3), (126, mX12_tell, 1, 3), (127, mX11_kinds, 1, 1), (130, mX12_kinds, 1, 1), (131, mX11_draws, 1, 3), (134, mX12_draws, 1, 3), (135, mX11_image, 1, 0), (138, mX12_image, 1, 0), (139, mX11_back, 1, 0), (142, mX12_back, 1, 0), (143, mX11_about, 1, 1), (146, mX12_about, 1, 1)]
  | _ => []
def nkT (own : Nat) : List (Nat × Nat) := match own with
  | 1 => [(9, 8), (18, 3), (25, 7), (32, 9)]
  | 6 => [(9, 10), (18, 5)]
  | 11 => [(7, 1), (19, 5), (30, 6), (37, 4), (47, 0), (54, 2)]
  | 13 => [(7, 11), (10, 12)]
  | _ => []
def kiT (own : Nat) : List (Nat × Int32) := match own with
  | 2 => [(34, 1000000)]
  | 11 => [(84, 65535)]
  | 12 => [(78, 65535), (109, 100000)]
  | 14 => [(265, 1431655765), (266, 858993459), (267, 252645135)]
  | _ => []
def klT (own : Nat) : List (Nat × Int64) := match own with
  | 5 => [(91, -1000000), (93, 1000000)]
  | 12 => [(200, 28530), (206, 25209), (234, 1000000), (236, -1000000)]
  | _ => []
def flk (own idx : Nat) : Option (Nat × Nat) := lk2 (fkT own) idx
def mlk (own idx : Nat) : Option (Mth × Nat × Nat) := lk2 (mkT own) idx
def nlk (own idx : Nat) : Option Nat := lk2 (nkT own) idx
def kil (own idx : Nat) : Option Int32 := lk2 (kiT own) idx
def kll (own idx : Nat) : Option Int64 := lk2 (klT own) idx
set_option maxRecDepth 20000 in
theorem fk_0 : ∀ q ∈ fkT 0, FL 0 q.1 q.2.1 q.2.2 := List.forall_mem_cons.mpr ⟨⟨RX0, TX0, 4, rfl, by decide, Or.inl (tbm 294 rfl)⟩, List.forall_mem_cons.mpr ⟨⟨RX0, TX0, 4, rfl, by decide, Or.inl (tbm 296 rfl)⟩, List.forall_mem_cons.mpr ⟨⟨RX0, TX0, 4, rfl, by decide, Or.inl (tbm 297 rfl)⟩, List.forall_mem_cons.mpr ⟨⟨RX0, TX0, 4, rfl, by decide, Or.inl (tbm 299 rfl)⟩, fun _ h => absurd h List.not_mem_nil⟩⟩⟩⟩
set_option maxRecDepth 20000 in
theorem fk_1 : ∀ q ∈ fkT 1, FL 1 q.1 q.2.1 q.2.2 := List.forall_mem_cons.mpr ⟨⟨RX1, TX1, 7, rfl, by decide, Or.inl (tbm 133 rfl)⟩, List.forall_mem_cons.mpr ⟨⟨RX1, TX1, 7, rfl, by decide, Or.inl (tbm 135 rfl)⟩, List.forall_mem_cons.mpr ⟨⟨RX1, TX1, 7, rfl, by decide, Or.inl (tbm 137 rfl)⟩, List.forall_mem_cons.mpr ⟨⟨RX1, TX1, 7, rfl, by decide, Or.inl (tbm 139 rfl)⟩, List.forall_mem_cons.mpr ⟨⟨RX1, TX1, 7, rfl, by decide, Or.inl (tbm 141 rfl)⟩, List.forall_mem_cons.mpr ⟨⟨RX1, TX1, 7, rfl, by decide, Or.inl (tbm 143 rfl)⟩, List.forall_mem_cons.mpr ⟨⟨RX1, TX1, 7, rfl, by decide, Or.inl (tbm 145 rfl)⟩, fun _ h => absurd h List.not_mem_nil⟩⟩⟩⟩⟩⟩⟩
set_option maxRecDepth 20000 in
theorem fk_2 : ∀ q ∈ fkT 2, FL 2 q.1 q.2.1 q.2.2 := List.forall_mem_cons.mpr ⟨⟨RX2, TX2, 7, rfl, by decide, Or.inl (tbm 315 rfl)⟩, List.forall_mem_cons.mpr ⟨⟨RX2, TX2, 7, rfl, by decide, Or.inl (tbm 317 rfl)⟩, List.forall_mem_cons.mpr ⟨⟨RX2, TX2, 7, rfl, by decide, Or.inl (tbm 319 rfl)⟩, List.forall_mem_cons.mpr ⟨⟨RX2, TX2, 7, rfl, by decide, Or.inl (tbm 321 rfl)⟩, List.forall_mem_cons.mpr ⟨⟨RX2, TX2, 7, rfl, by decide, Or.inl (tbm 322 rfl)⟩, List.forall_mem_cons.mpr ⟨⟨RX2, TX2, 7, rfl, by decide, Or.inl (tbm 323 rfl)⟩, List.forall_mem_cons.mpr ⟨⟨RX2, TX2, 7, rfl, by decide, Or.inl (tbm 324 rfl)⟩, fun _ h => absurd h List.not_mem_nil⟩⟩⟩⟩⟩⟩⟩
set_option maxRecDepth 20000 in
theorem fk_3 : ∀ q ∈ fkT 3, FL 3 q.1 q.2.1 q.2.2 := List.forall_mem_cons.mpr ⟨⟨RX3, TX3, 4, rfl, by decide, Or.inl (tbm 73 rfl)⟩, List.forall_mem_cons.mpr ⟨⟨RX3, TX3, 4, rfl, by decide, Or.inl (tbm 75 rfl)⟩, List.forall_mem_cons.mpr ⟨⟨RX3, TX3, 4, rfl, by decide, Or.inl (tbm 77 rfl)⟩, List.forall_mem_cons.mpr ⟨⟨RX3, TX3, 4, rfl, by decide, Or.inl (tbm 79 rfl)⟩, fun _ h => absurd h List.not_mem_nil⟩⟩⟩⟩
set_option maxRecDepth 20000 in
theorem fk_4 : ∀ q ∈ fkT 4, FL 4 q.1 q.2.1 q.2.2 := List.forall_mem_cons.mpr ⟨⟨RX4, TX4, 1, rfl, by decide, Or.inl (tbm 282 rfl)⟩, fun _ h => absurd h List.not_mem_nil⟩
set_option maxRecDepth 20000 in
theorem fk_5 : ∀ q ∈ fkT 5, FL 5 q.1 q.2.1 q.2.2 := List.forall_mem_cons.mpr ⟨⟨RX5, TX5, 13, rfl, by decide, Or.inl (tbm 169 rfl)⟩, List.forall_mem_cons.mpr ⟨⟨RX5, TX5, 13, rfl, by decide, Or.inl (tbm 170 rfl)⟩, List.forall_mem_cons.mpr ⟨⟨RX5, TX5, 13, rfl, by decide, Or.inl (tbm 172 rfl)⟩, List.forall_mem_cons.mpr ⟨⟨RX5, TX5, 13, rfl, by decide, Or.inl (tbm 174 rfl)⟩, List.forall_mem_cons.mpr ⟨⟨RX5, TX5, 13, rfl, by decide, Or.inl (tbm 175 rfl)⟩, List.forall_mem_cons.mpr ⟨⟨RX5, TX5, 13, rfl, by decide, Or.inl (tbm 176 rfl)⟩, List.forall_mem_cons.mpr ⟨⟨RX5, TX5, 13, rfl, by decide, Or.inl (tbm 177 rfl)⟩, List.forall_mem_cons.mpr ⟨⟨RX5, TX5, 13, rfl, by decide, Or.inl (tbm 178 rfl)⟩, List.forall_mem_cons.mpr ⟨⟨RX5, TX5, 13, rfl, by decide, Or.inl (tbm 179 rfl)⟩, List.forall_mem_cons.mpr ⟨⟨RX5, TX5, 13, rfl, by decide, Or.inl (tbm 180 rfl)⟩, List.forall_mem_cons.mpr ⟨⟨RX5, TX5, 13, rfl, by decide, Or.inl (tbm 181 rfl)⟩, List.forall_mem_cons.mpr ⟨⟨RX5, TX5, 13, rfl, by decide, Or.inl (tbm 182 rfl)⟩, List.forall_mem_cons.mpr ⟨⟨RX5, TX5, 13, rfl, by decide, Or.inl (tbm 183 rfl)⟩, List.forall_mem_cons.mpr ⟨⟨RX4, TX4, 1, rfl, by decide, Or.inr ⟨_, tbm 283 rfl⟩⟩, fun _ h => absurd h List.not_mem_nil⟩⟩⟩⟩⟩⟩⟩⟩⟩⟩⟩⟩⟩⟩
set_option maxRecDepth 20000 in
theorem fk_6 : ∀ q ∈ fkT 6, FL 6 q.1 q.2.1 q.2.2 := List.forall_mem_cons.mpr ⟨⟨RX6, TX6, 7, rfl, by decide, Or.inl (tbm 249 rfl)⟩, List.forall_mem_cons.mpr ⟨⟨RX6, TX6, 7, rfl, by decide, Or.inl (tbm 251 rfl)⟩, List.forall_mem_cons.mpr ⟨⟨RX6, TX6, 7, rfl, by decide, Or.inl (tbm 253 rfl)⟩, List.forall_mem_cons.mpr ⟨⟨RX6, TX6, 7, rfl, by decide, Or.inl (tbm 255 rfl)⟩, List.forall_mem_cons.mpr ⟨⟨RX6, TX6, 7, rfl, by decide, Or.inl (tbm 257 rfl)⟩, List.forall_mem_cons.mpr ⟨⟨RX6, TX6, 7, rfl, by decide, Or.inl (tbm 259 rfl)⟩, List.forall_mem_cons.mpr ⟨⟨RX6, TX6, 7, rfl, by decide, Or.inl (tbm 260 rfl)⟩, List.forall_mem_cons.mpr ⟨⟨RX10, TX10, 6, rfl, by decide, Or.inr ⟨_, tbm 226 rfl⟩⟩, List.forall_mem_cons.mpr ⟨⟨RX10, TX10, 6, rfl, by decide, Or.inr ⟨_, tbm 229 rfl⟩⟩, List.forall_mem_cons.mpr ⟨⟨RX10, TX10, 6, rfl, by decide, Or.inr ⟨_, tbm 231 rfl⟩⟩, List.forall_mem_cons.mpr ⟨⟨RX10, TX10, 6, rfl, by decide, Or.inr ⟨_, tbm 233 rfl⟩⟩, List.forall_mem_cons.mpr ⟨⟨RX5, TX5, 13, rfl, by decide, Or.inr ⟨_, tbm 171 rfl⟩⟩, fun _ h => absurd h List.not_mem_nil⟩⟩⟩⟩⟩⟩⟩⟩⟩⟩⟩⟩
set_option maxRecDepth 20000 in
theorem fk_7 : ∀ q ∈ fkT 7, FL 7 q.1 q.2.1 q.2.2 := List.forall_mem_cons.mpr ⟨⟨RX7, TX7, 4, rfl, by decide, Or.inl (tbm 96 rfl)⟩, List.forall_mem_cons.mpr ⟨⟨RX7, TX7, 4, rfl, by decide, Or.inl (tbm 98 rfl)⟩, List.forall_mem_cons.mpr ⟨⟨RX7, TX7, 4, rfl, by decide, Or.inl (tbm 100 rfl)⟩, List.forall_mem_cons.mpr ⟨⟨RX7, TX7, 4, rfl, by decide, Or.inl (tbm 102 rfl)⟩, fun _ h => absurd h List.not_mem_nil⟩⟩⟩⟩
set_option maxRecDepth 20000 in
theorem fk_8 : ∀ q ∈ fkT 8, FL 8 q.1 q.2.1 q.2.2 := List.forall_mem_cons.mpr ⟨⟨RX8, TX8, 6, rfl, by decide, Or.inl (tbm 41 rfl)⟩, List.forall_mem_cons.mpr ⟨⟨RX8, TX8, 6, rfl, by decide, Or.inl (tbm 43 rfl)⟩, List.forall_mem_cons.mpr ⟨⟨RX8, TX8, 6, rfl, by decide, Or.inl (tbm 45 rfl)⟩, List.forall_mem_cons.mpr ⟨⟨RX8, TX8, 6, rfl, by decide, Or.inl (tbm 47 rfl)⟩, List.forall_mem_cons.mpr ⟨⟨RX8, TX8, 6, rfl, by decide, Or.inl (tbm 49 rfl)⟩, List.forall_mem_cons.mpr ⟨⟨RX8, TX8, 6, rfl, by decide, Or.inl (tbm 51 rfl)⟩, fun _ h => absurd h List.not_mem_nil⟩⟩⟩⟩⟩⟩
set_option maxRecDepth 20000 in
theorem fk_9 : ∀ q ∈ fkT 9, FL 9 q.1 q.2.1 q.2.2 := List.forall_mem_cons.mpr ⟨⟨RX9, TX9, 4, rfl, by decide, Or.inl (tbm 119 rfl)⟩, List.forall_mem_cons.mpr ⟨⟨RX9, TX9, 4, rfl, by decide, Or.inl (tbm 121 rfl)⟩, List.forall_mem_cons.mpr ⟨⟨RX9, TX9, 4, rfl, by decide, Or.inl (tbm 122 rfl)⟩, List.forall_mem_cons.mpr ⟨⟨RX9, TX9, 4, rfl, by decide, Or.inl (tbm 123 rfl)⟩, fun _ h => absurd h List.not_mem_nil⟩⟩⟩⟩
set_option maxRecDepth 20000 in
theorem fk_10 : ∀ q ∈ fkT 10, FL 10 q.1 q.2.1 q.2.2 := List.forall_mem_cons.mpr ⟨⟨RX10, TX10, 6, rfl, by decide, Or.inl (tbm 223 rfl)⟩, List.forall_mem_cons.mpr ⟨⟨RX10, TX10, 6, rfl, by decide, Or.inl (tbm 225 rfl)⟩, List.forall_mem_cons.mpr ⟨⟨RX10, TX10, 6, rfl, by decide, Or.inl (tbm 227 rfl)⟩, List.forall_mem_cons.mpr ⟨⟨RX10, TX10, 6, rfl, by decide, Or.inl (tbm 228 rfl)⟩, List.forall_mem_cons.mpr ⟨⟨RX10, TX10, 6, rfl, by decide, Or.inl (tbm 230 rfl)⟩, List.forall_mem_cons.mpr ⟨⟨RX10, TX10, 6, rfl, by decide, Or.inl (tbm 232 rfl)⟩, fun _ h => absurd h List.not_mem_nil⟩⟩⟩⟩⟩⟩
set_option maxRecDepth 20000 in
theorem fk_11 : ∀ q ∈ fkT 11, FL 11 q.1 q.2.1 q.2.2 := List.forall_mem_cons.mpr ⟨⟨RX11, TX11, 16, rfl, by decide, Or.inl (tbm 340 rfl)⟩, List.forall_mem_cons.mpr ⟨⟨RX11, TX11, 16, rfl, by decide, Or.inl (tbm 341 rfl)⟩, List.forall_mem_cons.mpr ⟨⟨RX11, TX11, 16, rfl, by decide, Or.inl (tbm 342 rfl)⟩, List.forall_mem_cons.mpr ⟨⟨RX11, TX11, 16, rfl, by decide, Or.inl (tbm 343 rfl)⟩, List.forall_mem_cons.mpr ⟨⟨RX11, TX11, 16, rfl, by decide, Or.inl (tbm 344 rfl)⟩, List.forall_mem_cons.mpr ⟨⟨RX11, TX11, 16, rfl, by decide, Or.inl (tbm 345 rfl)⟩, List.forall_mem_cons.mpr ⟨⟨RX11, TX11, 16, rfl, by decide, Or.inl (tbm 346 rfl)⟩, List.forall_mem_cons.mpr ⟨⟨RX11, TX11, 16, rfl, by decide, Or.inl (tbm 347 rfl)⟩, List.forall_mem_cons.mpr ⟨⟨RX11, TX11, 16, rfl, by decide, Or.inl (tbm 348 rfl)⟩, List.forall_mem_cons.mpr ⟨⟨RX11, TX11, 16, rfl, by decide, Or.inl (tbm 349 rfl)⟩, List.forall_mem_cons.mpr ⟨⟨RX11, TX11, 16, rfl, by decide, Or.inl (tbm 350 rfl)⟩, List.forall_mem_cons.mpr ⟨⟨RX11, TX11, 16, rfl, by decide, Or.inl (tbm 351 rfl)⟩, List.forall_mem_cons.mpr ⟨⟨RX11, TX11, 16, rfl, by decide, Or.inl (tbm 352 rfl)⟩, List.forall_mem_cons.mpr ⟨⟨RX11, TX11, 16, rfl, by decide, Or.inl (tbm 353 rfl)⟩, List.forall_mem_cons.mpr ⟨⟨RX11, TX11, 16, rfl, by decide, Or.inl (tbm 354 rfl)⟩, List.forall_mem_cons.mpr ⟨⟨RX11, TX11, 16, rfl, by decide, Or.inl (tbm 355 rfl)⟩, List.forall_mem_cons.mpr ⟨⟨RX1, TX1, 7, rfl, by decide, Or.inr ⟨_, tbm 134 rfl⟩⟩, List.forall_mem_cons.mpr ⟨⟨RX1, TX1, 7, rfl, by decide, Or.inr ⟨_, tbm 136 rfl⟩⟩, List.forall_mem_cons.mpr ⟨⟨RX1, TX1, 7, rfl, by decide, Or.inr ⟨_, tbm 142 rfl⟩⟩, List.forall_mem_cons.mpr ⟨⟨RX8, TX8, 6, rfl, by decide, Or.inr ⟨_, tbm 44 rfl⟩⟩, List.forall_mem_cons.mpr ⟨⟨RX6, TX6, 7, rfl, by decide, Or.inr ⟨_, tbm 250 rfl⟩⟩, List.forall_mem_cons.mpr ⟨⟨RX10, TX10, 6, rfl, by decide, Or.inr ⟨_, tbm 224 rfl⟩⟩, List.forall_mem_cons.mpr ⟨⟨RX1, TX1, 7, rfl, by decide, Or.inr ⟨_, tbm 144 rfl⟩⟩, List.forall_mem_cons.mpr ⟨⟨RX6, TX6, 7, rfl, by decide, Or.inr ⟨_, tbm 256 rfl⟩⟩, List.forall_mem_cons.mpr ⟨⟨RX6, TX6, 7, rfl, by decide, Or.inr ⟨_, tbm 252 rfl⟩⟩, List.forall_mem_cons.mpr ⟨⟨RX6, TX6, 7, rfl, by decide, Or.inr ⟨_, tbm 254 rfl⟩⟩, List.forall_mem_cons.mpr ⟨⟨RX6, TX6, 7, rfl, by decide, Or.inr ⟨_, tbm 258 rfl⟩⟩, List.forall_mem_cons.mpr ⟨⟨RX1, TX1, 7, rfl, by decide, Or.inr ⟨_, tbm 146 rfl⟩⟩, List.forall_mem_cons.mpr ⟨⟨RX8, TX8, 6, rfl, by decide, Or.inr ⟨_, tbm 48 rfl⟩⟩, List.forall_mem_cons.mpr ⟨⟨RX1, TX1, 7, rfl, by decide, Or.inr ⟨_, tbm 138 rfl⟩⟩, List.forall_mem_cons.mpr ⟨⟨RX7, TX7, 4, rfl, by decide, Or.inr ⟨_, tbm 97 rfl⟩⟩, List.forall_mem_cons.mpr ⟨⟨RX3, TX3, 4, rfl, by decide, Or.inr ⟨_, tbm 76 rfl⟩⟩, List.forall_mem_cons.mpr ⟨⟨RX0, TX0, 4, rfl, by decide, Or.inr ⟨_, tbm 295 rfl⟩⟩, List.forall_mem_cons.mpr ⟨⟨RX0, TX0, 4, rfl, by decide, Or.inr ⟨_, tbm 298 rfl⟩⟩, List.forall_mem_cons.mpr ⟨⟨RX3, TX3, 4, rfl, by decide, Or.inr ⟨_, tbm 78 rfl⟩⟩, List.forall_mem_cons.mpr ⟨⟨RX3, TX3, 4, rfl, by decide, Or.inr ⟨_, tbm 74 rfl⟩⟩, List.forall_mem_cons.mpr ⟨⟨RX8, TX8, 6, rfl, by decide, Or.inr ⟨_, tbm 42 rfl⟩⟩, List.forall_mem_cons.mpr ⟨⟨RX4, TX4, 1, rfl, by decide, Or.inr ⟨_, tbm 284 rfl⟩⟩, List.forall_mem_cons.mpr ⟨⟨RX1, TX1, 7, rfl, by decide, Or.inr ⟨_, tbm 140 rfl⟩⟩, List.forall_mem_cons.mpr ⟨⟨RX9, TX9, 4, rfl, by decide, Or.inr ⟨_, tbm 120 rfl⟩⟩, List.forall_mem_cons.mpr ⟨⟨RX5, TX5, 13, rfl, by decide, Or.inr ⟨_, tbm 173 rfl⟩⟩, List.forall_mem_cons.mpr ⟨⟨RX7, TX7, 4, rfl, by decide, Or.inr ⟨_, tbm 99 rfl⟩⟩, List.forall_mem_cons.mpr ⟨⟨RX7, TX7, 4, rfl, by decide, Or.inr ⟨_, tbm 101 rfl⟩⟩, List.forall_mem_cons.mpr ⟨⟨RX7, TX7, 4, rfl, by decide, Or.inr ⟨_, tbm 103 rfl⟩⟩, List.forall_mem_cons.mpr ⟨⟨RX8, TX8, 6, rfl, by decide, Or.inr ⟨_, tbm 50 rfl⟩⟩, List.forall_mem_cons.mpr ⟨⟨RX8, TX8, 6, rfl, by decide, Or.inr ⟨_, tbm 52 rfl⟩⟩, List.forall_mem_cons.mpr ⟨⟨RX8, TX8, 6, rfl, by decide, Or.inr ⟨_, tbm 46 rfl⟩⟩, List.forall_mem_cons.mpr ⟨⟨RX3, TX3, 4, rfl, by decide, Or.inr ⟨_, tbm 80 rfl⟩⟩, List.forall_mem_cons.mpr ⟨⟨RX2, TX2, 7, rfl, by decide, Or.inr ⟨_, tbm 316 rfl⟩⟩, List.forall_mem_cons.mpr ⟨⟨RX2, TX2, 7, rfl, by decide, Or.inr ⟨_, tbm 318 rfl⟩⟩, List.forall_mem_cons.mpr ⟨⟨RX2, TX2, 7, rfl, by decide, Or.inr ⟨_, tbm 320 rfl⟩⟩, fun _ h => absurd h List.not_mem_nil⟩⟩⟩⟩⟩⟩⟩⟩⟩⟩⟩⟩⟩⟩⟩⟩⟩⟩⟩⟩⟩⟩⟩⟩⟩⟩⟩⟩⟩⟩⟩⟩⟩⟩⟩⟩⟩⟩⟩⟩⟩⟩⟩⟩⟩⟩⟩⟩⟩⟩⟩
set_option maxRecDepth 20000 in
theorem fk_12 : ∀ q ∈ fkT 12, FL 12 q.1 q.2.1 q.2.2 := List.forall_mem_cons.mpr ⟨⟨RX12, TX12, 37, rfl, by decide, Or.inl (tbm 1021 rfl)⟩, List.forall_mem_cons.mpr ⟨⟨RX12, TX12, 37, rfl, by decide, Or.inl (tbm 1022 rfl)⟩, List.forall_mem_cons.mpr ⟨⟨RX12, TX12, 37, rfl, by decide, Or.inl (tbm 1023 rfl)⟩, List.forall_mem_cons.mpr ⟨⟨RX12, TX12, 37, rfl, by decide, Or.inl (tbm 1024 rfl)⟩, List.forall_mem_cons.mpr ⟨⟨RX12, TX12, 37, rfl, by decide, Or.inl (tbm 1026 rfl)⟩, List.forall_mem_cons.mpr ⟨⟨RX12, TX12, 37, rfl, by decide, Or.inl (tbm 1027 rfl)⟩, List.forall_mem_cons.mpr ⟨⟨RX12, TX12, 37, rfl, by decide, Or.inl (tbm 1035 rfl)⟩, List.forall_mem_cons.mpr ⟨⟨RX12, TX12, 37, rfl, by decide, Or.inl (tbm 1041 rfl)⟩, List.forall_mem_cons.mpr ⟨⟨RX12, TX12, 37, rfl, by decide, Or.inl (tbm 1042 rfl)⟩, List.forall_mem_cons.mpr ⟨⟨RX12, TX12, 37, rfl, by decide, Or.inl (tbm 1043 rfl)⟩, List.forall_mem_cons.mpr ⟨⟨RX12, TX12, 37, rfl, by decide, Or.inl (tbm 1044 rfl)⟩, List.forall_mem_cons.mpr ⟨⟨RX12, TX12, 37, rfl, by decide, Or.inl (tbm 1045 rfl)⟩, List.forall_mem_cons.mpr ⟨⟨RX12, TX12, 37, rfl, by decide, Or.inl (tbm 1046 rfl)⟩, List.forall_mem_cons.mpr ⟨⟨RX12, TX12, 37, rfl, by decide, Or.inl (tbm 1047 rfl)⟩, List.forall_mem_cons.mpr ⟨⟨RX12, TX12, 37, rfl, by decide, Or.inl (tbm 1048 rfl)⟩, List.forall_mem_cons.mpr ⟨⟨RX12, TX12, 37, rfl, by decide, Or.inl (tbm 1049 rfl)⟩, List.forall_mem_cons.mpr ⟨⟨RX12, TX12, 37, rfl, by decide, Or.inl (tbm 1050 rfl)⟩, List.forall_mem_cons.mpr ⟨⟨RX12, TX12, 37, rfl, by decide, Or.inl (tbm 1051 rfl)⟩, List.forall_mem_cons.mpr ⟨⟨RX12, TX12, 37, rfl, by decide, Or.inl (tbm 1055 rfl)⟩, List.forall_mem_cons.mpr ⟨⟨RX12, TX12, 37, rfl, by decide, Or.inl (tbm 1025 rfl)⟩, List.forall_mem_cons.mpr ⟨⟨RX12, TX12, 37, rfl, by decide, Or.inl (tbm 1028 rfl)⟩, List.forall_mem_cons.mpr ⟨⟨RX12, TX12, 37, rfl, by decide, Or.inl (tbm 1029 rfl)⟩, List.forall_mem_cons.mpr ⟨⟨RX12, TX12, 37, rfl, by decide, Or.inl (tbm 1030 rfl)⟩, List.forall_mem_cons.mpr ⟨⟨RX12, TX12, 37, rfl, by decide, Or.inl (tbm 1031 rfl)⟩, List.forall_mem_cons.mpr ⟨⟨RX12, TX12, 37, rfl, by decide, Or.inl (tbm 1032 rfl)⟩, List.forall_mem_cons.mpr ⟨⟨RX12, TX12, 37, rfl, by decide, Or.inl (tbm 1033 rfl)⟩, List.forall_mem_cons.mpr ⟨⟨RX12, TX12, 37, rfl, by decide, Or.inl (tbm 1034 rfl)⟩, List.forall_mem_cons.mpr ⟨⟨RX12, TX12, 37, rfl, by decide, Or.inl (tbm 1036 rfl)⟩, List.forall_mem_cons.mpr ⟨⟨RX12, TX12, 37, rfl, by decide, Or.inl (tbm 1038 rfl)⟩, List.forall_mem_cons.mpr ⟨⟨RX12, TX12, 37, rfl, by decide, Or.inl (tbm 1037 rfl)⟩, List.forall_mem_cons.mpr ⟨⟨RX12, TX12, 37, rfl, by decide, Or.inl (tbm 1039 rfl)⟩, List.forall_mem_cons.mpr ⟨⟨RX12, TX12, 37, rfl, by decide, Or.inl (tbm 1040 rfl)⟩, List.forall_mem_cons.mpr ⟨⟨RX12, TX12, 37, rfl, by decide, Or.inl (tbm 1052 rfl)⟩, List.forall_mem_cons.mpr ⟨⟨RX12, TX12, 37, rfl, by decide, Or.inl (tbm 1053 rfl)⟩, List.forall_mem_cons.mpr ⟨⟨RX12, TX12, 37, rfl, by decide, Or.inl (tbm 1054 rfl)⟩, fun _ h => absurd h List.not_mem_nil⟩⟩⟩⟩⟩⟩⟩⟩⟩⟩⟩⟩⟩⟩⟩⟩⟩⟩⟩⟩⟩⟩⟩⟩⟩⟩⟩⟩⟩⟩⟩⟩⟩⟩⟩
theorem fk_all : ∀ own : Nat, ∀ q ∈ fkT own, FL own q.1 q.2.1 q.2.2 := by
  intro own
  match own with
  | 0 => exact fk_0
  | 1 => exact fk_1
  | 2 => exact fk_2
  | 3 => exact fk_3
  | 4 => exact fk_4
  | 5 => exact fk_5
  | 6 => exact fk_6
  | 7 => exact fk_7
  | 8 => exact fk_8
  | 9 => exact fk_9
  | 10 => exact fk_10
  | 11 => exact fk_11
  | 12 => exact fk_12
  | 13 => intro _ h; exact absurd h List.not_mem_nil 
  | 14 => intro _ h; exact absurd h List.not_mem_nil 
  | 15 => intro _ h; exact absurd h List.not_mem_nil 
  | n + 16 => intro _ h; exact absurd h List.not_mem_nil 
set_option maxRecDepth 20000 in
theorem mk_0 : ∀ q ∈ mkT 0, ML 0 q.1 q.2 := List.forall_mem_cons.mpr ⟨⟨Or.inr ⟨_, tbm 779 rfl⟩, moX5_strengthOf⟩, List.forall_mem_cons.mpr ⟨⟨Or.inr ⟨_, tbm 780 rfl⟩, moX5_reasonOf⟩, List.forall_mem_cons.mpr ⟨⟨Or.inr ⟨_, tbm 784 rfl⟩, moX5_needsOf⟩, List.forall_mem_cons.mpr ⟨⟨Or.inr ⟨_, tbm 810 rfl⟩, moX5_worthOf⟩, fun _ h => absurd h List.not_mem_nil⟩⟩⟩⟩
set_option maxRecDepth 20000 in
theorem mk_1 : ∀ q ∈ mkT 1, ML 1 q.1 q.2 := List.forall_mem_cons.mpr ⟨⟨Or.inr ⟨_, tbm 37 rfl⟩, moX8_init⟩, List.forall_mem_cons.mpr ⟨⟨Or.inr ⟨_, tbm 69 rfl⟩, moX3_init⟩, List.forall_mem_cons.mpr ⟨⟨Or.inr ⟨_, tbm 92 rfl⟩, moX7_init⟩, List.forall_mem_cons.mpr ⟨⟨Or.inr ⟨_, tbm 115 rfl⟩, moX9_init⟩, List.forall_mem_cons.mpr ⟨⟨Or.inr ⟨_, tbm 980 rfl⟩, moX8_copy⟩, List.forall_mem_cons.mpr ⟨⟨Or.inr ⟨_, tbm 985 rfl⟩, moX3_copy⟩, List.forall_mem_cons.mpr ⟨⟨Or.inr ⟨_, tbm 990 rfl⟩, moX7_copy⟩, List.forall_mem_cons.mpr ⟨⟨Or.inr ⟨_, tbm 995 rfl⟩, moX9_copy⟩, fun _ h => absurd h List.not_mem_nil⟩⟩⟩⟩⟩⟩⟩⟩
set_option maxRecDepth 20000 in
theorem mk_2 : ∀ q ∈ mkT 2, ML 2 q.1 q.2 := List.forall_mem_cons.mpr ⟨⟨Or.inl (tbm 905 rfl), moX2_rowOf⟩, List.forall_mem_cons.mpr ⟨⟨Or.inl (tbm 909 rfl), moX2_playHour⟩, List.forall_mem_cons.mpr ⟨⟨Or.inl (tbm 913 rfl), moJ6_bitCount_0f7a4⟩, List.forall_mem_cons.mpr ⟨⟨Or.inl (tbm 914 rfl), moX2_behindStrike⟩, List.forall_mem_cons.mpr ⟨⟨Or.inl (tbm 919 rfl), moX2_aheadOfCall⟩, List.forall_mem_cons.mpr ⟨⟨Or.inl (tbm 918 rfl), moJ9_max_7cf53⟩, List.forall_mem_cons.mpr ⟨⟨Or.inl (tbm 923 rfl), moX2_feeAt⟩, List.forall_mem_cons.mpr ⟨⟨Or.inl (tbm 927 rfl), moJ9_min_7cf53⟩, fun _ h => absurd h List.not_mem_nil⟩⟩⟩⟩⟩⟩⟩⟩
set_option maxRecDepth 20000 in
theorem mk_5 : ∀ q ∈ mkT 5, ML 5 q.1 q.2 := List.forall_mem_cons.mpr ⟨⟨Or.inl (tbm 640 rfl), moX5_has⟩, List.forall_mem_cons.mpr ⟨⟨Or.inl (tbm 641 rfl), moX5_valueOf⟩, List.forall_mem_cons.mpr ⟨⟨Or.inl (tbm 673 rfl), moJ9_min_7cf53⟩, List.forall_mem_cons.mpr ⟨⟨Or.inl (tbm 674 rfl), moJ9_max_7cf53⟩, List.forall_mem_cons.mpr ⟨⟨Or.inl (tbm 645 rfl), moX5_named⟩, List.forall_mem_cons.mpr ⟨⟨Or.inl (tbm 648 rfl), moX5_turned⟩, List.forall_mem_cons.mpr ⟨⟨Or.inl (tbm 651 rfl), moX5_reckoned⟩, List.forall_mem_cons.mpr ⟨⟨Or.inl (tbm 654 rfl), moX5_bounded⟩, List.forall_mem_cons.mpr ⟨⟨Or.inl (tbm 659 rfl), moJ9_min_f86c9⟩, List.forall_mem_cons.mpr ⟨⟨Or.inl (tbm 662 rfl), moJ9_max_f86c9⟩, List.forall_mem_cons.mpr ⟨⟨Or.inl (tbm 788 rfl), moX5_isRule⟩, List.forall_mem_cons.mpr ⟨⟨Or.inl (tbm 727 rfl), moX5_shownAtAll⟩, List.forall_mem_cons.mpr ⟨⟨Or.inl (tbm 731 rfl), moX5_shownBy⟩, fun _ h => absurd h List.not_mem_nil⟩⟩⟩⟩⟩⟩⟩⟩⟩⟩⟩⟩⟩
set_option maxRecDepth 20000 in
theorem mk_6 : ∀ q ∈ mkT 6, ML 6 q.1 q.2 := List.forall_mem_cons.mpr ⟨⟨Or.inr ⟨_, tbm 219 rfl⟩, moX10_init⟩, List.forall_mem_cons.mpr ⟨⟨Or.inr ⟨_, tbm 248 rfl⟩, moX5_init⟩, List.forall_mem_cons.mpr ⟨⟨Or.inr ⟨_, tbm 441 rfl⟩, moX5_clear⟩, List.forall_mem_cons.mpr ⟨⟨Or.inr ⟨_, tbm 445 rfl⟩, moX10_split⟩, List.forall_mem_cons.mpr ⟨⟨Or.inl (tbm 529 rfl), moX6_sort⟩, List.forall_mem_cons.mpr ⟨⟨Or.inl (tbm 533 rfl), moX6_clause⟩, List.forall_mem_cons.mpr ⟨⟨Or.inl (tbm 537 rfl), moX6_fail⟩, List.forall_mem_cons.mpr ⟨⟨Or.inr ⟨_, tbm 541 rfl⟩, moX5_has⟩, List.forall_mem_cons.mpr ⟨⟨Or.inr ⟨_, tbm 545 rfl⟩, moX5_open⟩, List.forall_mem_cons.mpr ⟨⟨Or.inl (tbm 549 rfl), moX6_rule⟩, List.forall_mem_cons.mpr ⟨⟨Or.inl (tbm 573 rfl), moX6_sum⟩, List.forall_mem_cons.mpr ⟨⟨Or.inl (tbm 589 rfl), moX6_either⟩, List.forall_mem_cons.mpr ⟨⟨Or.inr ⟨_, tbm 600 rfl⟩, moX5_shut⟩, List.forall_mem_cons.mpr ⟨⟨Or.inl (tbm 561 rfl), moX6_pass⟩, List.forall_mem_cons.mpr ⟨⟨Or.inl (tbm 553 rfl), moX6_number⟩, List.forall_mem_cons.mpr ⟨⟨Or.inl (tbm 565 rfl), moX6_factsBehind⟩, List.forall_mem_cons.mpr ⟨⟨Or.inr ⟨_, tbm 569 rfl⟩, moX5_addRule⟩, List.forall_mem_cons.mpr ⟨⟨Or.inl (tbm 557 rfl), moX6_value⟩, List.forall_mem_cons.mpr ⟨⟨Or.inl (tbm 593 rfl), moX6_ask⟩, List.forall_mem_cons.mpr ⟨⟨Or.inr ⟨_, tbm 585 rfl⟩, moX5_emit⟩, List.forall_mem_cons.mpr ⟨⟨Or.inl (tbm 597 rfl), moX6_compares⟩, List.forall_mem_cons.mpr ⟨⟨Or.inl (tbm 577 rfl), moX6_one⟩, List.forall_mem_cons.mpr ⟨⟨Or.inl (tbm 581 rfl), moX6_isForeign⟩, fun _ h => absurd h List.not_mem_nil⟩⟩⟩⟩⟩⟩⟩⟩⟩⟩⟩⟩⟩⟩⟩⟩⟩⟩⟩⟩⟩⟩⟩
set_option maxRecDepth 20000 in
theorem mk_10 : ∀ q ∈ mkT 10, ML 10 q.1 q.2 := List.forall_mem_cons.mpr ⟨⟨Or.inl (tbm 449 rfl), moX10_behindToken⟩, List.forall_mem_cons.mpr ⟨⟨Or.inl (tbm 459 rfl), moJ9_max_7cf53⟩, List.forall_mem_cons.mpr ⟨⟨Or.inl (tbm 462 rfl), moX10_sortOf⟩, List.forall_mem_cons.mpr ⟨⟨Or.inl (tbm 453 rfl), moX10_isLetter⟩, List.forall_mem_cons.mpr ⟨⟨Or.inl (tbm 466 rfl), moX10_wordOf⟩, List.forall_mem_cons.mpr ⟨⟨Or.inl (tbm 456 rfl), moX10_isDigit⟩, List.forall_mem_cons.mpr ⟨⟨Or.inl (tbm 519 rfl), moX10_numberOf⟩, List.forall_mem_cons.mpr ⟨⟨Or.inl (tbm 526 rfl), moX10_isSign⟩, List.forall_mem_cons.mpr ⟨⟨Or.inl (tbm 523 rfl), moJ9_min_7cf53⟩, fun _ h => absurd h List.not_mem_nil⟩⟩⟩⟩⟩⟩⟩⟩⟩
set_option maxRecDepth 20000 in
theorem mk_11 : ∀ q ∈ mkT 11, ML 11 q.1 q.2 := List.forall_mem_cons.mpr ⟨⟨Or.inr ⟨_, tbm 31 rfl⟩, moX1_init⟩, List.forall_mem_cons.mpr ⟨⟨Or.inr ⟨_, tbm 165 rfl⟩, moX5_init⟩, List.forall_mem_cons.mpr ⟨⟨Or.inr ⟨_, tbm 213 rfl⟩, moX6_init⟩, List.forall_mem_cons.mpr ⟨⟨Or.inr ⟨_, tbm 278 rfl⟩, moX4_init⟩, List.forall_mem_cons.mpr ⟨⟨Or.inr ⟨_, tbm 290 rfl⟩, moX0_init⟩, List.forall_mem_cons.mpr ⟨⟨Or.inr ⟨_, tbm 311 rfl⟩, moX2_init⟩, List.forall_mem_cons.mpr ⟨⟨Or.inr ⟨_, tbm 394 rfl⟩, moX8_add⟩, List.forall_mem_cons.mpr ⟨⟨Or.inl (tbm 402 rfl), moX11_isFact⟩, List.forall_mem_cons.mpr ⟨⟨Or.inr ⟨_, tbm 405 rfl⟩, moX3_add⟩, List.forall_mem_cons.mpr ⟨⟨Or.inl (tbm 417 rfl), moX11_isWitness⟩, List.forall_mem_cons.mpr ⟨⟨Or.inr ⟨_, tbm 425 rfl⟩, moX10_put⟩, List.forall_mem_cons.mpr ⟨⟨Or.inr ⟨_, tbm 437 rfl⟩, moX6_read⟩, List.forall_mem_cons.mpr ⟨⟨Or.inr ⟨_, tbm 604 rfl⟩, moX5_copy⟩, List.forall_mem_cons.mpr ⟨⟨Or.inl (tbm 624 rfl), moX11_saysAs⟩, List.forall_mem_cons.mpr ⟨⟨Or.inl (tbm 665 rfl), moX11_feeNow⟩, List.forall_mem_cons.mpr ⟨⟨Or.inl (tbm 675 rfl), moX11_isStruck⟩, List.forall_mem_cons.mpr ⟨⟨Or.inr ⟨_, tbm 679 rfl⟩, moX7_has⟩, List.forall_mem_cons.mpr ⟨⟨Or.inr ⟨_, tbm 687 rfl⟩, moX7_add⟩, List.forall_mem_cons.mpr ⟨⟨Or.inr ⟨_, tbm 695 rfl⟩, moX7_paid⟩, List.forall_mem_cons.mpr ⟨⟨Or.inl (tbm 703 rfl), moX11_isSet⟩, List.forall_mem_cons.mpr ⟨⟨Or.inl (tbm 707 rfl), moX11_findSayings⟩, List.forall_mem_cons.mpr ⟨⟨Or.inl (tbm 711 rfl), moX11_weigh⟩, List.forall_mem_cons.mpr ⟨⟨Or.inl (tbm 632 rfl), moX11_ruling⟩, List.forall_mem_cons.mpr ⟨⟨Or.inr ⟨_, tbm 723 rfl⟩, moX5_strengthOf⟩, List.forall_mem_cons.mpr ⟨⟨Or.inl (tbm 739 rfl), moX11_isHeardCount⟩, List.forall_mem_cons.mpr ⟨⟨Or.inl (tbm 743 rfl), moX11_weighHeard⟩, List.forall_mem_cons.mpr ⟨⟨Or.inl (tbm 751 rfl), moX11_isVerdict⟩, List.forall_mem_cons.mpr ⟨⟨Or.inl (tbm 755 rfl), moX11_followsBySet⟩, List.forall_mem_cons.mpr ⟨⟨Or.inl (tbm 759 rfl), moX11_carried⟩, List.forall_mem_cons.mpr ⟨⟨Or.inr ⟨_, tbm 775 rfl⟩, moX0_trace⟩, List.forall_mem_cons.mpr ⟨⟨Or.inl (tbm 792 rfl), moJ6_bitCount_0f7a4⟩, List.forall_mem_cons.mpr ⟨⟨Or.inr ⟨_, tbm 798 rfl⟩, moX0_factAt⟩, List.forall_mem_cons.mpr ⟨⟨Or.inr ⟨_, tbm 806 rfl⟩, moX0_weakestFact⟩, List.forall_mem_cons.mpr ⟨⟨Or.inr ⟨_, tbm 818 rfl⟩, moX4_copy⟩, List.forall_mem_cons.mpr ⟨⟨Or.inr ⟨_, tbm 719 rfl⟩, moX4_add⟩, List.forall_mem_cons.mpr ⟨⟨Or.inr ⟨_, tbm 763 rfl⟩, moX5_carries⟩, List.forall_mem_cons.mpr ⟨⟨Or.inl (tbm 827 rfl), moX11_findFees⟩, List.forall_mem_cons.mpr ⟨⟨Or.inl (tbm 831 rfl), moX11_findLeast⟩, List.forall_mem_cons.mpr ⟨⟨Or.inl (tbm 864 rfl), moX11_carriedAmong⟩, List.forall_mem_cons.mpr ⟨⟨Or.inr ⟨_, tbm 851 rfl⟩, moX5_shownAtAll⟩, List.forall_mem_cons.mpr ⟨⟨Or.inr ⟨_, tbm 856 rfl⟩, moX5_isBarred⟩, List.forall_mem_cons.mpr ⟨⟨Or.inl (tbm 880 rfl), moX11_isDay⟩, List.forall_mem_cons.mpr ⟨⟨Or.inl (tbm 884 rfl), moX11_playDay⟩, List.forall_mem_cons.mpr ⟨⟨Or.inr ⟨_, tbm 928 rfl⟩, moX2_isWon⟩, List.forall_mem_cons.mpr ⟨⟨Or.inr ⟨_, tbm 936 rfl⟩, moX2_firstCall⟩, List.forall_mem_cons.mpr ⟨⟨Or.inr ⟨_, tbm 944 rfl⟩, moX9_add⟩, List.forall_mem_cons.mpr ⟨⟨Or.inr ⟨_, tbm 952 rfl⟩, moX9_fit⟩, List.forall_mem_cons.mpr ⟨⟨Or.inr ⟨_, tbm 960 rfl⟩, moX3_chances⟩, List.forall_mem_cons.mpr ⟨⟨Or.inl (tbm 964 rfl), moX11_findCosts⟩, List.forall_mem_cons.mpr ⟨⟨Or.inr ⟨_, tbm 968 rfl⟩, moX3_drawnBy⟩, List.forall_mem_cons.mpr ⟨⟨Or.inr ⟨_, tbm 976 rfl⟩, moX1_copy⟩, List.forall_mem_cons.mpr ⟨⟨Or.inl (tbm 1008 rfl), moX11_aboutHeard⟩, List.forall_mem_cons.mpr ⟨⟨Or.inl (tbm 628 rfl), moX11_describe⟩, List.forall_mem_cons.mpr ⟨⟨Or.inr ⟨_, tbm 636 rfl⟩, moX5_spoken⟩, List.forall_mem_cons.mpr ⟨⟨Or.inr ⟨_, tbm 669 rfl⟩, moX5_charged⟩, List.forall_mem_cons.mpr ⟨⟨Or.inr ⟨_, tbm 715 rfl⟩, moX4_clear⟩, List.forall_mem_cons.mpr ⟨⟨Or.inl (tbm 835 rfl), moX11_tryLeast⟩, List.forall_mem_cons.mpr ⟨⟨Or.inl (tbm 839 rfl), moX11_feesOf⟩, List.forall_mem_cons.mpr ⟨⟨Or.inl (tbm 843 rfl), moX11_isLess⟩, List.forall_mem_cons.mpr ⟨⟨Or.inl (tbm 847 rfl), moX11_keepLeast⟩, List.forall_mem_cons.mpr ⟨⟨Or.inr ⟨_, tbm 852 rfl⟩, moX5_bendOf⟩, List.forall_mem_cons.mpr ⟨⟨Or.inl (tbm 888 rfl), moX11_seatFree⟩, List.forall_mem_cons.mpr ⟨⟨Or.inr ⟨_, tbm 892 rfl⟩, moX2_witnessesOf⟩, List.forall_mem_cons.mpr ⟨⟨Or.inr ⟨_, tbm 896 rfl⟩, moX2_close⟩, List.forall_mem_cons.mpr ⟨⟨Or.inr ⟨_, tbm 901 rfl⟩, moX2_play⟩, fun _ h => absurd h List.not_mem_nil⟩⟩⟩⟩⟩⟩⟩⟩⟩⟩⟩⟩⟩⟩⟩⟩⟩⟩⟩⟩⟩⟩⟩⟩⟩⟩⟩⟩⟩⟩⟩⟩⟩⟩⟩⟩⟩⟩⟩⟩⟩⟩⟩⟩⟩⟩⟩⟩⟩⟩⟩⟩⟩⟩⟩⟩⟩⟩⟩⟩⟩⟩⟩⟩⟩
set_option maxRecDepth 20000 in
theorem mk_12 : ∀ q ∈ mkT 12, ML 12 q.1 q.2 := List.forall_mem_cons.mpr ⟨⟨Or.inl (tbm 1018 rfl), moX12_copy⟩, List.forall_mem_cons.mpr ⟨⟨Or.inl (tbm 1138 rfl), moX12_isIn⟩, List.forall_mem_cons.mpr ⟨⟨Or.inl (tbm 1153 rfl), moX12_isWitness⟩, List.forall_mem_cons.mpr ⟨⟨Or.inl (tbm 1161 rfl), moX12_four⟩, List.forall_mem_cons.mpr ⟨⟨Or.inl (tbm 1181 rfl), moX12_byteAt⟩, List.forall_mem_cons.mpr ⟨⟨Or.inl (tbm 1185 rfl), moX12_isDigit⟩, List.forall_mem_cons.mpr ⟨⟨Or.inl (tbm 1189 rfl), moX12_isLetter⟩, List.forall_mem_cons.mpr ⟨⟨Or.inl (tbm 1200 rfl), moX12_w3⟩, List.forall_mem_cons.mpr ⟨⟨Or.inl (tbm 1207 rfl), moX12_w5⟩, List.forall_mem_cons.mpr ⟨⟨Or.inl (tbm 1249 rfl), moX12_emit⟩, List.forall_mem_cons.mpr ⟨⟨Or.inl (tbm 1210 rfl), moX12_w4⟩, List.forall_mem_cons.mpr ⟨⟨Or.inl (tbm 1269 rfl), moX12_isStrength⟩, List.forall_mem_cons.mpr ⟨⟨Or.inl (tbm 1177 rfl), moX12_nextToken⟩, List.forall_mem_cons.mpr ⟨⟨Or.inl (tbm 1257 rfl), moX12_whole⟩, List.forall_mem_cons.mpr ⟨⟨Or.inl (tbm 1265 rfl), moX12_nameOf⟩, List.forall_mem_cons.mpr ⟨⟨Or.inl (tbm 1273 rfl), moX12_isBarred⟩, List.forall_mem_cons.mpr ⟨⟨Or.inl (tbm 1253 rfl), moX12_push⟩, List.forall_mem_cons.mpr ⟨⟨Or.inl (tbm 1237 rfl), moX12_hasParen⟩, List.forall_mem_cons.mpr ⟨⟨Or.inl (tbm 1245 rfl), moX12_settle⟩, List.forall_mem_cons.mpr ⟨⟨Or.inl (tbm 1233 rfl), moX12_goesOn⟩, List.forall_mem_cons.mpr ⟨⟨Or.inl (tbm 1241 rfl), moX12_behindOne⟩, List.forall_mem_cons.mpr ⟨⟨Or.inl (tbm 1261 rfl), moX12_beginOne⟩, List.forall_mem_cons.mpr ⟨⟨Or.inl (tbm 1203 rfl), moX12_isWord⟩, List.forall_mem_cons.mpr ⟨⟨Or.inl (tbm 1229 rfl), moX12_summed⟩, List.forall_mem_cons.mpr ⟨⟨Or.inl (tbm 1285 rfl), moX12_compareOf⟩, List.forall_mem_cons.mpr ⟨⟨Or.inl (tbm 1281 rfl), moX12_asks⟩, List.forall_mem_cons.mpr ⟨⟨Or.inl (tbm 1217 rfl), moX12_figure⟩, List.forall_mem_cons.mpr ⟨⟨Or.inl (tbm 1222 rfl), moX12_facts⟩, List.forall_mem_cons.mpr ⟨⟨Or.inl (tbm 1226 rfl), moX12_w6⟩, List.forall_mem_cons.mpr ⟨⟨Or.inl (tbm 1196 rfl), moX12_sortOf⟩, List.forall_mem_cons.mpr ⟨⟨Or.inl (tbm 1213 rfl), moX12_ruled⟩, List.forall_mem_cons.mpr ⟨⟨Or.inl (tbm 1277 rfl), moX12_either⟩, List.forall_mem_cons.mpr ⟨⟨Or.inl (tbm 1192 rfl), moX12_clause⟩, List.forall_mem_cons.mpr ⟨⟨Or.inl (tbm 1173 rfl), moX12_readText⟩, List.forall_mem_cons.mpr ⟨⟨Or.inl (tbm 1336 rfl), moX12_clip⟩, List.forall_mem_cons.mpr ⟨⟨Or.inl (tbm 1318 rfl), moX12_clauseAt⟩, List.forall_mem_cons.mpr ⟨⟨Or.inl (tbm 1333 rfl), moX12_two⟩, List.forall_mem_cons.mpr ⟨⟨Or.inl (tbm 1341 rfl), moX12_isAsked⟩, List.forall_mem_cons.mpr ⟨⟨Or.inl (tbm 1314 rfl), moX12_clauses⟩, List.forall_mem_cons.mpr ⟨⟨Or.inl (tbm 1310 rfl), moX12_clauseOf⟩, List.forall_mem_cons.mpr ⟨⟨Or.inl (tbm 1322 rfl), moX12_name⟩, List.forall_mem_cons.mpr ⟨⟨Or.inl (tbm 1326 rfl), moX12_has⟩, List.forall_mem_cons.mpr ⟨⟨Or.inl (tbm 1329 rfl), moX12_work⟩, List.forall_mem_cons.mpr ⟨⟨Or.inl (tbm 1306 rfl), moX12_saidBy⟩, List.forall_mem_cons.mpr ⟨⟨Or.inl (tbm 1348 rfl), moX12_held⟩, List.forall_mem_cons.mpr ⟨⟨Or.inl (tbm 1302 rfl), moX12_saysNow⟩, List.forall_mem_cons.mpr ⟨⟨Or.inl (tbm 1344 rfl), moX12_feeOf⟩, List.forall_mem_cons.mpr ⟨⟨Or.inl (tbm 1351 rfl), moX12_isHeard⟩, List.forall_mem_cons.mpr ⟨⟨Or.inl (tbm 1359 rfl), moX12_isStruck⟩, List.forall_mem_cons.mpr ⟨⟨Or.inl (tbm 1383 rfl), moX12_clear⟩, List.forall_mem_cons.mpr ⟨⟨Or.inl (tbm 1387 rfl), moX12_adduce⟩, List.forall_mem_cons.mpr ⟨⟨Or.inl (tbm 1395 rfl), moX12_isRule⟩, List.forall_mem_cons.mpr ⟨⟨Or.inl (tbm 1399 rfl), moX12_strong⟩, List.forall_mem_cons.mpr ⟨⟨Or.inl (tbm 1427 rfl), moX12_factOf⟩, List.forall_mem_cons.mpr ⟨⟨Or.inl (tbm 1379 rfl), moX12_bySet⟩, List.forall_mem_cons.mpr ⟨⟨Or.inl (tbm 1391 rfl), moX12_show⟩, List.forall_mem_cons.mpr ⟨⟨Or.inl (tbm 1423 rfl), moX12_isShown⟩, List.forall_mem_cons.mpr ⟨⟨Or.inl (tbm 1371 rfl), moX12_isSet⟩, List.forall_mem_cons.mpr ⟨⟨Or.inl (tbm 1375 rfl), moX12_ask⟩, List.forall_mem_cons.mpr ⟨⟨Or.inl (tbm 1407 rfl), moX12_byHeard⟩, List.forall_mem_cons.mpr ⟨⟨Or.inl (tbm 1415 rfl), moX12_isVerdict⟩, List.forall_mem_cons.mpr ⟨⟨Or.inl (tbm 1419 rfl), moX12_followsBy⟩, List.forall_mem_cons.mpr ⟨⟨Or.inl (tbm 1443 rfl), moX12_firstRule⟩, List.forall_mem_cons.mpr ⟨⟨Or.inl (tbm 1439 rfl), moX12_findChain⟩, List.forall_mem_cons.mpr ⟨⟨Or.inl (tbm 1463 rfl), moX12_feesOf⟩, List.forall_mem_cons.mpr ⟨⟨Or.inl (tbm 1467 rfl), moX12_tryBent⟩, List.forall_mem_cons.mpr ⟨⟨Or.inl (tbm 1459 rfl), moX12_findLeast⟩, List.forall_mem_cons.mpr ⟨⟨Or.inl (tbm 1495 rfl), moX12_canMove⟩, List.forall_mem_cons.mpr ⟨⟨Or.inl (tbm 1499 rfl), moX12_takeBack⟩, List.forall_mem_cons.mpr ⟨⟨Or.inl (tbm 1487 rfl), moX12_isDay⟩, List.forall_mem_cons.mpr ⟨⟨Or.inl (tbm 1491 rfl), moX12_findBest⟩, List.forall_mem_cons.mpr ⟨⟨Or.inl (tbm 1531 rfl), moX12_rules⟩, fun _ h => absurd h List.not_mem_nil⟩⟩⟩⟩⟩⟩⟩⟩⟩⟩⟩⟩⟩⟩⟩⟩⟩⟩⟩⟩⟩⟩⟩⟩⟩⟩⟩⟩⟩⟩⟩⟩⟩⟩⟩⟩⟩⟩⟩⟩⟩⟩⟩⟩⟩⟩⟩⟩⟩⟩⟩⟩⟩⟩⟩⟩⟩⟩⟩⟩⟩⟩⟩⟩⟩⟩⟩⟩⟩⟩⟩⟩
set_option maxRecDepth 20000 in
theorem mk_13 : ∀ q ∈ mkT 13, ML 13 q.1 q.2 := List.forall_mem_cons.mpr ⟨⟨Or.inl (tbm 23 rfl), moX11_init⟩, List.forall_mem_cons.mpr ⟨⟨Or.inl (tbm 1014 rfl), moX12_init⟩, List.forall_mem_cons.mpr ⟨⟨Or.inl (tbm 389 rfl), moX11_witness⟩, List.forall_mem_cons.mpr ⟨⟨Or.inl (tbm 1133 rfl), moX12_witness⟩, List.forall_mem_cons.mpr ⟨⟨Or.inl (tbm 398 rfl), moX11_verdict⟩, List.forall_mem_cons.mpr ⟨⟨Or.inl (tbm 1141 rfl), moX12_verdict⟩, List.forall_mem_cons.mpr ⟨⟨Or.inl (tbm 409 rfl), moX11_hour⟩, List.forall_mem_cons.mpr ⟨⟨Or.inl (tbm 1145 rfl), moX12_hour⟩, List.forall_mem_cons.mpr ⟨⟨Or.inl (tbm 413 rfl), moX11_strike⟩, List.forall_mem_cons.mpr ⟨⟨Or.inl (tbm 1149 rfl), moX12_strike⟩, List.forall_mem_cons.mpr ⟨⟨Or.inl (tbm 421 rfl), moX11_feed⟩, List.forall_mem_cons.mpr ⟨⟨Or.inl (tbm 1157 rfl), moX12_feed⟩, List.forall_mem_cons.mpr ⟨⟨Or.inl (tbm 429 rfl), moX11_end⟩, List.forall_mem_cons.mpr ⟨⟨Or.inl (tbm 1165 rfl), moX12_end⟩, List.forall_mem_cons.mpr ⟨⟨Or.inl (tbm 433 rfl), moX11_text⟩, List.forall_mem_cons.mpr ⟨⟨Or.inl (tbm 1169 rfl), moX12_text⟩, List.forall_mem_cons.mpr ⟨⟨Or.inl (tbm 612 rfl), moX11_fault⟩, List.forall_mem_cons.mpr ⟨⟨Or.inl (tbm 1290 rfl), moX12_fault⟩, List.forall_mem_cons.mpr ⟨⟨Or.inl (tbm 616 rfl), moX11_by⟩, List.forall_mem_cons.mpr ⟨⟨Or.inl (tbm 1294 rfl), moX12_by⟩, List.forall_mem_cons.mpr ⟨⟨Or.inl (tbm 620 rfl), moX11_of⟩, List.forall_mem_cons.mpr ⟨⟨Or.inl (tbm 1298 rfl), moX12_of⟩, List.forall_mem_cons.mpr ⟨⟨Or.inl (tbm 683 rfl), moX11_hear⟩, List.forall_mem_cons.mpr ⟨⟨Or.inl (tbm 1355 rfl), moX12_hear⟩, List.forall_mem_cons.mpr ⟨⟨Or.inl (tbm 691 rfl), moX11_rise⟩, List.forall_mem_cons.mpr ⟨⟨Or.inl (tbm 1363 rfl), moX12_rise⟩, List.forall_mem_cons.mpr ⟨⟨Or.inl (tbm 699 rfl), moX11_shown⟩, List.forall_mem_cons.mpr ⟨⟨Or.inl (tbm 1367 rfl), moX12_shown⟩, List.forall_mem_cons.mpr ⟨⟨Or.inl (tbm 735 rfl), moX11_known⟩, List.forall_mem_cons.mpr ⟨⟨Or.inl (tbm 1403 rfl), moX12_known⟩, List.forall_mem_cons.mpr ⟨⟨Or.inl (tbm 747 rfl), moX11_follows⟩, List.forall_mem_cons.mpr ⟨⟨Or.inl (tbm 1411 rfl), moX12_follows⟩, List.forall_mem_cons.mpr ⟨⟨Or.inl (tbm 767 rfl), moX11_appeal⟩, List.forall_mem_cons.mpr ⟨⟨Or.inl (tbm 1431 rfl), moX12_appeal⟩, List.forall_mem_cons.mpr ⟨⟨Or.inl (tbm 771 rfl), moX11_chain⟩, List.forall_mem_cons.mpr ⟨⟨Or.inl (tbm 1435 rfl), moX12_chain⟩, List.forall_mem_cons.mpr ⟨⟨Or.inl (tbm 802 rfl), moX11_weakest⟩, List.forall_mem_cons.mpr ⟨⟨Or.inl (tbm 1447 rfl), moX12_weakest⟩, List.forall_mem_cons.mpr ⟨⟨Or.inl (tbm 814 rfl), moX11_defeats⟩, List.forall_mem_cons.mpr ⟨⟨Or.inl (tbm 1451 rfl), moX12_defeats⟩, List.forall_mem_cons.mpr ⟨⟨Or.inl (tbm 823 rfl), moX11_least⟩, List.forall_mem_cons.mpr ⟨⟨Or.inl (tbm 1455 rfl), moX12_least⟩, List.forall_mem_cons.mpr ⟨⟨Or.inl (tbm 860 rfl), moX11_never⟩, List.forall_mem_cons.mpr ⟨⟨Or.inl (tbm 1471 rfl), moX12_never⟩, List.forall_mem_cons.mpr ⟨⟨Or.inl (tbm 868 rfl), moX11_together⟩, List.forall_mem_cons.mpr ⟨⟨Or.inl (tbm 1475 rfl), moX12_together⟩, List.forall_mem_cons.mpr ⟨⟨Or.inl (tbm 872 rfl), moX11_amend⟩, List.forall_mem_cons.mpr ⟨⟨Or.inl (tbm 1479 rfl), moX12_amend⟩, List.forall_mem_cons.mpr ⟨⟨Or.inl (tbm 876 rfl), moX11_day⟩, List.forall_mem_cons.mpr ⟨⟨Or.inl (tbm 1483 rfl), moX12_day⟩, List.forall_mem_cons.mpr ⟨⟨Or.inl (tbm 932 rfl), moX11_best⟩, List.forall_mem_cons.mpr ⟨⟨Or.inl (tbm 1503 rfl), moX12_best⟩, List.forall_mem_cons.mpr ⟨⟨Or.inl (tbm 940 rfl), moX11_tell⟩, List.forall_mem_cons.mpr ⟨⟨Or.inl (tbm 1507 rfl), moX12_tell⟩, List.forall_mem_cons.mpr ⟨⟨Or.inl (tbm 948 rfl), moX11_kinds⟩, List.forall_mem_cons.mpr ⟨⟨Or.inl (tbm 1511 rfl), moX12_kinds⟩, List.forall_mem_cons.mpr ⟨⟨Or.inl (tbm 956 rfl), moX11_draws⟩, List.forall_mem_cons.mpr ⟨⟨Or.inl (tbm 1515 rfl), moX12_draws⟩, List.forall_mem_cons.mpr ⟨⟨Or.inl (tbm 972 rfl), moX11_image⟩, List.forall_mem_cons.mpr ⟨⟨Or.inl (tbm 1519 rfl), moX12_image⟩, List.forall_mem_cons.mpr ⟨⟨Or.inl (tbm 1000 rfl), moX11_back⟩, List.forall_mem_cons.mpr ⟨⟨Or.inl (tbm 1523 rfl), moX12_back⟩, List.forall_mem_cons.mpr ⟨⟨Or.inl (tbm 1004 rfl), moX11_about⟩, List.forall_mem_cons.mpr ⟨⟨Or.inl (tbm 1527 rfl), moX12_about⟩, fun _ h => absurd h List.not_mem_nil⟩⟩⟩⟩⟩⟩⟩⟩⟩⟩⟩⟩⟩⟩⟩⟩⟩⟩⟩⟩⟩⟩⟩⟩⟩⟩⟩⟩⟩⟩⟩⟩⟩⟩⟩⟩⟩⟩⟩⟩⟩⟩⟩⟩⟩⟩⟩⟩⟩⟩⟩⟩⟩⟩⟩⟩⟩⟩⟩⟩⟩⟩⟩⟩
theorem mk_all : ∀ own : Nat, ∀ q ∈ mkT own, ML own q.1 q.2 := by
  intro own
  match own with
  | 0 => exact mk_0
  | 1 => exact mk_1
  | 2 => exact mk_2
  | 3 => intro _ h; exact absurd h List.not_mem_nil 
  | 4 => intro _ h; exact absurd h List.not_mem_nil 
  | 5 => exact mk_5
  | 6 => exact mk_6
  | 7 => intro _ h; exact absurd h List.not_mem_nil 
  | 8 => intro _ h; exact absurd h List.not_mem_nil 
  | 9 => intro _ h; exact absurd h List.not_mem_nil 
  | 10 => exact mk_10
  | 11 => exact mk_11
  | 12 => exact mk_12
  | 13 => exact mk_13
  | 14 => intro _ h; exact absurd h List.not_mem_nil 
  | 15 => intro _ h; exact absurd h List.not_mem_nil 
  | n + 16 => intro _ h; exact absurd h List.not_mem_nil 
def NL (own idx ci : Nat) : Prop := ∃ (C : String) (T : u_T) (N : Nat), vwCl[ci]? = some (C, T, N) ∧ Cond.classLink (cnm own) idx C ∈ lw_tbl ∧ Cond.instantiable C N ∈ lw_tbl ∧ Cond.initialized C ∈ lw_tbl
set_option maxRecDepth 20000 in
theorem nk_1 : ∀ q ∈ nkT 1, NL 1 q.1 q.2 := List.forall_mem_cons.mpr ⟨⟨RX8, TX8, 6, rfl, tbm 35 rfl, tbm 36 rfl, tbm 3 rfl⟩, List.forall_mem_cons.mpr ⟨⟨RX3, TX3, 4, rfl, tbm 67 rfl, tbm 68 rfl, tbm 4 rfl⟩, List.forall_mem_cons.mpr ⟨⟨RX7, TX7, 4, rfl, tbm 90 rfl, tbm 91 rfl, tbm 5 rfl⟩, List.forall_mem_cons.mpr ⟨⟨RX9, TX9, 4, rfl, tbm 113 rfl, tbm 114 rfl, tbm 6 rfl⟩, fun _ h => absurd h List.not_mem_nil⟩⟩⟩⟩
set_option maxRecDepth 20000 in
theorem nk_6 : ∀ q ∈ nkT 6, NL 6 q.1 q.2 := List.forall_mem_cons.mpr ⟨⟨RX10, TX10, 6, rfl, tbm 217 rfl, tbm 218 rfl, tbm 9 rfl⟩, List.forall_mem_cons.mpr ⟨⟨RX5, TX5, 13, rfl, tbm 247 rfl, tbm 164 rfl, tbm 7 rfl⟩, fun _ h => absurd h List.not_mem_nil⟩⟩
set_option maxRecDepth 20000 in
theorem nk_11 : ∀ q ∈ nkT 11, NL 11 q.1 q.2 := List.forall_mem_cons.mpr ⟨⟨RX1, TX1, 7, rfl, tbm 29 rfl, tbm 30 rfl, tbm 2 rfl⟩, List.forall_mem_cons.mpr ⟨⟨RX5, TX5, 13, rfl, tbm 162 rfl, tbm 164 rfl, tbm 7 rfl⟩, List.forall_mem_cons.mpr ⟨⟨RX6, TX6, 7, rfl, tbm 211 rfl, tbm 212 rfl, tbm 8 rfl⟩, List.forall_mem_cons.mpr ⟨⟨RX4, TX4, 1, rfl, tbm 276 rfl, tbm 277 rfl, tbm 10 rfl⟩, List.forall_mem_cons.mpr ⟨⟨RX0, TX0, 4, rfl, tbm 288 rfl, tbm 289 rfl, tbm 11 rfl⟩, List.forall_mem_cons.mpr ⟨⟨RX2, TX2, 7, rfl, tbm 309 rfl, tbm 310 rfl, tbm 12 rfl⟩, fun _ h => absurd h List.not_mem_nil⟩⟩⟩⟩⟩⟩
set_option maxRecDepth 20000 in
theorem nk_13 : ∀ q ∈ nkT 13, NL 13 q.1 q.2 := List.forall_mem_cons.mpr ⟨⟨RX11, TX11, 16, rfl, tbm 21 rfl, tbm 22 rfl, tbm 1 rfl⟩, List.forall_mem_cons.mpr ⟨⟨RX12, TX12, 37, rfl, tbm 1012 rfl, tbm 1013 rfl, tbm 13 rfl⟩, fun _ h => absurd h List.not_mem_nil⟩⟩
theorem nk_all : ∀ own : Nat, ∀ q ∈ nkT own, NL own q.1 q.2 := by
  intro own
  match own with
  | 0 => intro _ h; exact absurd h List.not_mem_nil 
  | 1 => exact nk_1
  | 2 => intro _ h; exact absurd h List.not_mem_nil 
  | 3 => intro _ h; exact absurd h List.not_mem_nil 
  | 4 => intro _ h; exact absurd h List.not_mem_nil 
  | 5 => intro _ h; exact absurd h List.not_mem_nil 
  | 6 => exact nk_6
  | 7 => intro _ h; exact absurd h List.not_mem_nil 
  | 8 => intro _ h; exact absurd h List.not_mem_nil 
  | 9 => intro _ h; exact absurd h List.not_mem_nil 
  | 10 => intro _ h; exact absurd h List.not_mem_nil 
  | 11 => exact nk_11
  | 12 => intro _ h; exact absurd h List.not_mem_nil 
  | 13 => exact nk_13
  | 14 => intro _ h; exact absurd h List.not_mem_nil 
  | 15 => intro _ h; exact absurd h List.not_mem_nil 
  | n + 16 => intro _ h; exact absurd h List.not_mem_nil 
set_option maxRecDepth 20000 in
theorem ki_2 : ∀ q ∈ kiT 2, Cond.constant (cnm 2) q.1 q.2 ∈ lw_tbl := List.forall_mem_cons.mpr ⟨tbm 900 rfl, fun _ h => absurd h List.not_mem_nil⟩
set_option maxRecDepth 20000 in
theorem ki_11 : ∀ q ∈ kiT 11, Cond.constant (cnm 11) q.1 q.2 ∈ lw_tbl := List.forall_mem_cons.mpr ⟨tbm 393 rfl, fun _ h => absurd h List.not_mem_nil⟩
set_option maxRecDepth 20000 in
theorem ki_12 : ∀ q ∈ kiT 12, Cond.constant (cnm 12) q.1 q.2 ∈ lw_tbl := List.forall_mem_cons.mpr ⟨tbm 1137 rfl, List.forall_mem_cons.mpr ⟨tbm 1188 rfl, fun _ h => absurd h List.not_mem_nil⟩⟩
set_option maxRecDepth 20000 in
theorem ki_14 : ∀ q ∈ kiT 14, Cond.constant (cnm 14) q.1 q.2 ∈ lw_tbl := List.forall_mem_cons.mpr ⟨tbm 795 rfl, List.forall_mem_cons.mpr ⟨tbm 796 rfl, List.forall_mem_cons.mpr ⟨tbm 797 rfl, fun _ h => absurd h List.not_mem_nil⟩⟩⟩
theorem ki_all : ∀ own : Nat, ∀ q ∈ kiT own, Cond.constant (cnm own) q.1 q.2 ∈ lw_tbl := by
  intro own
  match own with
  | 0 => intro _ h; exact absurd h List.not_mem_nil 
  | 1 => intro _ h; exact absurd h List.not_mem_nil 
  | 2 => exact ki_2
  | 3 => intro _ h; exact absurd h List.not_mem_nil 
  | 4 => intro _ h; exact absurd h List.not_mem_nil 
  | 5 => intro _ h; exact absurd h List.not_mem_nil 
  | 6 => intro _ h; exact absurd h List.not_mem_nil 
  | 7 => intro _ h; exact absurd h List.not_mem_nil 
  | 8 => intro _ h; exact absurd h List.not_mem_nil 
  | 9 => intro _ h; exact absurd h List.not_mem_nil 
  | 10 => intro _ h; exact absurd h List.not_mem_nil 
  | 11 => exact ki_11
  | 12 => exact ki_12
  | 13 => intro _ h; exact absurd h List.not_mem_nil 
  | 14 => exact ki_14
  | 15 => intro _ h; exact absurd h List.not_mem_nil 
  | n + 16 => intro _ h; exact absurd h List.not_mem_nil 
set_option maxRecDepth 20000 in
theorem kl_5 : ∀ q ∈ klT 5, Cond.constantLong (cnm 5) q.1 q.2 ∈ lw_tbl := List.forall_mem_cons.mpr ⟨tbm 657 rfl, List.forall_mem_cons.mpr ⟨tbm 658 rfl, fun _ h => absurd h List.not_mem_nil⟩⟩
set_option maxRecDepth 20000 in
theorem kl_12 : ∀ q ∈ klT 12, Cond.constantLong (cnm 12) q.1 q.2 ∈ lw_tbl := List.forall_mem_cons.mpr ⟨tbm 1289 rfl, List.forall_mem_cons.mpr ⟨tbm 1221 rfl, List.forall_mem_cons.mpr ⟨tbm 1339 rfl, List.forall_mem_cons.mpr ⟨tbm 1340 rfl, fun _ h => absurd h List.not_mem_nil⟩⟩⟩⟩
theorem kl_all : ∀ own : Nat, ∀ q ∈ klT own, Cond.constantLong (cnm own) q.1 q.2 ∈ lw_tbl := by
  intro own
  match own with
  | 0 => intro _ h; exact absurd h List.not_mem_nil 
  | 1 => intro _ h; exact absurd h List.not_mem_nil 
  | 2 => intro _ h; exact absurd h List.not_mem_nil 
  | 3 => intro _ h; exact absurd h List.not_mem_nil 
  | 4 => intro _ h; exact absurd h List.not_mem_nil 
  | 5 => exact kl_5
  | 6 => intro _ h; exact absurd h List.not_mem_nil 
  | 7 => intro _ h; exact absurd h List.not_mem_nil 
  | 8 => intro _ h; exact absurd h List.not_mem_nil 
  | 9 => intro _ h; exact absurd h List.not_mem_nil 
  | 10 => intro _ h; exact absurd h List.not_mem_nil 
  | 11 => intro _ h; exact absurd h List.not_mem_nil 
  | 12 => exact kl_12
  | 13 => intro _ h; exact absurd h List.not_mem_nil 
  | 14 => intro _ h; exact absurd h List.not_mem_nil 
  | 15 => intro _ h; exact absurd h List.not_mem_nil 
  | n + 16 => intro _ h; exact absurd h List.not_mem_nil 
def CK (ci : Nat) (C : String) (T : u_T) (N : Nat) : Prop := (∀ w ∈ u_ws C T N, w ∈ lw_tbl) ∧ (∃ ty : Nat → FieldType, (∀ k, k < N → parseFieldDescriptor (T k).2.2.1 = some (ty k)) ∧ ∀ k, k < N → ((fty ci k).1 = 0 → ty k = .int) ∧ ((fty ci k).1 = 1 → ty k = .long) ∧ ((fty ci k).1 = 2 → ty k = .boolean) ∧ ((fty ci k).1 = 3 → (∃ n : String, ty k = .object n) ∨ ∃ t : FieldType, ty k = .array t) ∧ (fty ci k).1 < 4) ∧ (∀ a, a < N → ∀ b, b < N → a ≠ b → (T a).2.1 ≠ (T b).2.1) ∧ (∀ k, k < N → (T k).2.2.2 = (fty ci k).2) ∧ (∀ k, k < N → (T k).1 = C) ∧ N = nmF ci ∧ C = cnm ci
set_option maxRecDepth 20000 in
theorem uw0 : ∀ w ∈ u_ws RX0 TX0 4, w ∈ lw_tbl := by
  have h : u_ws RX0 TX0 4 = ([300, 302, 304, 306] : List Nat).filterMap (fun i => tables_1[i]?) := by rfl
  intro w hw
  rw [h] at hw
  obtain ⟨i, -, hi⟩ := List.mem_filterMap.mp hw
  exact tbm i hi
set_option maxRecDepth 20000 in
theorem ck0 : CK 0 RX0 TX0 4 := by
  refine ⟨uw0, ⟨tyX0, tyX0_ok, ?_⟩, nmX0, by decide, by decide +kernel, rfl, rfl⟩
  intro k hk
  match k, hk with
  | 0, _ => exact ⟨fun _ => rfl, nofun, nofun, nofun, by decide⟩
  | 1, _ => exact ⟨fun _ => rfl, nofun, nofun, nofun, by decide⟩
  | 2, _ => exact ⟨nofun, nofun, nofun, fun _ => Or.inr ⟨_, rfl⟩, by decide⟩
  | 3, _ => exact ⟨nofun, nofun, nofun, fun _ => Or.inr ⟨_, rfl⟩, by decide⟩
set_option maxRecDepth 20000 in
theorem uw1 : ∀ w ∈ u_ws RX1 TX1 7, w ∈ lw_tbl := by
  have h : u_ws RX1 TX1 7 = ([147, 149, 151, 153, 155, 157, 159] : List Nat).filterMap (fun i => tables_1[i]?) := by rfl
  intro w hw
  rw [h] at hw
  obtain ⟨i, -, hi⟩ := List.mem_filterMap.mp hw
  exact tbm i hi
set_option maxRecDepth 20000 in
theorem ck1 : CK 1 RX1 TX1 7 := by
  refine ⟨uw1, ⟨tyX1, tyX1_ok, ?_⟩, nmX1, by decide, by decide +kernel, rfl, rfl⟩
  intro k hk
  match k, hk with
  | 0, _ => exact ⟨nofun, nofun, nofun, fun _ => Or.inl ⟨_, rfl⟩, by decide⟩
  | 1, _ => exact ⟨nofun, nofun, nofun, fun _ => Or.inl ⟨_, rfl⟩, by decide⟩
  | 2, _ => exact ⟨nofun, nofun, nofun, fun _ => Or.inl ⟨_, rfl⟩, by decide⟩
  | 3, _ => exact ⟨nofun, nofun, nofun, fun _ => Or.inl ⟨_, rfl⟩, by decide⟩
  | 4, _ => exact ⟨fun _ => rfl, nofun, nofun, nofun, by decide⟩
  | 5, _ => exact ⟨fun _ => rfl, nofun, nofun, nofun, by decide⟩
  | 6, _ => exact ⟨fun _ => rfl, nofun, nofun, nofun, by decide⟩
set_option maxRecDepth 20000 in
theorem uw2 : ∀ w ∈ u_ws RX2 TX2 7, w ∈ lw_tbl := by
  have h : u_ws RX2 TX2 7 = ([325, 327, 329, 331, 333, 335, 337] : List Nat).filterMap (fun i => tables_1[i]?) := by rfl
  intro w hw
  rw [h] at hw
  obtain ⟨i, -, hi⟩ := List.mem_filterMap.mp hw
  exact tbm i hi
set_option maxRecDepth 20000 in
theorem ck2 : CK 2 RX2 TX2 7 := by
  refine ⟨uw2, ⟨tyX2, tyX2_ok, ?_⟩, nmX2, by decide, by decide +kernel, rfl, rfl⟩
  intro k hk
  match k, hk with
  | 0, _ => exact ⟨fun _ => rfl, nofun, nofun, nofun, by decide⟩
  | 1, _ => exact ⟨nofun, nofun, nofun, fun _ => Or.inr ⟨_, rfl⟩, by decide⟩
  | 2, _ => exact ⟨nofun, nofun, nofun, fun _ => Or.inr ⟨_, rfl⟩, by decide⟩
  | 3, _ => exact ⟨nofun, nofun, nofun, fun _ => Or.inr ⟨_, rfl⟩, by decide⟩
  | 4, _ => exact ⟨nofun, nofun, nofun, fun _ => Or.inr ⟨_, rfl⟩, by decide⟩
  | 5, _ => exact ⟨nofun, nofun, nofun, fun _ => Or.inr ⟨_, rfl⟩, by decide⟩
  | 6, _ => exact ⟨nofun, nofun, nofun, fun _ => Or.inr ⟨_, rfl⟩, by decide⟩
set_option maxRecDepth 20000 in
theorem uw3 : ∀ w ∈ u_ws RX3 TX3 4, w ∈ lw_tbl := by
  have h : u_ws RX3 TX3 4 = ([81, 83, 85, 87] : List Nat).filterMap (fun i => tables_1[i]?) := by rfl
  intro w hw
  rw [h] at hw
  obtain ⟨i, -, hi⟩ := List.mem_filterMap.mp hw
  exact tbm i hi
set_option maxRecDepth 20000 in
theorem ck3 : CK 3 RX3 TX3 4 := by
  refine ⟨uw3, ⟨tyX3, tyX3_ok, ?_⟩, nmX3, by decide, by decide +kernel, rfl, rfl⟩
  intro k hk
  match k, hk with
  | 0, _ => exact ⟨fun _ => rfl, nofun, nofun, nofun, by decide⟩
  | 1, _ => exact ⟨nofun, nofun, nofun, fun _ => Or.inr ⟨_, rfl⟩, by decide⟩
  | 2, _ => exact ⟨nofun, nofun, nofun, fun _ => Or.inr ⟨_, rfl⟩, by decide⟩
  | 3, _ => exact ⟨nofun, nofun, nofun, fun _ => Or.inr ⟨_, rfl⟩, by decide⟩
set_option maxRecDepth 20000 in
theorem uw4 : ∀ w ∈ u_ws RX4 TX4 1, w ∈ lw_tbl := by
  have h : u_ws RX4 TX4 1 = ([285] : List Nat).filterMap (fun i => tables_1[i]?) := by rfl
  intro w hw
  rw [h] at hw
  obtain ⟨i, -, hi⟩ := List.mem_filterMap.mp hw
  exact tbm i hi
set_option maxRecDepth 20000 in
theorem ck4 : CK 4 RX4 TX4 1 := by
  refine ⟨uw4, ⟨tyX4, tyX4_ok, ?_⟩, nmX4, by decide, by decide +kernel, rfl, rfl⟩
  intro k hk
  match k, hk with
  | 0, _ => exact ⟨nofun, nofun, nofun, fun _ => Or.inr ⟨_, rfl⟩, by decide⟩
set_option maxRecDepth 20000 in
theorem uw5 : ∀ w ∈ u_ws RX5 TX5 13, w ∈ lw_tbl := by
  have h : u_ws RX5 TX5 13 = ([184, 186, 188, 190, 192, 194, 196, 198, 200, 202, 204, 206, 208] : List Nat).filterMap (fun i => tables_1[i]?) := by rfl
  intro w hw
  rw [h] at hw
  obtain ⟨i, -, hi⟩ := List.mem_filterMap.mp hw
  exact tbm i hi
set_option maxRecDepth 20000 in
theorem ck5 : CK 5 RX5 TX5 13 := by
  refine ⟨uw5, ⟨tyX5, tyX5_ok, ?_⟩, nmX5, by decide, by decide +kernel, rfl, rfl⟩
  intro k hk
  match k, hk with
  | 0, _ => exact ⟨fun _ => rfl, nofun, nofun, nofun, by decide⟩
  | 1, _ => exact ⟨fun _ => rfl, nofun, nofun, nofun, by decide⟩
  | 2, _ => exact ⟨fun _ => rfl, nofun, nofun, nofun, by decide⟩
  | 3, _ => exact ⟨nofun, nofun, nofun, fun _ => Or.inr ⟨_, rfl⟩, by decide⟩
  | 4, _ => exact ⟨nofun, nofun, nofun, fun _ => Or.inr ⟨_, rfl⟩, by decide⟩
  | 5, _ => exact ⟨nofun, nofun, nofun, fun _ => Or.inr ⟨_, rfl⟩, by decide⟩
  | 6, _ => exact ⟨nofun, nofun, nofun, fun _ => Or.inr ⟨_, rfl⟩, by decide⟩
  | 7, _ => exact ⟨nofun, nofun, nofun, fun _ => Or.inr ⟨_, rfl⟩, by decide⟩
  | 8, _ => exact ⟨nofun, nofun, nofun, fun _ => Or.inr ⟨_, rfl⟩, by decide⟩
  | 9, _ => exact ⟨nofun, nofun, nofun, fun _ => Or.inr ⟨_, rfl⟩, by decide⟩
  | 10, _ => exact ⟨nofun, nofun, nofun, fun _ => Or.inr ⟨_, rfl⟩, by decide⟩
  | 11, _ => exact ⟨nofun, nofun, nofun, fun _ => Or.inr ⟨_, rfl⟩, by decide⟩
  | 12, _ => exact ⟨nofun, nofun, nofun, fun _ => Or.inr ⟨_, rfl⟩, by decide⟩
set_option maxRecDepth 20000 in
theorem uw6 : ∀ w ∈ u_ws RX6 TX6 7, w ∈ lw_tbl := by
  have h : u_ws RX6 TX6 7 = ([261, 263, 265, 267, 269, 271, 273] : List Nat).filterMap (fun i => tables_1[i]?) := by rfl
  intro w hw
  rw [h] at hw
  obtain ⟨i, -, hi⟩ := List.mem_filterMap.mp hw
  exact tbm i hi
set_option maxRecDepth 20000 in
theorem ck6 : CK 6 RX6 TX6 7 := by
  refine ⟨uw6, ⟨tyX6, tyX6_ok, ?_⟩, nmX6, by decide, by decide +kernel, rfl, rfl⟩
  intro k hk
  match k, hk with
  | 0, _ => exact ⟨nofun, nofun, nofun, fun _ => Or.inl ⟨_, rfl⟩, by decide⟩
  | 1, _ => exact ⟨nofun, nofun, nofun, fun _ => Or.inl ⟨_, rfl⟩, by decide⟩
  | 2, _ => exact ⟨nofun, nofun, fun _ => rfl, nofun, by decide⟩
  | 3, _ => exact ⟨fun _ => rfl, nofun, nofun, nofun, by decide⟩
  | 4, _ => exact ⟨fun _ => rfl, nofun, nofun, nofun, by decide⟩
  | 5, _ => exact ⟨fun _ => rfl, nofun, nofun, nofun, by decide⟩
  | 6, _ => exact ⟨nofun, nofun, fun _ => rfl, nofun, by decide⟩
set_option maxRecDepth 20000 in
theorem uw7 : ∀ w ∈ u_ws RX7 TX7 4, w ∈ lw_tbl := by
  have h : u_ws RX7 TX7 4 = ([104, 106, 108, 110] : List Nat).filterMap (fun i => tables_1[i]?) := by rfl
  intro w hw
  rw [h] at hw
  obtain ⟨i, -, hi⟩ := List.mem_filterMap.mp hw
  exact tbm i hi
set_option maxRecDepth 20000 in
theorem ck7 : CK 7 RX7 TX7 4 := by
  refine ⟨uw7, ⟨tyX7, tyX7_ok, ?_⟩, nmX7, by decide, by decide +kernel, rfl, rfl⟩
  intro k hk
  match k, hk with
  | 0, _ => exact ⟨fun _ => rfl, nofun, nofun, nofun, by decide⟩
  | 1, _ => exact ⟨nofun, nofun, nofun, fun _ => Or.inr ⟨_, rfl⟩, by decide⟩
  | 2, _ => exact ⟨nofun, nofun, nofun, fun _ => Or.inr ⟨_, rfl⟩, by decide⟩
  | 3, _ => exact ⟨nofun, nofun, nofun, fun _ => Or.inr ⟨_, rfl⟩, by decide⟩
set_option maxRecDepth 20000 in
theorem uw8 : ∀ w ∈ u_ws RX8 TX8 6, w ∈ lw_tbl := by
  have h : u_ws RX8 TX8 6 = ([53, 55, 57, 59, 61, 63] : List Nat).filterMap (fun i => tables_1[i]?) := by rfl
  intro w hw
  rw [h] at hw
  obtain ⟨i, -, hi⟩ := List.mem_filterMap.mp hw
  exact tbm i hi
set_option maxRecDepth 20000 in
theorem ck8 : CK 8 RX8 TX8 6 := by
  refine ⟨uw8, ⟨tyX8, tyX8_ok, ?_⟩, nmX8, by decide, by decide +kernel, rfl, rfl⟩
  intro k hk
  match k, hk with
  | 0, _ => exact ⟨fun _ => rfl, nofun, nofun, nofun, by decide⟩
  | 1, _ => exact ⟨fun _ => rfl, nofun, nofun, nofun, by decide⟩
  | 2, _ => exact ⟨nofun, nofun, nofun, fun _ => Or.inr ⟨_, rfl⟩, by decide⟩
  | 3, _ => exact ⟨nofun, nofun, nofun, fun _ => Or.inr ⟨_, rfl⟩, by decide⟩
  | 4, _ => exact ⟨nofun, nofun, nofun, fun _ => Or.inr ⟨_, rfl⟩, by decide⟩
  | 5, _ => exact ⟨nofun, nofun, nofun, fun _ => Or.inr ⟨_, rfl⟩, by decide⟩
set_option maxRecDepth 20000 in
theorem uw9 : ∀ w ∈ u_ws RX9 TX9 4, w ∈ lw_tbl := by
  have h : u_ws RX9 TX9 4 = ([124, 126, 128, 130] : List Nat).filterMap (fun i => tables_1[i]?) := by rfl
  intro w hw
  rw [h] at hw
  obtain ⟨i, -, hi⟩ := List.mem_filterMap.mp hw
  exact tbm i hi
set_option maxRecDepth 20000 in
theorem ck9 : CK 9 RX9 TX9 4 := by
  refine ⟨uw9, ⟨tyX9, tyX9_ok, ?_⟩, nmX9, by decide, by decide +kernel, rfl, rfl⟩
  intro k hk
  match k, hk with
  | 0, _ => exact ⟨fun _ => rfl, nofun, nofun, nofun, by decide⟩
  | 1, _ => exact ⟨nofun, nofun, nofun, fun _ => Or.inr ⟨_, rfl⟩, by decide⟩
  | 2, _ => exact ⟨nofun, nofun, nofun, fun _ => Or.inr ⟨_, rfl⟩, by decide⟩
  | 3, _ => exact ⟨nofun, nofun, nofun, fun _ => Or.inr ⟨_, rfl⟩, by decide⟩
set_option maxRecDepth 20000 in
theorem uw10 : ∀ w ∈ u_ws RX10 TX10 6, w ∈ lw_tbl := by
  have h : u_ws RX10 TX10 6 = ([234, 236, 238, 240, 242, 244] : List Nat).filterMap (fun i => tables_1[i]?) := by rfl
  intro w hw
  rw [h] at hw
  obtain ⟨i, -, hi⟩ := List.mem_filterMap.mp hw
  exact tbm i hi
set_option maxRecDepth 20000 in
theorem ck10 : CK 10 RX10 TX10 6 := by
  refine ⟨uw10, ⟨tyX10, tyX10_ok, ?_⟩, nmX10, by decide, by decide +kernel, rfl, rfl⟩
  intro k hk
  match k, hk with
  | 0, _ => exact ⟨fun _ => rfl, nofun, nofun, nofun, by decide⟩
  | 1, _ => exact ⟨fun _ => rfl, nofun, nofun, nofun, by decide⟩
  | 2, _ => exact ⟨nofun, nofun, nofun, fun _ => Or.inr ⟨_, rfl⟩, by decide⟩
  | 3, _ => exact ⟨nofun, nofun, nofun, fun _ => Or.inr ⟨_, rfl⟩, by decide⟩
  | 4, _ => exact ⟨nofun, nofun, nofun, fun _ => Or.inr ⟨_, rfl⟩, by decide⟩
  | 5, _ => exact ⟨nofun, nofun, nofun, fun _ => Or.inr ⟨_, rfl⟩, by decide⟩
set_option maxRecDepth 20000 in
theorem uw11 : ∀ w ∈ u_ws RX11 TX11 16, w ∈ lw_tbl := by
  have h : u_ws RX11 TX11 16 = ([356, 358, 360, 362, 364, 366, 368, 370, 372, 374, 376, 378, 380, 382, 384, 386] : List Nat).filterMap (fun i => tables_1[i]?) := by rfl
  intro w hw
  rw [h] at hw
  obtain ⟨i, -, hi⟩ := List.mem_filterMap.mp hw
  exact tbm i hi
set_option maxRecDepth 20000 in
theorem ck11 : CK 11 RX11 TX11 16 := by
  refine ⟨uw11, ⟨tyX11, tyX11_ok, ?_⟩, nmX11, by decide, by decide +kernel, rfl, rfl⟩
  intro k hk
  match k, hk with
  | 0, _ => exact ⟨nofun, nofun, nofun, fun _ => Or.inl ⟨_, rfl⟩, by decide⟩
  | 1, _ => exact ⟨nofun, nofun, nofun, fun _ => Or.inl ⟨_, rfl⟩, by decide⟩
  | 2, _ => exact ⟨nofun, nofun, nofun, fun _ => Or.inr ⟨_, rfl⟩, by decide⟩
  | 3, _ => exact ⟨nofun, nofun, nofun, fun _ => Or.inl ⟨_, rfl⟩, by decide⟩
  | 4, _ => exact ⟨nofun, nofun, nofun, fun _ => Or.inl ⟨_, rfl⟩, by decide⟩
  | 5, _ => exact ⟨nofun, nofun, nofun, fun _ => Or.inl ⟨_, rfl⟩, by decide⟩
  | 6, _ => exact ⟨nofun, nofun, nofun, fun _ => Or.inl ⟨_, rfl⟩, by decide⟩
  | 7, _ => exact ⟨nofun, nofun, nofun, fun _ => Or.inl ⟨_, rfl⟩, by decide⟩
  | 8, _ => exact ⟨nofun, nofun, nofun, fun _ => Or.inl ⟨_, rfl⟩, by decide⟩
  | 9, _ => exact ⟨nofun, nofun, nofun, fun _ => Or.inr ⟨_, rfl⟩, by decide⟩
  | 10, _ => exact ⟨nofun, nofun, nofun, fun _ => Or.inr ⟨_, rfl⟩, by decide⟩
  | 11, _ => exact ⟨nofun, nofun, nofun, fun _ => Or.inr ⟨_, rfl⟩, by decide⟩
  | 12, _ => exact ⟨nofun, nofun, nofun, fun _ => Or.inr ⟨_, rfl⟩, by decide⟩
  | 13, _ => exact ⟨fun _ => rfl, nofun, nofun, nofun, by decide⟩
  | 14, _ => exact ⟨fun _ => rfl, nofun, nofun, nofun, by decide⟩
  | 15, _ => exact ⟨fun _ => rfl, nofun, nofun, nofun, by decide⟩
set_option maxRecDepth 20000 in
theorem uw12 : ∀ w ∈ u_ws RX12 TX12 37, w ∈ lw_tbl := by
  have h : u_ws RX12 TX12 37 = ([1056, 1058, 1060, 1062, 1064, 1066, 1068, 1070, 1072, 1074, 1076, 1078, 1080, 1082, 1084, 1086, 1088, 1090, 1092, 1094, 1096, 1098, 1100, 1102, 1104, 1106, 1108, 1110, 1112, 1114, 1116, 1118, 1120, 1122, 1124, 1126, 1128] : List Nat).filterMap (fun i => tables_1[i]?) := by rfl
  intro w hw
  rw [h] at hw
  obtain ⟨i, -, hi⟩ := List.mem_filterMap.mp hw
  exact tbm i hi
set_option maxRecDepth 20000 in
theorem ck12 : CK 12 RX12 TX12 37 := by
  refine ⟨uw12, ⟨tyX12, tyX12_ok, ?_⟩, nmX12, by decide, by decide +kernel, rfl, rfl⟩
  intro k hk
  match k, hk with
  | 0, _ => exact ⟨nofun, nofun, nofun, fun _ => Or.inr ⟨_, rfl⟩, by decide⟩
  | 1, _ => exact ⟨nofun, nofun, nofun, fun _ => Or.inr ⟨_, rfl⟩, by decide⟩
  | 2, _ => exact ⟨nofun, nofun, nofun, fun _ => Or.inr ⟨_, rfl⟩, by decide⟩
  | 3, _ => exact ⟨nofun, nofun, nofun, fun _ => Or.inr ⟨_, rfl⟩, by decide⟩
  | 4, _ => exact ⟨fun _ => rfl, nofun, nofun, nofun, by decide⟩
  | 5, _ => exact ⟨fun _ => rfl, nofun, nofun, nofun, by decide⟩
  | 6, _ => exact ⟨fun _ => rfl, nofun, nofun, nofun, by decide⟩
  | 7, _ => exact ⟨fun _ => rfl, nofun, nofun, nofun, by decide⟩
  | 8, _ => exact ⟨fun _ => rfl, nofun, nofun, nofun, by decide⟩
  | 9, _ => exact ⟨fun _ => rfl, nofun, nofun, nofun, by decide⟩
  | 10, _ => exact ⟨fun _ => rfl, nofun, nofun, nofun, by decide⟩
  | 11, _ => exact ⟨nofun, fun _ => rfl, nofun, nofun, by decide⟩
  | 12, _ => exact ⟨fun _ => rfl, nofun, nofun, nofun, by decide⟩
  | 13, _ => exact ⟨fun _ => rfl, nofun, nofun, nofun, by decide⟩
  | 14, _ => exact ⟨fun _ => rfl, nofun, nofun, nofun, by decide⟩
  | 15, _ => exact ⟨fun _ => rfl, nofun, nofun, nofun, by decide⟩
  | 16, _ => exact ⟨nofun, nofun, nofun, fun _ => Or.inr ⟨_, rfl⟩, by decide⟩
  | 17, _ => exact ⟨fun _ => rfl, nofun, nofun, nofun, by decide⟩
  | 18, _ => exact ⟨fun _ => rfl, nofun, nofun, nofun, by decide⟩
  | 19, _ => exact ⟨nofun, nofun, fun _ => rfl, nofun, by decide⟩
  | 20, _ => exact ⟨fun _ => rfl, nofun, nofun, nofun, by decide⟩
  | 21, _ => exact ⟨fun _ => rfl, nofun, nofun, nofun, by decide⟩
  | 22, _ => exact ⟨nofun, nofun, nofun, fun _ => Or.inr ⟨_, rfl⟩, by decide⟩
  | 23, _ => exact ⟨nofun, nofun, nofun, fun _ => Or.inr ⟨_, rfl⟩, by decide⟩
  | 24, _ => exact ⟨nofun, nofun, nofun, fun _ => Or.inr ⟨_, rfl⟩, by decide⟩
  | 25, _ => exact ⟨nofun, nofun, nofun, fun _ => Or.inr ⟨_, rfl⟩, by decide⟩
  | 26, _ => exact ⟨nofun, nofun, nofun, fun _ => Or.inr ⟨_, rfl⟩, by decide⟩
  | 27, _ => exact ⟨nofun, nofun, nofun, fun _ => Or.inr ⟨_, rfl⟩, by decide⟩
  | 28, _ => exact ⟨nofun, nofun, nofun, fun _ => Or.inr ⟨_, rfl⟩, by decide⟩
  | 29, _ => exact ⟨nofun, nofun, nofun, fun _ => Or.inr ⟨_, rfl⟩, by decide⟩
  | 30, _ => exact ⟨nofun, nofun, nofun, fun _ => Or.inr ⟨_, rfl⟩, by decide⟩
  | 31, _ => exact ⟨nofun, nofun, nofun, fun _ => Or.inr ⟨_, rfl⟩, by decide⟩
  | 32, _ => exact ⟨nofun, nofun, nofun, fun _ => Or.inr ⟨_, rfl⟩, by decide⟩
  | 33, _ => exact ⟨fun _ => rfl, nofun, nofun, nofun, by decide⟩
  | 34, _ => exact ⟨fun _ => rfl, nofun, nofun, nofun, by decide⟩
  | 35, _ => exact ⟨fun _ => rfl, nofun, nofun, nofun, by decide⟩
  | 36, _ => exact ⟨nofun, nofun, nofun, fun _ => Or.inr ⟨_, rfl⟩, by decide⟩
theorem ck_all : ∀ (ci : Nat) (C : String) (T : u_T) (N : Nat), vwCl[ci]? = some (C, T, N) → CK ci C T N := by
  intro ci C T N h
  match ci, h with
  | 0, h => cases h; exact ck0
  | 1, h => cases h; exact ck1
  | 2, h => cases h; exact ck2
  | 3, h => cases h; exact ck3
  | 4, h => cases h; exact ck4
  | 5, h => cases h; exact ck5
  | 6, h => cases h; exact ck6
  | 7, h => cases h; exact ck7
  | 8, h => cases h; exact ck8
  | 9, h => cases h; exact ck9
  | 10, h => cases h; exact ck10
  | 11, h => cases h; exact ck11
  | 12, h => cases h; exact ck12
  | n + 13, h => cases h
