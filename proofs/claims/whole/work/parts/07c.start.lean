def wI3 (I : Nat → Nat → Int32) : Nat → Nat → Int32 := (up2 (up2 I 4 0 (0 : Int32)) 4 1 (0 : Int32))
set_option maxRecDepth 20000 in
theorem w3 {N : Nat} {I : Nat → Nat → Int32} {Q : Option Value → St → Prop} (zI : Zr 5 I) (K : Zr 9 (wI3 I) → Q none (zS12 N, wI3 I, L0)) : V (rmC 4 4 40) mX8_init 0 0 0 [.ref 4] [] (zS4 N, I, L0) Q := by
  have z0 := zI
  refine v_blk 1 (o := []) (pc' := 1) (ls' := [.ref 4]) (st' := [.ref 4]) (σ' := (zS4 N, I, L0)) rfl trivial ?_
  refine v_obj rfl rfl (Nat.le_of_ble_eq_true rfl) (Nat.le_of_ble_eq_true rfl) ?_
  refine v_blk 3 (o := []) (pc' := 9) (ls' := [.ref 4]) (st' := []) (σ' := (zS4 N, (up2 I 4 0 (0 : Int32)), L0)) rfl trivial ?_
  generalize hI1 : (up2 I 4 0 (0 : Int32)) = I1
  have zI1 : Zr 5 I1 := hI1 ▸ Zr_up2 zI (by decide)
  refine v_blk 3 (o := []) (pc' := 14) (ls' := [.ref 4]) (st' := []) (σ' := (zS4 N, (up2 I1 4 1 (0 : Int32)), L0)) rfl trivial ?_
  generalize hI2 : (up2 I1 4 1 (0 : Int32)) = I2
  have zI2 : Zr 5 I2 := hI2 ▸ Zr_up2 zI1 (by decide)
  refine v_blk 2 (o := []) (pc' := 17) (ls' := [.ref 4]) (st' := [.int (10 : Int32), .ref 4]) (σ' := (zS4 N, I2, L0)) rfl trivial ?_
  refine v_newarr (t := 0) (N' := 10) (by decide) rfl (by decide) rfl (by decide) (Nat.le_of_ble_eq_true rfl) rfl (inR_of rfl) (inR_of rfl) (Nat.le_of_ble_eq_true rfl) (Nat.le_of_ble_eq_true rfl) ?_
  rw [newM_eq (sh := zS4 N) (I := I2) (L := L0) (x := .inr (0, 10, [])) (zI2 _ (Nat.le_of_eq rfl)) (fun _ => rfl)]
  show V (rmC 4 4 40) mX8_init 1 10 19 [.ref 4] [.ref 5, .ref 4] (zS5 N, I2, L0) _
  replace zI2 : Zr 6 I2 := Zr_le zI2 (by decide)
  refine v_putR (j := 2) (v := 5) (ci := 8) (kf := 2) rfl rfl rfl rfl rfl rfl ?_
  show V (rmC 4 4 40) mX8_init 1 10 22 [.ref 4] [] (zS6 N, I2, L0) _
  refine v_blk 2 (o := []) (pc' := 25) (ls' := [.ref 4]) (st' := [.int (10 : Int32), .ref 4]) (σ' := (zS6 N, I2, L0)) rfl trivial ?_
  refine v_newarr (t := 0) (N' := 10) (by decide) rfl (by decide) rfl (by decide) (Nat.le_of_ble_eq_true rfl) rfl (inR_of rfl) (inR_of rfl) (Nat.le_of_ble_eq_true rfl) (Nat.le_of_ble_eq_true rfl) ?_
  rw [newM_eq (sh := zS6 N) (I := I2) (L := L0) (x := .inr (0, 10, [])) (zI2 _ (Nat.le_of_eq rfl)) (fun _ => rfl)]
  show V (rmC 4 4 40) mX8_init 2 20 27 [.ref 4] [.ref 6, .ref 4] (zS7 N, I2, L0) _
  replace zI2 : Zr 7 I2 := Zr_le zI2 (by decide)
  refine v_putR (j := 2) (v := 6) (ci := 8) (kf := 3) rfl rfl rfl rfl rfl rfl ?_
  show V (rmC 4 4 40) mX8_init 2 20 30 [.ref 4] [] (zS8 N, I2, L0) _
  refine v_blk 2 (o := []) (pc' := 33) (ls' := [.ref 4]) (st' := [.int (10 : Int32), .ref 4]) (σ' := (zS8 N, I2, L0)) rfl trivial ?_
  refine v_newarr (t := 0) (N' := 10) (by decide) rfl (by decide) rfl (by decide) (Nat.le_of_ble_eq_true rfl) rfl (inR_of rfl) (inR_of rfl) (Nat.le_of_ble_eq_true rfl) (Nat.le_of_ble_eq_true rfl) ?_
  rw [newM_eq (sh := zS8 N) (I := I2) (L := L0) (x := .inr (0, 10, [])) (zI2 _ (Nat.le_of_eq rfl)) (fun _ => rfl)]
  show V (rmC 4 4 40) mX8_init 3 30 35 [.ref 4] [.ref 7, .ref 4] (zS9 N, I2, L0) _
  replace zI2 : Zr 8 I2 := Zr_le zI2 (by decide)
  refine v_putR (j := 2) (v := 7) (ci := 8) (kf := 4) rfl rfl rfl rfl rfl rfl ?_
  show V (rmC 4 4 40) mX8_init 3 30 38 [.ref 4] [] (zS10 N, I2, L0) _
  refine v_blk 2 (o := []) (pc' := 41) (ls' := [.ref 4]) (st' := [.int (10 : Int32), .ref 4]) (σ' := (zS10 N, I2, L0)) rfl trivial ?_
  refine v_newarr (t := 0) (N' := 10) (by decide) rfl (by decide) rfl (by decide) (Nat.le_of_ble_eq_true rfl) rfl (inR_of rfl) (inR_of rfl) (Nat.le_of_ble_eq_true rfl) (Nat.le_of_ble_eq_true rfl) ?_
  rw [newM_eq (sh := zS10 N) (I := I2) (L := L0) (x := .inr (0, 10, [])) (zI2 _ (Nat.le_of_eq rfl)) (fun _ => rfl)]
  show V (rmC 4 4 40) mX8_init 4 40 43 [.ref 4] [.ref 8, .ref 4] (zS11 N, I2, L0) _
  replace zI2 : Zr 9 I2 := Zr_le zI2 (by decide)
  refine v_putR (j := 2) (v := 8) (ci := 8) (kf := 5) rfl rfl rfl rfl rfl rfl ?_
  show V (rmC 4 4 40) mX8_init 4 40 46 [.ref 4] [] (zS12 N, I2, L0) _
  refine v_vret rfl trivial (Nat.le_of_ble_eq_true rfl) (Nat.le_of_ble_eq_true rfl) ?_
  subst_vars
  exact K (by assumption)
def wI4 (I : Nat → Nat → Int32) : Nat → Nat → Int32 := (up2 I 9 0 (0 : Int32))
set_option maxRecDepth 20000 in
theorem w4 {N : Nat} {I : Nat → Nat → Int32} {Q : Option Value → St → Prop} (zI : Zr 10 I) (K : Zr 13 (wI4 I) → Q none (zS20 N, wI4 I, L0)) : V (rmC 4 3 18) mX3_init 0 0 0 [.ref 9] [] (zS14 N, I, L0) Q := by
  have z0 := zI
  refine v_blk 1 (o := []) (pc' := 1) (ls' := [.ref 9]) (st' := [.ref 9]) (σ' := (zS14 N, I, L0)) rfl trivial ?_
  refine v_obj rfl rfl (Nat.le_of_ble_eq_true rfl) (Nat.le_of_ble_eq_true rfl) ?_
  refine v_blk 3 (o := []) (pc' := 9) (ls' := [.ref 9]) (st' := []) (σ' := (zS14 N, (up2 I 9 0 (0 : Int32)), L0)) rfl trivial ?_
  generalize hI1 : (up2 I 9 0 (0 : Int32)) = I1
  have zI1 : Zr 10 I1 := hI1 ▸ Zr_up2 zI (by decide)
  refine v_blk 2 (o := []) (pc' := 12) (ls' := [.ref 9]) (st' := [.int (6 : Int32), .ref 9]) (σ' := (zS14 N, I1, L0)) rfl trivial ?_
  refine v_newarr (t := 0) (N' := 6) (by decide) rfl (by decide) rfl (by decide) (Nat.le_of_ble_eq_true rfl) rfl (inR_of rfl) (inR_of rfl) (Nat.le_of_ble_eq_true rfl) (Nat.le_of_ble_eq_true rfl) ?_
  rw [newM_eq (sh := zS14 N) (I := I1) (L := L0) (x := .inr (0, 6, [])) (zI1 _ (Nat.le_of_eq rfl)) (fun _ => rfl)]
  show V (rmC 4 3 18) mX3_init 1 6 14 [.ref 9] [.ref 10, .ref 9] (zS15 N, I1, L0) _
  replace zI1 : Zr 11 I1 := Zr_le zI1 (by decide)
  refine v_putR (j := 7) (v := 10) (ci := 3) (kf := 1) rfl rfl rfl rfl rfl rfl ?_
  show V (rmC 4 3 18) mX3_init 1 6 17 [.ref 9] [] (zS16 N, I1, L0) _
  refine v_blk 2 (o := []) (pc' := 20) (ls' := [.ref 9]) (st' := [.int (6 : Int32), .ref 9]) (σ' := (zS16 N, I1, L0)) rfl trivial ?_
  refine v_newarr (t := 0) (N' := 6) (by decide) rfl (by decide) rfl (by decide) (Nat.le_of_ble_eq_true rfl) rfl (inR_of rfl) (inR_of rfl) (Nat.le_of_ble_eq_true rfl) (Nat.le_of_ble_eq_true rfl) ?_
  rw [newM_eq (sh := zS16 N) (I := I1) (L := L0) (x := .inr (0, 6, [])) (zI1 _ (Nat.le_of_eq rfl)) (fun _ => rfl)]
  show V (rmC 4 3 18) mX3_init 2 12 22 [.ref 9] [.ref 11, .ref 9] (zS17 N, I1, L0) _
  replace zI1 : Zr 12 I1 := Zr_le zI1 (by decide)
  refine v_putR (j := 7) (v := 11) (ci := 3) (kf := 2) rfl rfl rfl rfl rfl rfl ?_
  show V (rmC 4 3 18) mX3_init 2 12 25 [.ref 9] [] (zS18 N, I1, L0) _
  refine v_blk 2 (o := []) (pc' := 28) (ls' := [.ref 9]) (st' := [.int (6 : Int32), .ref 9]) (σ' := (zS18 N, I1, L0)) rfl trivial ?_
  refine v_newarr (t := 0) (N' := 6) (by decide) rfl (by decide) rfl (by decide) (Nat.le_of_ble_eq_true rfl) rfl (inR_of rfl) (inR_of rfl) (Nat.le_of_ble_eq_true rfl) (Nat.le_of_ble_eq_true rfl) ?_
  rw [newM_eq (sh := zS18 N) (I := I1) (L := L0) (x := .inr (0, 6, [])) (zI1 _ (Nat.le_of_eq rfl)) (fun _ => rfl)]
  show V (rmC 4 3 18) mX3_init 3 18 30 [.ref 9] [.ref 12, .ref 9] (zS19 N, I1, L0) _
  replace zI1 : Zr 13 I1 := Zr_le zI1 (by decide)
  refine v_putR (j := 7) (v := 12) (ci := 3) (kf := 3) rfl rfl rfl rfl rfl rfl ?_
  show V (rmC 4 3 18) mX3_init 3 18 33 [.ref 9] [] (zS20 N, I1, L0) _
  refine v_vret rfl trivial (Nat.le_of_ble_eq_true rfl) (Nat.le_of_ble_eq_true rfl) ?_
  subst_vars
  exact K (by assumption)
def wI5 (I : Nat → Nat → Int32) : Nat → Nat → Int32 := (up2 I 13 0 (0 : Int32))
set_option maxRecDepth 20000 in
theorem w5 {N : Nat} {I : Nat → Nat → Int32} {Q : Option Value → St → Prop} (zI : Zr 14 I) (K : Zr 17 (wI5 I) → Q none (zS28 N, wI5 I, L0)) : V (rmC 4 3 30) mX7_init 0 0 0 [.ref 13] [] (zS22 N, I, L0) Q := by
  have z0 := zI
  refine v_blk 1 (o := []) (pc' := 1) (ls' := [.ref 13]) (st' := [.ref 13]) (σ' := (zS22 N, I, L0)) rfl trivial ?_
  refine v_obj rfl rfl (Nat.le_of_ble_eq_true rfl) (Nat.le_of_ble_eq_true rfl) ?_
  refine v_blk 3 (o := []) (pc' := 9) (ls' := [.ref 13]) (st' := []) (σ' := (zS22 N, (up2 I 13 0 (0 : Int32)), L0)) rfl trivial ?_
  generalize hI1 : (up2 I 13 0 (0 : Int32)) = I1
  have zI1 : Zr 14 I1 := hI1 ▸ Zr_up2 zI (by decide)
  refine v_blk 2 (o := []) (pc' := 12) (ls' := [.ref 13]) (st' := [.int (10 : Int32), .ref 13]) (σ' := (zS22 N, I1, L0)) rfl trivial ?_
  refine v_newarr (t := 0) (N' := 10) (by decide) rfl (by decide) rfl (by decide) (Nat.le_of_ble_eq_true rfl) rfl (inR_of rfl) (inR_of rfl) (Nat.le_of_ble_eq_true rfl) (Nat.le_of_ble_eq_true rfl) ?_
  rw [newM_eq (sh := zS22 N) (I := I1) (L := L0) (x := .inr (0, 10, [])) (zI1 _ (Nat.le_of_eq rfl)) (fun _ => rfl)]
  show V (rmC 4 3 30) mX7_init 1 10 14 [.ref 13] [.ref 14, .ref 13] (zS23 N, I1, L0) _
  replace zI1 : Zr 15 I1 := Zr_le zI1 (by decide)
  refine v_putR (j := 11) (v := 14) (ci := 7) (kf := 1) rfl rfl rfl rfl rfl rfl ?_
  show V (rmC 4 3 30) mX7_init 1 10 17 [.ref 13] [] (zS24 N, I1, L0) _
  refine v_blk 2 (o := []) (pc' := 20) (ls' := [.ref 13]) (st' := [.int (10 : Int32), .ref 13]) (σ' := (zS24 N, I1, L0)) rfl trivial ?_
  refine v_newarr (t := 0) (N' := 10) (by decide) rfl (by decide) rfl (by decide) (Nat.le_of_ble_eq_true rfl) rfl (inR_of rfl) (inR_of rfl) (Nat.le_of_ble_eq_true rfl) (Nat.le_of_ble_eq_true rfl) ?_
  rw [newM_eq (sh := zS24 N) (I := I1) (L := L0) (x := .inr (0, 10, [])) (zI1 _ (Nat.le_of_eq rfl)) (fun _ => rfl)]
  show V (rmC 4 3 30) mX7_init 2 20 22 [.ref 13] [.ref 15, .ref 13] (zS25 N, I1, L0) _
  replace zI1 : Zr 16 I1 := Zr_le zI1 (by decide)
  refine v_putR (j := 11) (v := 15) (ci := 7) (kf := 2) rfl rfl rfl rfl rfl rfl ?_
  show V (rmC 4 3 30) mX7_init 2 20 25 [.ref 13] [] (zS26 N, I1, L0) _
  refine v_blk 2 (o := []) (pc' := 28) (ls' := [.ref 13]) (st' := [.int (10 : Int32), .ref 13]) (σ' := (zS26 N, I1, L0)) rfl trivial ?_
  refine v_newarr (t := 0) (N' := 10) (by decide) rfl (by decide) rfl (by decide) (Nat.le_of_ble_eq_true rfl) rfl (inR_of rfl) (inR_of rfl) (Nat.le_of_ble_eq_true rfl) (Nat.le_of_ble_eq_true rfl) ?_
  rw [newM_eq (sh := zS26 N) (I := I1) (L := L0) (x := .inr (0, 10, [])) (zI1 _ (Nat.le_of_eq rfl)) (fun _ => rfl)]
  show V (rmC 4 3 30) mX7_init 3 30 30 [.ref 13] [.ref 16, .ref 13] (zS27 N, I1, L0) _
  replace zI1 : Zr 17 I1 := Zr_le zI1 (by decide)
  refine v_putR (j := 11) (v := 16) (ci := 7) (kf := 3) rfl rfl rfl rfl rfl rfl ?_
  show V (rmC 4 3 30) mX7_init 3 30 33 [.ref 13] [] (zS28 N, I1, L0) _
  refine v_vret rfl trivial (Nat.le_of_ble_eq_true rfl) (Nat.le_of_ble_eq_true rfl) ?_
  subst_vars
  exact K (by assumption)
def wI6 (I : Nat → Nat → Int32) : Nat → Nat → Int32 := (up2 I 17 0 (0 : Int32))
set_option maxRecDepth 20000 in
theorem w6 {N : Nat} {I : Nat → Nat → Int32} {Q : Option Value → St → Prop} (zI : Zr 18 I) (K : Zr 21 (wI6 I) → Q none (zS36 N, wI6 I, L0)) : V (rmC 4 3 60) mX9_init 0 0 0 [.ref 17] [] (zS30 N, I, L0) Q := by
  have z0 := zI
  refine v_blk 1 (o := []) (pc' := 1) (ls' := [.ref 17]) (st' := [.ref 17]) (σ' := (zS30 N, I, L0)) rfl trivial ?_
  refine v_obj rfl rfl (Nat.le_of_ble_eq_true rfl) (Nat.le_of_ble_eq_true rfl) ?_
  refine v_blk 3 (o := []) (pc' := 9) (ls' := [.ref 17]) (st' := []) (σ' := (zS30 N, (up2 I 17 0 (0 : Int32)), L0)) rfl trivial ?_
  generalize hI1 : (up2 I 17 0 (0 : Int32)) = I1
  have zI1 : Zr 18 I1 := hI1 ▸ Zr_up2 zI (by decide)
  refine v_blk 2 (o := []) (pc' := 12) (ls' := [.ref 17]) (st' := [.int (20 : Int32), .ref 17]) (σ' := (zS30 N, I1, L0)) rfl trivial ?_
  refine v_newarr (t := 0) (N' := 20) (by decide) rfl (by decide) rfl (by decide) (Nat.le_of_ble_eq_true rfl) rfl (inR_of rfl) (inR_of rfl) (Nat.le_of_ble_eq_true rfl) (Nat.le_of_ble_eq_true rfl) ?_
  rw [newM_eq (sh := zS30 N) (I := I1) (L := L0) (x := .inr (0, 20, [])) (zI1 _ (Nat.le_of_eq rfl)) (fun _ => rfl)]
  show V (rmC 4 3 60) mX9_init 1 20 14 [.ref 17] [.ref 18, .ref 17] (zS31 N, I1, L0) _
  replace zI1 : Zr 19 I1 := Zr_le zI1 (by decide)
  refine v_putR (j := 15) (v := 18) (ci := 9) (kf := 1) rfl rfl rfl rfl rfl rfl ?_
  show V (rmC 4 3 60) mX9_init 1 20 17 [.ref 17] [] (zS32 N, I1, L0) _
  refine v_blk 2 (o := []) (pc' := 20) (ls' := [.ref 17]) (st' := [.int (20 : Int32), .ref 17]) (σ' := (zS32 N, I1, L0)) rfl trivial ?_
  refine v_newarr (t := 0) (N' := 20) (by decide) rfl (by decide) rfl (by decide) (Nat.le_of_ble_eq_true rfl) rfl (inR_of rfl) (inR_of rfl) (Nat.le_of_ble_eq_true rfl) (Nat.le_of_ble_eq_true rfl) ?_
  rw [newM_eq (sh := zS32 N) (I := I1) (L := L0) (x := .inr (0, 20, [])) (zI1 _ (Nat.le_of_eq rfl)) (fun _ => rfl)]
  show V (rmC 4 3 60) mX9_init 2 40 22 [.ref 17] [.ref 19, .ref 17] (zS33 N, I1, L0) _
  replace zI1 : Zr 20 I1 := Zr_le zI1 (by decide)
  refine v_putR (j := 15) (v := 19) (ci := 9) (kf := 2) rfl rfl rfl rfl rfl rfl ?_
  show V (rmC 4 3 60) mX9_init 2 40 25 [.ref 17] [] (zS34 N, I1, L0) _
  refine v_blk 2 (o := []) (pc' := 28) (ls' := [.ref 17]) (st' := [.int (20 : Int32), .ref 17]) (σ' := (zS34 N, I1, L0)) rfl trivial ?_
  refine v_newarr (t := 0) (N' := 20) (by decide) rfl (by decide) rfl (by decide) (Nat.le_of_ble_eq_true rfl) rfl (inR_of rfl) (inR_of rfl) (Nat.le_of_ble_eq_true rfl) (Nat.le_of_ble_eq_true rfl) ?_
  rw [newM_eq (sh := zS34 N) (I := I1) (L := L0) (x := .inr (0, 20, [])) (zI1 _ (Nat.le_of_eq rfl)) (fun _ => rfl)]
  show V (rmC 4 3 60) mX9_init 3 60 30 [.ref 17] [.ref 20, .ref 17] (zS35 N, I1, L0) _
  replace zI1 : Zr 21 I1 := Zr_le zI1 (by decide)
  refine v_putR (j := 15) (v := 20) (ci := 9) (kf := 3) rfl rfl rfl rfl rfl rfl ?_
  show V (rmC 4 3 60) mX9_init 3 60 33 [.ref 17] [] (zS36 N, I1, L0) _
  refine v_vret rfl trivial (Nat.le_of_ble_eq_true rfl) (Nat.le_of_ble_eq_true rfl) ?_
  subst_vars
  exact K (by assumption)
def wI2 (I : Nat → Nat → Int32) : Nat → Nat → Int32 := (up2 (up2 (up2 (wI6 (wI5 (wI4 (wI3 I)))) 3 4 (0 : Int32)) 3 5 (0 : Int32)) 3 6 (-1 : Int32))
set_option maxRecDepth 20000 in
theorem w2 {N : Nat} {I : Nat → Nat → Int32} {Q : Option Value → St → Prop} (zI : Zr 4 I) (K : Zr 21 (wI2 I) → Q none (zS37 N, wI2 I, L0)) : V (rmC 6 17 166) mX1_init 0 0 0 [.ref 3] [] (zS3 N, I, L0) Q := by
  have z0 := zI
  refine v_blk 1 (o := []) (pc' := 1) (ls' := [.ref 3]) (st' := [.ref 3]) (σ' := (zS3 N, I, L0)) rfl trivial ?_
  refine v_obj rfl rfl (Nat.le_of_ble_eq_true rfl) (Nat.le_of_ble_eq_true rfl) ?_
  refine v_blk 1 (o := []) (pc' := 5) (ls' := [.ref 3]) (st' := [.ref 3]) (σ' := (zS3 N, I, L0)) rfl trivial ?_
  refine v_new (ci := 8) rfl rfl (Nat.le_of_ble_eq_true rfl) rfl (inR_of rfl) (inR_of rfl) (Nat.le_of_ble_eq_true rfl) (Nat.le_of_ble_eq_true rfl) ?_
  rw [newM_eq (sh := zS3 N) (I := I) (L := L0) (x := .inl (8, [])) (zI _ (Nat.le_of_eq rfl)) (fun _ => rfl)]
  show V (rmC 6 17 166) mX1_init 1 6 8 [.ref 3] [.ref 4, .ref 3] (zS4 N, I, L0) _
  replace zI : Zr 5 I := Zr_le zI (by decide)
  refine v_blk 1 (o := []) (pc' := 9) (ls' := [.ref 3]) (st' := [.ref 4, .ref 4, .ref 3]) (σ' := (zS4 N, I, L0)) rfl trivial ?_
  refine v_spec (R' := (rmC 4 4 40)) (j := 2) (As := []) (rest := [.ref 4, .ref 3]) rfl rfl rfl rfl ⟨Nat.le_of_ble_eq_true rfl, Nat.le_of_ble_eq_true rfl, Nat.le_of_ble_eq_true rfl, Nat.le_of_ble_eq_true rfl⟩ (Nat.le_of_ble_eq_true rfl) (Nat.le_of_ble_eq_true rfl) ?_
  refine w3 zI (fun zN => ⟨Or.inr ⟨inR_of rfl, inR_of rfl⟩, ?_⟩)
  generalize hI1 : wI3 I = I1 at zN ⊢
  have zI1 := zN
  clear zN
  show V (rmC 6 17 166) mX1_init 5 46 12 [.ref 3] [.ref 4, .ref 3] (zS12 N, I1, L0) _
  refine v_putR (j := 1) (v := 4) (ci := 1) (kf := 0) rfl rfl rfl rfl rfl rfl ?_
  show V (rmC 6 17 166) mX1_init 5 46 15 [.ref 3] [] (zS13 N, I1, L0) _
  refine v_blk 1 (o := []) (pc' := 16) (ls' := [.ref 3]) (st' := [.ref 3]) (σ' := (zS13 N, I1, L0)) rfl trivial ?_
  refine v_new (ci := 3) rfl rfl (Nat.le_of_ble_eq_true rfl) rfl (inR_of rfl) (inR_of rfl) (Nat.le_of_ble_eq_true rfl) (Nat.le_of_ble_eq_true rfl) ?_
  rw [newM_eq (sh := zS13 N) (I := I1) (L := L0) (x := .inl (3, [])) (zI1 _ (Nat.le_of_eq rfl)) (fun _ => rfl)]
  show V (rmC 6 17 166) mX1_init 6 50 19 [.ref 3] [.ref 9, .ref 3] (zS14 N, I1, L0) _
  replace zI1 : Zr 10 I1 := Zr_le zI1 (by decide)
  refine v_blk 1 (o := []) (pc' := 20) (ls' := [.ref 3]) (st' := [.ref 9, .ref 9, .ref 3]) (σ' := (zS14 N, I1, L0)) rfl trivial ?_
  refine v_spec (R' := (rmC 4 3 18)) (j := 7) (As := []) (rest := [.ref 9, .ref 3]) rfl rfl rfl rfl ⟨Nat.le_of_ble_eq_true rfl, Nat.le_of_ble_eq_true rfl, Nat.le_of_ble_eq_true rfl, Nat.le_of_ble_eq_true rfl⟩ (Nat.le_of_ble_eq_true rfl) (Nat.le_of_ble_eq_true rfl) ?_
  refine w4 zI1 (fun zN => ⟨Or.inr ⟨inR_of rfl, inR_of rfl⟩, ?_⟩)
  generalize hI2 : wI4 I1 = I2 at zN ⊢
  have zI2 := zN
  clear zN
  show V (rmC 6 17 166) mX1_init 9 68 23 [.ref 3] [.ref 9, .ref 3] (zS20 N, I2, L0) _
  refine v_putR (j := 1) (v := 9) (ci := 1) (kf := 1) rfl rfl rfl rfl rfl rfl ?_
  show V (rmC 6 17 166) mX1_init 9 68 26 [.ref 3] [] (zS21 N, I2, L0) _
  refine v_blk 1 (o := []) (pc' := 27) (ls' := [.ref 3]) (st' := [.ref 3]) (σ' := (zS21 N, I2, L0)) rfl trivial ?_
  refine v_new (ci := 7) rfl rfl (Nat.le_of_ble_eq_true rfl) rfl (inR_of rfl) (inR_of rfl) (Nat.le_of_ble_eq_true rfl) (Nat.le_of_ble_eq_true rfl) ?_
  rw [newM_eq (sh := zS21 N) (I := I2) (L := L0) (x := .inl (7, [])) (zI2 _ (Nat.le_of_eq rfl)) (fun _ => rfl)]
  show V (rmC 6 17 166) mX1_init 10 72 30 [.ref 3] [.ref 13, .ref 3] (zS22 N, I2, L0) _
  replace zI2 : Zr 14 I2 := Zr_le zI2 (by decide)
  refine v_blk 1 (o := []) (pc' := 31) (ls' := [.ref 3]) (st' := [.ref 13, .ref 13, .ref 3]) (σ' := (zS22 N, I2, L0)) rfl trivial ?_
  refine v_spec (R' := (rmC 4 3 30)) (j := 11) (As := []) (rest := [.ref 13, .ref 3]) rfl rfl rfl rfl ⟨Nat.le_of_ble_eq_true rfl, Nat.le_of_ble_eq_true rfl, Nat.le_of_ble_eq_true rfl, Nat.le_of_ble_eq_true rfl⟩ (Nat.le_of_ble_eq_true rfl) (Nat.le_of_ble_eq_true rfl) ?_
  refine w5 zI2 (fun zN => ⟨Or.inr ⟨inR_of rfl, inR_of rfl⟩, ?_⟩)
  generalize hI3 : wI5 I2 = I3 at zN ⊢
  have zI3 := zN
  clear zN
  show V (rmC 6 17 166) mX1_init 13 102 34 [.ref 3] [.ref 13, .ref 3] (zS28 N, I3, L0) _
  refine v_putR (j := 1) (v := 13) (ci := 1) (kf := 2) rfl rfl rfl rfl rfl rfl ?_
  show V (rmC 6 17 166) mX1_init 13 102 37 [.ref 3] [] (zS29 N, I3, L0) _
  refine v_blk 1 (o := []) (pc' := 38) (ls' := [.ref 3]) (st' := [.ref 3]) (σ' := (zS29 N, I3, L0)) rfl trivial ?_
  refine v_new (ci := 9) rfl rfl (Nat.le_of_ble_eq_true rfl) rfl (inR_of rfl) (inR_of rfl) (Nat.le_of_ble_eq_true rfl) (Nat.le_of_ble_eq_true rfl) ?_
  rw [newM_eq (sh := zS29 N) (I := I3) (L := L0) (x := .inl (9, [])) (zI3 _ (Nat.le_of_eq rfl)) (fun _ => rfl)]
  show V (rmC 6 17 166) mX1_init 14 106 41 [.ref 3] [.ref 17, .ref 3] (zS30 N, I3, L0) _
  replace zI3 : Zr 18 I3 := Zr_le zI3 (by decide)
  refine v_blk 1 (o := []) (pc' := 42) (ls' := [.ref 3]) (st' := [.ref 17, .ref 17, .ref 3]) (σ' := (zS30 N, I3, L0)) rfl trivial ?_
  refine v_spec (R' := (rmC 4 3 60)) (j := 15) (As := []) (rest := [.ref 17, .ref 3]) rfl rfl rfl rfl ⟨Nat.le_of_ble_eq_true rfl, Nat.le_of_ble_eq_true rfl, Nat.le_of_ble_eq_true rfl, Nat.le_of_ble_eq_true rfl⟩ (Nat.le_of_ble_eq_true rfl) (Nat.le_of_ble_eq_true rfl) ?_
  refine w6 zI3 (fun zN => ⟨Or.inr ⟨inR_of rfl, inR_of rfl⟩, ?_⟩)
  generalize hI4 : wI6 I3 = I4 at zN ⊢
  have zI4 := zN
  clear zN
  show V (rmC 6 17 166) mX1_init 17 166 45 [.ref 3] [.ref 17, .ref 3] (zS36 N, I4, L0) _
  refine v_putR (j := 1) (v := 17) (ci := 1) (kf := 3) rfl rfl rfl rfl rfl rfl ?_
  show V (rmC 6 17 166) mX1_init 17 166 48 [.ref 3] [] (zS37 N, I4, L0) _
  refine v_blk 3 (o := []) (pc' := 53) (ls' := [.ref 3]) (st' := []) (σ' := (zS37 N, (up2 I4 3 4 (0 : Int32)), L0)) rfl trivial ?_
  generalize hI5 : (up2 I4 3 4 (0 : Int32)) = I5
  have zI5 : Zr 21 I5 := hI5 ▸ Zr_up2 zI4 (by decide)
  refine v_blk 3 (o := []) (pc' := 58) (ls' := [.ref 3]) (st' := []) (σ' := (zS37 N, (up2 I5 3 5 (0 : Int32)), L0)) rfl trivial ?_
  generalize hI6 : (up2 I5 3 5 (0 : Int32)) = I6
  have zI6 : Zr 21 I6 := hI6 ▸ Zr_up2 zI5 (by decide)
  refine v_blk 3 (o := []) (pc' := 63) (ls' := [.ref 3]) (st' := []) (σ' := (zS37 N, (up2 I6 3 6 (-1 : Int32)), L0)) rfl trivial ?_
  generalize hI7 : (up2 I6 3 6 (-1 : Int32)) = I7
  have zI7 : Zr 21 I7 := hI7 ▸ Zr_up2 zI6 (by decide)
  refine v_vret rfl trivial (Nat.le_of_ble_eq_true rfl) (Nat.le_of_ble_eq_true rfl) ?_
  subst_vars
  exact K (by assumption)
def wI8 (I : Nat → Nat → Int32) : Nat → Nat → Int32 := (up2 (up2 I 22 0 (0 : Int32)) 22 1 (0 : Int32))
set_option maxRecDepth 20000 in
theorem w8 {N : Nat} {I : Nat → Nat → Int32} {Q : Option Value → St → Prop} (zI : Zr 23 I) (K : Zr 27 (wI8 I) → Q none (zS48 N, wI8 I, L0)) : V (rmC 4 4 40) mX8_init 0 0 0 [.ref 22] [] (zS40 N, I, L0) Q := by
  have z0 := zI
  refine v_blk 1 (o := []) (pc' := 1) (ls' := [.ref 22]) (st' := [.ref 22]) (σ' := (zS40 N, I, L0)) rfl trivial ?_
  refine v_obj rfl rfl (Nat.le_of_ble_eq_true rfl) (Nat.le_of_ble_eq_true rfl) ?_
  refine v_blk 3 (o := []) (pc' := 9) (ls' := [.ref 22]) (st' := []) (σ' := (zS40 N, (up2 I 22 0 (0 : Int32)), L0)) rfl trivial ?_
  generalize hI1 : (up2 I 22 0 (0 : Int32)) = I1
  have zI1 : Zr 23 I1 := hI1 ▸ Zr_up2 zI (by decide)
  refine v_blk 3 (o := []) (pc' := 14) (ls' := [.ref 22]) (st' := []) (σ' := (zS40 N, (up2 I1 22 1 (0 : Int32)), L0)) rfl trivial ?_
  generalize hI2 : (up2 I1 22 1 (0 : Int32)) = I2
  have zI2 : Zr 23 I2 := hI2 ▸ Zr_up2 zI1 (by decide)
  refine v_blk 2 (o := []) (pc' := 17) (ls' := [.ref 22]) (st' := [.int (10 : Int32), .ref 22]) (σ' := (zS40 N, I2, L0)) rfl trivial ?_
  refine v_newarr (t := 0) (N' := 10) (by decide) rfl (by decide) rfl (by decide) (Nat.le_of_ble_eq_true rfl) rfl (inR_of rfl) (inR_of rfl) (Nat.le_of_ble_eq_true rfl) (Nat.le_of_ble_eq_true rfl) ?_
  rw [newM_eq (sh := zS40 N) (I := I2) (L := L0) (x := .inr (0, 10, [])) (zI2 _ (Nat.le_of_eq rfl)) (fun _ => rfl)]
  show V (rmC 4 4 40) mX8_init 1 10 19 [.ref 22] [.ref 23, .ref 22] (zS41 N, I2, L0) _
  replace zI2 : Zr 24 I2 := Zr_le zI2 (by decide)
  refine v_putR (j := 20) (v := 23) (ci := 8) (kf := 2) rfl rfl rfl rfl rfl rfl ?_
  show V (rmC 4 4 40) mX8_init 1 10 22 [.ref 22] [] (zS42 N, I2, L0) _
  refine v_blk 2 (o := []) (pc' := 25) (ls' := [.ref 22]) (st' := [.int (10 : Int32), .ref 22]) (σ' := (zS42 N, I2, L0)) rfl trivial ?_
  refine v_newarr (t := 0) (N' := 10) (by decide) rfl (by decide) rfl (by decide) (Nat.le_of_ble_eq_true rfl) rfl (inR_of rfl) (inR_of rfl) (Nat.le_of_ble_eq_true rfl) (Nat.le_of_ble_eq_true rfl) ?_
  rw [newM_eq (sh := zS42 N) (I := I2) (L := L0) (x := .inr (0, 10, [])) (zI2 _ (Nat.le_of_eq rfl)) (fun _ => rfl)]
  show V (rmC 4 4 40) mX8_init 2 20 27 [.ref 22] [.ref 24, .ref 22] (zS43 N, I2, L0) _
  replace zI2 : Zr 25 I2 := Zr_le zI2 (by decide)
  refine v_putR (j := 20) (v := 24) (ci := 8) (kf := 3) rfl rfl rfl rfl rfl rfl ?_
  show V (rmC 4 4 40) mX8_init 2 20 30 [.ref 22] [] (zS44 N, I2, L0) _
  refine v_blk 2 (o := []) (pc' := 33) (ls' := [.ref 22]) (st' := [.int (10 : Int32), .ref 22]) (σ' := (zS44 N, I2, L0)) rfl trivial ?_
  refine v_newarr (t := 0) (N' := 10) (by decide) rfl (by decide) rfl (by decide) (Nat.le_of_ble_eq_true rfl) rfl (inR_of rfl) (inR_of rfl) (Nat.le_of_ble_eq_true rfl) (Nat.le_of_ble_eq_true rfl) ?_
  rw [newM_eq (sh := zS44 N) (I := I2) (L := L0) (x := .inr (0, 10, [])) (zI2 _ (Nat.le_of_eq rfl)) (fun _ => rfl)]
  show V (rmC 4 4 40) mX8_init 3 30 35 [.ref 22] [.ref 25, .ref 22] (zS45 N, I2, L0) _
  replace zI2 : Zr 26 I2 := Zr_le zI2 (by decide)
  refine v_putR (j := 20) (v := 25) (ci := 8) (kf := 4) rfl rfl rfl rfl rfl rfl ?_
  show V (rmC 4 4 40) mX8_init 3 30 38 [.ref 22] [] (zS46 N, I2, L0) _
  refine v_blk 2 (o := []) (pc' := 41) (ls' := [.ref 22]) (st' := [.int (10 : Int32), .ref 22]) (σ' := (zS46 N, I2, L0)) rfl trivial ?_
  refine v_newarr (t := 0) (N' := 10) (by decide) rfl (by decide) rfl (by decide) (Nat.le_of_ble_eq_true rfl) rfl (inR_of rfl) (inR_of rfl) (Nat.le_of_ble_eq_true rfl) (Nat.le_of_ble_eq_true rfl) ?_
  rw [newM_eq (sh := zS46 N) (I := I2) (L := L0) (x := .inr (0, 10, [])) (zI2 _ (Nat.le_of_eq rfl)) (fun _ => rfl)]
  show V (rmC 4 4 40) mX8_init 4 40 43 [.ref 22] [.ref 26, .ref 22] (zS47 N, I2, L0) _
  replace zI2 : Zr 27 I2 := Zr_le zI2 (by decide)
  refine v_putR (j := 20) (v := 26) (ci := 8) (kf := 5) rfl rfl rfl rfl rfl rfl ?_
  show V (rmC 4 4 40) mX8_init 4 40 46 [.ref 22] [] (zS48 N, I2, L0) _
  refine v_vret rfl trivial (Nat.le_of_ble_eq_true rfl) (Nat.le_of_ble_eq_true rfl) ?_
  subst_vars
  exact K (by assumption)
def wI9 (I : Nat → Nat → Int32) : Nat → Nat → Int32 := (up2 I 27 0 (0 : Int32))
set_option maxRecDepth 20000 in
theorem w9 {N : Nat} {I : Nat → Nat → Int32} {Q : Option Value → St → Prop} (zI : Zr 28 I) (K : Zr 31 (wI9 I) → Q none (zS56 N, wI9 I, L0)) : V (rmC 4 3 18) mX3_init 0 0 0 [.ref 27] [] (zS50 N, I, L0) Q := by
  have z0 := zI
  refine v_blk 1 (o := []) (pc' := 1) (ls' := [.ref 27]) (st' := [.ref 27]) (σ' := (zS50 N, I, L0)) rfl trivial ?_
  refine v_obj rfl rfl (Nat.le_of_ble_eq_true rfl) (Nat.le_of_ble_eq_true rfl) ?_
  refine v_blk 3 (o := []) (pc' := 9) (ls' := [.ref 27]) (st' := []) (σ' := (zS50 N, (up2 I 27 0 (0 : Int32)), L0)) rfl trivial ?_
  generalize hI1 : (up2 I 27 0 (0 : Int32)) = I1
  have zI1 : Zr 28 I1 := hI1 ▸ Zr_up2 zI (by decide)
  refine v_blk 2 (o := []) (pc' := 12) (ls' := [.ref 27]) (st' := [.int (6 : Int32), .ref 27]) (σ' := (zS50 N, I1, L0)) rfl trivial ?_
  refine v_newarr (t := 0) (N' := 6) (by decide) rfl (by decide) rfl (by decide) (Nat.le_of_ble_eq_true rfl) rfl (inR_of rfl) (inR_of rfl) (Nat.le_of_ble_eq_true rfl) (Nat.le_of_ble_eq_true rfl) ?_
  rw [newM_eq (sh := zS50 N) (I := I1) (L := L0) (x := .inr (0, 6, [])) (zI1 _ (Nat.le_of_eq rfl)) (fun _ => rfl)]
  show V (rmC 4 3 18) mX3_init 1 6 14 [.ref 27] [.ref 28, .ref 27] (zS51 N, I1, L0) _
  replace zI1 : Zr 29 I1 := Zr_le zI1 (by decide)
  refine v_putR (j := 25) (v := 28) (ci := 3) (kf := 1) rfl rfl rfl rfl rfl rfl ?_
  show V (rmC 4 3 18) mX3_init 1 6 17 [.ref 27] [] (zS52 N, I1, L0) _
  refine v_blk 2 (o := []) (pc' := 20) (ls' := [.ref 27]) (st' := [.int (6 : Int32), .ref 27]) (σ' := (zS52 N, I1, L0)) rfl trivial ?_
  refine v_newarr (t := 0) (N' := 6) (by decide) rfl (by decide) rfl (by decide) (Nat.le_of_ble_eq_true rfl) rfl (inR_of rfl) (inR_of rfl) (Nat.le_of_ble_eq_true rfl) (Nat.le_of_ble_eq_true rfl) ?_
  rw [newM_eq (sh := zS52 N) (I := I1) (L := L0) (x := .inr (0, 6, [])) (zI1 _ (Nat.le_of_eq rfl)) (fun _ => rfl)]
  show V (rmC 4 3 18) mX3_init 2 12 22 [.ref 27] [.ref 29, .ref 27] (zS53 N, I1, L0) _
  replace zI1 : Zr 30 I1 := Zr_le zI1 (by decide)
  refine v_putR (j := 25) (v := 29) (ci := 3) (kf := 2) rfl rfl rfl rfl rfl rfl ?_
  show V (rmC 4 3 18) mX3_init 2 12 25 [.ref 27] [] (zS54 N, I1, L0) _
  refine v_blk 2 (o := []) (pc' := 28) (ls' := [.ref 27]) (st' := [.int (6 : Int32), .ref 27]) (σ' := (zS54 N, I1, L0)) rfl trivial ?_
  refine v_newarr (t := 0) (N' := 6) (by decide) rfl (by decide) rfl (by decide) (Nat.le_of_ble_eq_true rfl) rfl (inR_of rfl) (inR_of rfl) (Nat.le_of_ble_eq_true rfl) (Nat.le_of_ble_eq_true rfl) ?_
  rw [newM_eq (sh := zS54 N) (I := I1) (L := L0) (x := .inr (0, 6, [])) (zI1 _ (Nat.le_of_eq rfl)) (fun _ => rfl)]
  show V (rmC 4 3 18) mX3_init 3 18 30 [.ref 27] [.ref 30, .ref 27] (zS55 N, I1, L0) _
  replace zI1 : Zr 31 I1 := Zr_le zI1 (by decide)
  refine v_putR (j := 25) (v := 30) (ci := 3) (kf := 3) rfl rfl rfl rfl rfl rfl ?_
  show V (rmC 4 3 18) mX3_init 3 18 33 [.ref 27] [] (zS56 N, I1, L0) _
  refine v_vret rfl trivial (Nat.le_of_ble_eq_true rfl) (Nat.le_of_ble_eq_true rfl) ?_
  subst_vars
  exact K (by assumption)
def wI10 (I : Nat → Nat → Int32) : Nat → Nat → Int32 := (up2 I 31 0 (0 : Int32))
set_option maxRecDepth 20000 in
theorem w10 {N : Nat} {I : Nat → Nat → Int32} {Q : Option Value → St → Prop} (zI : Zr 32 I) (K : Zr 35 (wI10 I) → Q none (zS64 N, wI10 I, L0)) : V (rmC 4 3 30) mX7_init 0 0 0 [.ref 31] [] (zS58 N, I, L0) Q := by
  have z0 := zI
  refine v_blk 1 (o := []) (pc' := 1) (ls' := [.ref 31]) (st' := [.ref 31]) (σ' := (zS58 N, I, L0)) rfl trivial ?_
  refine v_obj rfl rfl (Nat.le_of_ble_eq_true rfl) (Nat.le_of_ble_eq_true rfl) ?_
  refine v_blk 3 (o := []) (pc' := 9) (ls' := [.ref 31]) (st' := []) (σ' := (zS58 N, (up2 I 31 0 (0 : Int32)), L0)) rfl trivial ?_
  generalize hI1 : (up2 I 31 0 (0 : Int32)) = I1
  have zI1 : Zr 32 I1 := hI1 ▸ Zr_up2 zI (by decide)
  refine v_blk 2 (o := []) (pc' := 12) (ls' := [.ref 31]) (st' := [.int (10 : Int32), .ref 31]) (σ' := (zS58 N, I1, L0)) rfl trivial ?_
  refine v_newarr (t := 0) (N' := 10) (by decide) rfl (by decide) rfl (by decide) (Nat.le_of_ble_eq_true rfl) rfl (inR_of rfl) (inR_of rfl) (Nat.le_of_ble_eq_true rfl) (Nat.le_of_ble_eq_true rfl) ?_
  rw [newM_eq (sh := zS58 N) (I := I1) (L := L0) (x := .inr (0, 10, [])) (zI1 _ (Nat.le_of_eq rfl)) (fun _ => rfl)]
  show V (rmC 4 3 30) mX7_init 1 10 14 [.ref 31] [.ref 32, .ref 31] (zS59 N, I1, L0) _
  replace zI1 : Zr 33 I1 := Zr_le zI1 (by decide)
  refine v_putR (j := 29) (v := 32) (ci := 7) (kf := 1) rfl rfl rfl rfl rfl rfl ?_
  show V (rmC 4 3 30) mX7_init 1 10 17 [.ref 31] [] (zS60 N, I1, L0) _
  refine v_blk 2 (o := []) (pc' := 20) (ls' := [.ref 31]) (st' := [.int (10 : Int32), .ref 31]) (σ' := (zS60 N, I1, L0)) rfl trivial ?_
  refine v_newarr (t := 0) (N' := 10) (by decide) rfl (by decide) rfl (by decide) (Nat.le_of_ble_eq_true rfl) rfl (inR_of rfl) (inR_of rfl) (Nat.le_of_ble_eq_true rfl) (Nat.le_of_ble_eq_true rfl) ?_
  rw [newM_eq (sh := zS60 N) (I := I1) (L := L0) (x := .inr (0, 10, [])) (zI1 _ (Nat.le_of_eq rfl)) (fun _ => rfl)]
  show V (rmC 4 3 30) mX7_init 2 20 22 [.ref 31] [.ref 33, .ref 31] (zS61 N, I1, L0) _
  replace zI1 : Zr 34 I1 := Zr_le zI1 (by decide)
  refine v_putR (j := 29) (v := 33) (ci := 7) (kf := 2) rfl rfl rfl rfl rfl rfl ?_
  show V (rmC 4 3 30) mX7_init 2 20 25 [.ref 31] [] (zS62 N, I1, L0) _
  refine v_blk 2 (o := []) (pc' := 28) (ls' := [.ref 31]) (st' := [.int (10 : Int32), .ref 31]) (σ' := (zS62 N, I1, L0)) rfl trivial ?_
  refine v_newarr (t := 0) (N' := 10) (by decide) rfl (by decide) rfl (by decide) (Nat.le_of_ble_eq_true rfl) rfl (inR_of rfl) (inR_of rfl) (Nat.le_of_ble_eq_true rfl) (Nat.le_of_ble_eq_true rfl) ?_
  rw [newM_eq (sh := zS62 N) (I := I1) (L := L0) (x := .inr (0, 10, [])) (zI1 _ (Nat.le_of_eq rfl)) (fun _ => rfl)]
  show V (rmC 4 3 30) mX7_init 3 30 30 [.ref 31] [.ref 34, .ref 31] (zS63 N, I1, L0) _
  replace zI1 : Zr 35 I1 := Zr_le zI1 (by decide)
  refine v_putR (j := 29) (v := 34) (ci := 7) (kf := 3) rfl rfl rfl rfl rfl rfl ?_
  show V (rmC 4 3 30) mX7_init 3 30 33 [.ref 31] [] (zS64 N, I1, L0) _
  refine v_vret rfl trivial (Nat.le_of_ble_eq_true rfl) (Nat.le_of_ble_eq_true rfl) ?_
  subst_vars
  exact K (by assumption)
def wI11 (I : Nat → Nat → Int32) : Nat → Nat → Int32 := (up2 I 35 0 (0 : Int32))
set_option maxRecDepth 20000 in
theorem w11 {N : Nat} {I : Nat → Nat → Int32} {Q : Option Value → St → Prop} (zI : Zr 36 I) (K : Zr 39 (wI11 I) → Q none (zS72 N, wI11 I, L0)) : V (rmC 4 3 60) mX9_init 0 0 0 [.ref 35] [] (zS66 N, I, L0) Q := by
  have z0 := zI
  refine v_blk 1 (o := []) (pc' := 1) (ls' := [.ref 35]) (st' := [.ref 35]) (σ' := (zS66 N, I, L0)) rfl trivial ?_
  refine v_obj rfl rfl (Nat.le_of_ble_eq_true rfl) (Nat.le_of_ble_eq_true rfl) ?_
  refine v_blk 3 (o := []) (pc' := 9) (ls' := [.ref 35]) (st' := []) (σ' := (zS66 N, (up2 I 35 0 (0 : Int32)), L0)) rfl trivial ?_
  generalize hI1 : (up2 I 35 0 (0 : Int32)) = I1
  have zI1 : Zr 36 I1 := hI1 ▸ Zr_up2 zI (by decide)
  refine v_blk 2 (o := []) (pc' := 12) (ls' := [.ref 35]) (st' := [.int (20 : Int32), .ref 35]) (σ' := (zS66 N, I1, L0)) rfl trivial ?_
  refine v_newarr (t := 0) (N' := 20) (by decide) rfl (by decide) rfl (by decide) (Nat.le_of_ble_eq_true rfl) rfl (inR_of rfl) (inR_of rfl) (Nat.le_of_ble_eq_true rfl) (Nat.le_of_ble_eq_true rfl) ?_
  rw [newM_eq (sh := zS66 N) (I := I1) (L := L0) (x := .inr (0, 20, [])) (zI1 _ (Nat.le_of_eq rfl)) (fun _ => rfl)]
  show V (rmC 4 3 60) mX9_init 1 20 14 [.ref 35] [.ref 36, .ref 35] (zS67 N, I1, L0) _
  replace zI1 : Zr 37 I1 := Zr_le zI1 (by decide)
  refine v_putR (j := 33) (v := 36) (ci := 9) (kf := 1) rfl rfl rfl rfl rfl rfl ?_
  show V (rmC 4 3 60) mX9_init 1 20 17 [.ref 35] [] (zS68 N, I1, L0) _
  refine v_blk 2 (o := []) (pc' := 20) (ls' := [.ref 35]) (st' := [.int (20 : Int32), .ref 35]) (σ' := (zS68 N, I1, L0)) rfl trivial ?_
  refine v_newarr (t := 0) (N' := 20) (by decide) rfl (by decide) rfl (by decide) (Nat.le_of_ble_eq_true rfl) rfl (inR_of rfl) (inR_of rfl) (Nat.le_of_ble_eq_true rfl) (Nat.le_of_ble_eq_true rfl) ?_
  rw [newM_eq (sh := zS68 N) (I := I1) (L := L0) (x := .inr (0, 20, [])) (zI1 _ (Nat.le_of_eq rfl)) (fun _ => rfl)]
  show V (rmC 4 3 60) mX9_init 2 40 22 [.ref 35] [.ref 37, .ref 35] (zS69 N, I1, L0) _
  replace zI1 : Zr 38 I1 := Zr_le zI1 (by decide)
  refine v_putR (j := 33) (v := 37) (ci := 9) (kf := 2) rfl rfl rfl rfl rfl rfl ?_
  show V (rmC 4 3 60) mX9_init 2 40 25 [.ref 35] [] (zS70 N, I1, L0) _
  refine v_blk 2 (o := []) (pc' := 28) (ls' := [.ref 35]) (st' := [.int (20 : Int32), .ref 35]) (σ' := (zS70 N, I1, L0)) rfl trivial ?_
  refine v_newarr (t := 0) (N' := 20) (by decide) rfl (by decide) rfl (by decide) (Nat.le_of_ble_eq_true rfl) rfl (inR_of rfl) (inR_of rfl) (Nat.le_of_ble_eq_true rfl) (Nat.le_of_ble_eq_true rfl) ?_
  rw [newM_eq (sh := zS70 N) (I := I1) (L := L0) (x := .inr (0, 20, [])) (zI1 _ (Nat.le_of_eq rfl)) (fun _ => rfl)]
  show V (rmC 4 3 60) mX9_init 3 60 30 [.ref 35] [.ref 38, .ref 35] (zS71 N, I1, L0) _
  replace zI1 : Zr 39 I1 := Zr_le zI1 (by decide)
  refine v_putR (j := 33) (v := 38) (ci := 9) (kf := 3) rfl rfl rfl rfl rfl rfl ?_
  show V (rmC 4 3 60) mX9_init 3 60 33 [.ref 35] [] (zS72 N, I1, L0) _
  refine v_vret rfl trivial (Nat.le_of_ble_eq_true rfl) (Nat.le_of_ble_eq_true rfl) ?_
  subst_vars
  exact K (by assumption)
def wI7 (I : Nat → Nat → Int32) : Nat → Nat → Int32 := (up2 (up2 (up2 (wI11 (wI10 (wI9 (wI8 I)))) 21 4 (0 : Int32)) 21 5 (0 : Int32)) 21 6 (-1 : Int32))
set_option maxRecDepth 20000 in
theorem w7 {N : Nat} {I : Nat → Nat → Int32} {Q : Option Value → St → Prop} (zI : Zr 22 I) (K : Zr 39 (wI7 I) → Q none (zS73 N, wI7 I, L0)) : V (rmC 6 17 166) mX1_init 0 0 0 [.ref 21] [] (zS39 N, I, L0) Q := by
  have z0 := zI
  refine v_blk 1 (o := []) (pc' := 1) (ls' := [.ref 21]) (st' := [.ref 21]) (σ' := (zS39 N, I, L0)) rfl trivial ?_
  refine v_obj rfl rfl (Nat.le_of_ble_eq_true rfl) (Nat.le_of_ble_eq_true rfl) ?_
  refine v_blk 1 (o := []) (pc' := 5) (ls' := [.ref 21]) (st' := [.ref 21]) (σ' := (zS39 N, I, L0)) rfl trivial ?_
  refine v_new (ci := 8) rfl rfl (Nat.le_of_ble_eq_true rfl) rfl (inR_of rfl) (inR_of rfl) (Nat.le_of_ble_eq_true rfl) (Nat.le_of_ble_eq_true rfl) ?_
  rw [newM_eq (sh := zS39 N) (I := I) (L := L0) (x := .inl (8, [])) (zI _ (Nat.le_of_eq rfl)) (fun _ => rfl)]
  show V (rmC 6 17 166) mX1_init 1 6 8 [.ref 21] [.ref 22, .ref 21] (zS40 N, I, L0) _
  replace zI : Zr 23 I := Zr_le zI (by decide)
  refine v_blk 1 (o := []) (pc' := 9) (ls' := [.ref 21]) (st' := [.ref 22, .ref 22, .ref 21]) (σ' := (zS40 N, I, L0)) rfl trivial ?_
  refine v_spec (R' := (rmC 4 4 40)) (j := 20) (As := []) (rest := [.ref 22, .ref 21]) rfl rfl rfl rfl ⟨Nat.le_of_ble_eq_true rfl, Nat.le_of_ble_eq_true rfl, Nat.le_of_ble_eq_true rfl, Nat.le_of_ble_eq_true rfl⟩ (Nat.le_of_ble_eq_true rfl) (Nat.le_of_ble_eq_true rfl) ?_
  refine w8 zI (fun zN => ⟨Or.inr ⟨inR_of rfl, inR_of rfl⟩, ?_⟩)
  generalize hI1 : wI8 I = I1 at zN ⊢
  have zI1 := zN
  clear zN
  show V (rmC 6 17 166) mX1_init 5 46 12 [.ref 21] [.ref 22, .ref 21] (zS48 N, I1, L0) _
  refine v_putR (j := 19) (v := 22) (ci := 1) (kf := 0) rfl rfl rfl rfl rfl rfl ?_
  show V (rmC 6 17 166) mX1_init 5 46 15 [.ref 21] [] (zS49 N, I1, L0) _
  refine v_blk 1 (o := []) (pc' := 16) (ls' := [.ref 21]) (st' := [.ref 21]) (σ' := (zS49 N, I1, L0)) rfl trivial ?_
  refine v_new (ci := 3) rfl rfl (Nat.le_of_ble_eq_true rfl) rfl (inR_of rfl) (inR_of rfl) (Nat.le_of_ble_eq_true rfl) (Nat.le_of_ble_eq_true rfl) ?_
  rw [newM_eq (sh := zS49 N) (I := I1) (L := L0) (x := .inl (3, [])) (zI1 _ (Nat.le_of_eq rfl)) (fun _ => rfl)]
  show V (rmC 6 17 166) mX1_init 6 50 19 [.ref 21] [.ref 27, .ref 21] (zS50 N, I1, L0) _
  replace zI1 : Zr 28 I1 := Zr_le zI1 (by decide)
  refine v_blk 1 (o := []) (pc' := 20) (ls' := [.ref 21]) (st' := [.ref 27, .ref 27, .ref 21]) (σ' := (zS50 N, I1, L0)) rfl trivial ?_
  refine v_spec (R' := (rmC 4 3 18)) (j := 25) (As := []) (rest := [.ref 27, .ref 21]) rfl rfl rfl rfl ⟨Nat.le_of_ble_eq_true rfl, Nat.le_of_ble_eq_true rfl, Nat.le_of_ble_eq_true rfl, Nat.le_of_ble_eq_true rfl⟩ (Nat.le_of_ble_eq_true rfl) (Nat.le_of_ble_eq_true rfl) ?_
  refine w9 zI1 (fun zN => ⟨Or.inr ⟨inR_of rfl, inR_of rfl⟩, ?_⟩)
  generalize hI2 : wI9 I1 = I2 at zN ⊢
  have zI2 := zN
  clear zN
  show V (rmC 6 17 166) mX1_init 9 68 23 [.ref 21] [.ref 27, .ref 21] (zS56 N, I2, L0) _
  refine v_putR (j := 19) (v := 27) (ci := 1) (kf := 1) rfl rfl rfl rfl rfl rfl ?_
  show V (rmC 6 17 166) mX1_init 9 68 26 [.ref 21] [] (zS57 N, I2, L0) _
  refine v_blk 1 (o := []) (pc' := 27) (ls' := [.ref 21]) (st' := [.ref 21]) (σ' := (zS57 N, I2, L0)) rfl trivial ?_
  refine v_new (ci := 7) rfl rfl (Nat.le_of_ble_eq_true rfl) rfl (inR_of rfl) (inR_of rfl) (Nat.le_of_ble_eq_true rfl) (Nat.le_of_ble_eq_true rfl) ?_
  rw [newM_eq (sh := zS57 N) (I := I2) (L := L0) (x := .inl (7, [])) (zI2 _ (Nat.le_of_eq rfl)) (fun _ => rfl)]
  show V (rmC 6 17 166) mX1_init 10 72 30 [.ref 21] [.ref 31, .ref 21] (zS58 N, I2, L0) _
  replace zI2 : Zr 32 I2 := Zr_le zI2 (by decide)
  refine v_blk 1 (o := []) (pc' := 31) (ls' := [.ref 21]) (st' := [.ref 31, .ref 31, .ref 21]) (σ' := (zS58 N, I2, L0)) rfl trivial ?_
  refine v_spec (R' := (rmC 4 3 30)) (j := 29) (As := []) (rest := [.ref 31, .ref 21]) rfl rfl rfl rfl ⟨Nat.le_of_ble_eq_true rfl, Nat.le_of_ble_eq_true rfl, Nat.le_of_ble_eq_true rfl, Nat.le_of_ble_eq_true rfl⟩ (Nat.le_of_ble_eq_true rfl) (Nat.le_of_ble_eq_true rfl) ?_
  refine w10 zI2 (fun zN => ⟨Or.inr ⟨inR_of rfl, inR_of rfl⟩, ?_⟩)
  generalize hI3 : wI10 I2 = I3 at zN ⊢
  have zI3 := zN
  clear zN
  show V (rmC 6 17 166) mX1_init 13 102 34 [.ref 21] [.ref 31, .ref 21] (zS64 N, I3, L0) _
  refine v_putR (j := 19) (v := 31) (ci := 1) (kf := 2) rfl rfl rfl rfl rfl rfl ?_
  show V (rmC 6 17 166) mX1_init 13 102 37 [.ref 21] [] (zS65 N, I3, L0) _
  refine v_blk 1 (o := []) (pc' := 38) (ls' := [.ref 21]) (st' := [.ref 21]) (σ' := (zS65 N, I3, L0)) rfl trivial ?_
  refine v_new (ci := 9) rfl rfl (Nat.le_of_ble_eq_true rfl) rfl (inR_of rfl) (inR_of rfl) (Nat.le_of_ble_eq_true rfl) (Nat.le_of_ble_eq_true rfl) ?_
  rw [newM_eq (sh := zS65 N) (I := I3) (L := L0) (x := .inl (9, [])) (zI3 _ (Nat.le_of_eq rfl)) (fun _ => rfl)]
  show V (rmC 6 17 166) mX1_init 14 106 41 [.ref 21] [.ref 35, .ref 21] (zS66 N, I3, L0) _
  replace zI3 : Zr 36 I3 := Zr_le zI3 (by decide)
  refine v_blk 1 (o := []) (pc' := 42) (ls' := [.ref 21]) (st' := [.ref 35, .ref 35, .ref 21]) (σ' := (zS66 N, I3, L0)) rfl trivial ?_
  refine v_spec (R' := (rmC 4 3 60)) (j := 33) (As := []) (rest := [.ref 35, .ref 21]) rfl rfl rfl rfl ⟨Nat.le_of_ble_eq_true rfl, Nat.le_of_ble_eq_true rfl, Nat.le_of_ble_eq_true rfl, Nat.le_of_ble_eq_true rfl⟩ (Nat.le_of_ble_eq_true rfl) (Nat.le_of_ble_eq_true rfl) ?_
  refine w11 zI3 (fun zN => ⟨Or.inr ⟨inR_of rfl, inR_of rfl⟩, ?_⟩)
  generalize hI4 : wI11 I3 = I4 at zN ⊢
  have zI4 := zN
  clear zN
  show V (rmC 6 17 166) mX1_init 17 166 45 [.ref 21] [.ref 35, .ref 21] (zS72 N, I4, L0) _
  refine v_putR (j := 19) (v := 35) (ci := 1) (kf := 3) rfl rfl rfl rfl rfl rfl ?_
  show V (rmC 6 17 166) mX1_init 17 166 48 [.ref 21] [] (zS73 N, I4, L0) _
  refine v_blk 3 (o := []) (pc' := 53) (ls' := [.ref 21]) (st' := []) (σ' := (zS73 N, (up2 I4 21 4 (0 : Int32)), L0)) rfl trivial ?_
  generalize hI5 : (up2 I4 21 4 (0 : Int32)) = I5
  have zI5 : Zr 39 I5 := hI5 ▸ Zr_up2 zI4 (by decide)
  refine v_blk 3 (o := []) (pc' := 58) (ls' := [.ref 21]) (st' := []) (σ' := (zS73 N, (up2 I5 21 5 (0 : Int32)), L0)) rfl trivial ?_
  generalize hI6 : (up2 I5 21 5 (0 : Int32)) = I6
  have zI6 : Zr 39 I6 := hI6 ▸ Zr_up2 zI5 (by decide)
  refine v_blk 3 (o := []) (pc' := 63) (ls' := [.ref 21]) (st' := []) (σ' := (zS73 N, (up2 I6 21 6 (-1 : Int32)), L0)) rfl trivial ?_
  generalize hI7 : (up2 I6 21 6 (-1 : Int32)) = I7
  have zI7 : Zr 39 I7 := hI7 ▸ Zr_up2 zI6 (by decide)
  refine v_vret rfl trivial (Nat.le_of_ble_eq_true rfl) (Nat.le_of_ble_eq_true rfl) ?_
  subst_vars
  exact K (by assumption)
def wI12 (I : Nat → Nat → Int32) : Nat → Nat → Int32 := (up2 (up2 (up2 (up2 (up2 (up2 (up2 (up2 (up2 I 40 0 (0 : Int32)) 40 1 (0 : Int32)) 40 2 (0 : Int32)) 42 0 (-1 : Int32)) 42 1 (-1 : Int32)) 42 2 (-1 : Int32)) 43 0 (-1 : Int32)) 43 1 (-1 : Int32)) 43 2 (-1 : Int32))
set_option maxRecDepth 20000 in
theorem w12 {N : Nat} {I : Nat → Nat → Int32} {Q : Option Value → St → Prop} (zI : Zr 41 I) (K : Zr 51 (wI12 I) → Q none (zS97 N, wI12 I, L0)) : V (rmC 4 10 434) mX5_init 0 0 0 [.ref 40] [] (zS77 N, I, L0) Q := by
  have z0 := zI
  refine v_blk 1 (o := []) (pc' := 1) (ls' := [.ref 40]) (st' := [.ref 40]) (σ' := (zS77 N, I, L0)) rfl trivial ?_
  refine v_obj rfl rfl (Nat.le_of_ble_eq_true rfl) (Nat.le_of_ble_eq_true rfl) ?_
  refine v_blk 3 (o := []) (pc' := 9) (ls' := [.ref 40]) (st' := []) (σ' := (zS77 N, (up2 I 40 0 (0 : Int32)), L0)) rfl trivial ?_
  generalize hI1 : (up2 I 40 0 (0 : Int32)) = I1
  have zI1 : Zr 41 I1 := hI1 ▸ Zr_up2 zI (by decide)
  refine v_blk 3 (o := []) (pc' := 14) (ls' := [.ref 40]) (st' := []) (σ' := (zS77 N, (up2 I1 40 1 (0 : Int32)), L0)) rfl trivial ?_
  generalize hI2 : (up2 I1 40 1 (0 : Int32)) = I2
  have zI2 : Zr 41 I2 := hI2 ▸ Zr_up2 zI1 (by decide)
  refine v_blk 3 (o := []) (pc' := 19) (ls' := [.ref 40]) (st' := []) (σ' := (zS77 N, (up2 I2 40 2 (0 : Int32)), L0)) rfl trivial ?_
  generalize hI3 : (up2 I2 40 2 (0 : Int32)) = I3
  have zI3 : Zr 41 I3 := hI3 ▸ Zr_up2 zI2 (by decide)
  refine v_blk 2 (o := []) (pc' := 23) (ls' := [.ref 40]) (st' := [.int (300 : Int32), .ref 40]) (σ' := (zS77 N, I3, L0)) rfl trivial ?_
  refine v_newarr (t := 0) (N' := 300) (by decide) rfl (by decide) rfl (by decide) (Nat.le_of_ble_eq_true rfl) rfl (inR_of rfl) (inR_of rfl) (Nat.le_of_ble_eq_true rfl) (Nat.le_of_ble_eq_true rfl) ?_
  rw [newM_eq (sh := zS77 N) (I := I3) (L := L0) (x := .inr (0, 300, [])) (zI3 _ (Nat.le_of_eq rfl)) (fun _ => rfl)]
  show V (rmC 4 10 434) mX5_init 1 300 25 [.ref 40] [.ref 41, .ref 40] (zS78 N, I3, L0) _
  replace zI3 : Zr 42 I3 := Zr_le zI3 (by decide)
  refine v_putR (j := 38) (v := 41) (ci := 5) (kf := 3) rfl rfl rfl rfl rfl rfl ?_
  show V (rmC 4 10 434) mX5_init 1 300 28 [.ref 40] [] (zS79 N, I3, L0) _
  refine v_blk 2 (o := []) (pc' := 30) (ls' := [.ref 40]) (st' := [.int (3 : Int32), .ref 40]) (σ' := (zS79 N, I3, L0)) rfl trivial ?_
  refine v_newarr (t := 0) (N' := 3) (by decide) rfl (by decide) rfl (by decide) (Nat.le_of_ble_eq_true rfl) rfl (inR_of rfl) (inR_of rfl) (Nat.le_of_ble_eq_true rfl) (Nat.le_of_ble_eq_true rfl) ?_
  rw [newM_eq (sh := zS79 N) (I := I3) (L := L0) (x := .inr (0, 3, [])) (zI3 _ (Nat.le_of_eq rfl)) (fun _ => rfl)]
  show V (rmC 4 10 434) mX5_init 2 303 32 [.ref 40] [.ref 42, .ref 40] (zS80 N, I3, L0) _
  replace zI3 : Zr 43 I3 := Zr_le zI3 (by decide)
  refine v_blk 4 (o := [vp_in (0 : Int32) 3]) (pc' := 36) (ls' := [.ref 40]) (st' := [.ref 42, .ref 40]) (σ' := (zS80 N, (up2 I3 42 0 (-1 : Int32)), L0)) rfl (vp_lit rfl) ?_
  generalize hI4 : (up2 I3 42 0 (-1 : Int32)) = I4
  have zI4 : Zr 43 I4 := hI4 ▸ Zr_up2 zI3 (by decide)
  refine v_blk 4 (o := [vp_in (1 : Int32) 3]) (pc' := 40) (ls' := [.ref 40]) (st' := [.ref 42, .ref 40]) (σ' := (zS80 N, (up2 I4 42 1 (-1 : Int32)), L0)) rfl (vp_lit rfl) ?_
  generalize hI5 : (up2 I4 42 1 (-1 : Int32)) = I5
  have zI5 : Zr 43 I5 := hI5 ▸ Zr_up2 zI4 (by decide)
  refine v_blk 4 (o := [vp_in (2 : Int32) 3]) (pc' := 44) (ls' := [.ref 40]) (st' := [.ref 42, .ref 40]) (σ' := (zS80 N, (up2 I5 42 2 (-1 : Int32)), L0)) rfl (vp_lit rfl) ?_
  generalize hI6 : (up2 I5 42 2 (-1 : Int32)) = I6
  have zI6 : Zr 43 I6 := hI6 ▸ Zr_up2 zI5 (by decide)
  refine v_putR (j := 38) (v := 42) (ci := 5) (kf := 4) rfl rfl rfl rfl rfl rfl ?_
  show V (rmC 4 10 434) mX5_init 2 303 47 [.ref 40] [] (zS81 N, I6, L0) _
  refine v_blk 2 (o := []) (pc' := 49) (ls' := [.ref 40]) (st' := [.int (3 : Int32), .ref 40]) (σ' := (zS81 N, I6, L0)) rfl trivial ?_
  refine v_newarr (t := 0) (N' := 3) (by decide) rfl (by decide) rfl (by decide) (Nat.le_of_ble_eq_true rfl) rfl (inR_of rfl) (inR_of rfl) (Nat.le_of_ble_eq_true rfl) (Nat.le_of_ble_eq_true rfl) ?_
  rw [newM_eq (sh := zS81 N) (I := I6) (L := L0) (x := .inr (0, 3, [])) (zI6 _ (Nat.le_of_eq rfl)) (fun _ => rfl)]
  show V (rmC 4 10 434) mX5_init 3 306 51 [.ref 40] [.ref 43, .ref 40] (zS82 N, I6, L0) _
  replace zI6 : Zr 44 I6 := Zr_le zI6 (by decide)
  refine v_blk 4 (o := [vp_in (0 : Int32) 3]) (pc' := 55) (ls' := [.ref 40]) (st' := [.ref 43, .ref 40]) (σ' := (zS82 N, (up2 I6 43 0 (-1 : Int32)), L0)) rfl (vp_lit rfl) ?_
  generalize hI7 : (up2 I6 43 0 (-1 : Int32)) = I7
  have zI7 : Zr 44 I7 := hI7 ▸ Zr_up2 zI6 (by decide)
  refine v_blk 4 (o := [vp_in (1 : Int32) 3]) (pc' := 59) (ls' := [.ref 40]) (st' := [.ref 43, .ref 40]) (σ' := (zS82 N, (up2 I7 43 1 (-1 : Int32)), L0)) rfl (vp_lit rfl) ?_
  generalize hI8 : (up2 I7 43 1 (-1 : Int32)) = I8
  have zI8 : Zr 44 I8 := hI8 ▸ Zr_up2 zI7 (by decide)
  refine v_blk 4 (o := [vp_in (2 : Int32) 3]) (pc' := 63) (ls' := [.ref 40]) (st' := [.ref 43, .ref 40]) (σ' := (zS82 N, (up2 I8 43 2 (-1 : Int32)), L0)) rfl (vp_lit rfl) ?_
  generalize hI9 : (up2 I8 43 2 (-1 : Int32)) = I9
  have zI9 : Zr 44 I9 := hI9 ▸ Zr_up2 zI8 (by decide)
  refine v_putR (j := 38) (v := 43) (ci := 5) (kf := 5) rfl rfl rfl rfl rfl rfl ?_
  show V (rmC 4 10 434) mX5_init 3 306 66 [.ref 40] [] (zS83 N, I9, L0) _
  refine v_blk 2 (o := []) (pc' := 69) (ls' := [.ref 40]) (st' := [.int (16 : Int32), .ref 40]) (σ' := (zS83 N, I9, L0)) rfl trivial ?_
  refine v_newarr (t := 0) (N' := 16) (by decide) rfl (by decide) rfl (by decide) (Nat.le_of_ble_eq_true rfl) rfl (inR_of rfl) (inR_of rfl) (Nat.le_of_ble_eq_true rfl) (Nat.le_of_ble_eq_true rfl) ?_
  rw [newM_eq (sh := zS83 N) (I := I9) (L := L0) (x := .inr (0, 16, [])) (zI9 _ (Nat.le_of_eq rfl)) (fun _ => rfl)]
  show V (rmC 4 10 434) mX5_init 4 322 71 [.ref 40] [.ref 44, .ref 40] (zS84 N, I9, L0) _
  replace zI9 : Zr 45 I9 := Zr_le zI9 (by decide)
  refine v_putR (j := 38) (v := 44) (ci := 5) (kf := 6) rfl rfl rfl rfl rfl rfl ?_
  show V (rmC 4 10 434) mX5_init 4 322 74 [.ref 40] [] (zS85 N, I9, L0) _
  refine v_blk 2 (o := []) (pc' := 77) (ls' := [.ref 40]) (st' := [.int (16 : Int32), .ref 40]) (σ' := (zS85 N, I9, L0)) rfl trivial ?_
  refine v_newarr (t := 0) (N' := 16) (by decide) rfl (by decide) rfl (by decide) (Nat.le_of_ble_eq_true rfl) rfl (inR_of rfl) (inR_of rfl) (Nat.le_of_ble_eq_true rfl) (Nat.le_of_ble_eq_true rfl) ?_
  rw [newM_eq (sh := zS85 N) (I := I9) (L := L0) (x := .inr (0, 16, [])) (zI9 _ (Nat.le_of_eq rfl)) (fun _ => rfl)]
  show V (rmC 4 10 434) mX5_init 5 338 79 [.ref 40] [.ref 45, .ref 40] (zS86 N, I9, L0) _
  replace zI9 : Zr 46 I9 := Zr_le zI9 (by decide)
  refine v_putR (j := 38) (v := 45) (ci := 5) (kf := 7) rfl rfl rfl rfl rfl rfl ?_
  show V (rmC 4 10 434) mX5_init 5 338 82 [.ref 40] [] (zS87 N, I9, L0) _
  refine v_blk 2 (o := []) (pc' := 85) (ls' := [.ref 40]) (st' := [.int (16 : Int32), .ref 40]) (σ' := (zS87 N, I9, L0)) rfl trivial ?_
  refine v_newarr (t := 0) (N' := 16) (by decide) rfl (by decide) rfl (by decide) (Nat.le_of_ble_eq_true rfl) rfl (inR_of rfl) (inR_of rfl) (Nat.le_of_ble_eq_true rfl) (Nat.le_of_ble_eq_true rfl) ?_
  rw [newM_eq (sh := zS87 N) (I := I9) (L := L0) (x := .inr (0, 16, [])) (zI9 _ (Nat.le_of_eq rfl)) (fun _ => rfl)]
  show V (rmC 4 10 434) mX5_init 6 354 87 [.ref 40] [.ref 46, .ref 40] (zS88 N, I9, L0) _
  replace zI9 : Zr 47 I9 := Zr_le zI9 (by decide)
  refine v_putR (j := 38) (v := 46) (ci := 5) (kf := 8) rfl rfl rfl rfl rfl rfl ?_
  show V (rmC 4 10 434) mX5_init 6 354 90 [.ref 40] [] (zS89 N, I9, L0) _
  refine v_blk 2 (o := []) (pc' := 93) (ls' := [.ref 40]) (st' := [.int (16 : Int32), .ref 40]) (σ' := (zS89 N, I9, L0)) rfl trivial ?_
  refine v_newarr (t := 0) (N' := 16) (by decide) rfl (by decide) rfl (by decide) (Nat.le_of_ble_eq_true rfl) rfl (inR_of rfl) (inR_of rfl) (Nat.le_of_ble_eq_true rfl) (Nat.le_of_ble_eq_true rfl) ?_
  rw [newM_eq (sh := zS89 N) (I := I9) (L := L0) (x := .inr (0, 16, [])) (zI9 _ (Nat.le_of_eq rfl)) (fun _ => rfl)]
  show V (rmC 4 10 434) mX5_init 7 370 95 [.ref 40] [.ref 47, .ref 40] (zS90 N, I9, L0) _
  replace zI9 : Zr 48 I9 := Zr_le zI9 (by decide)
  refine v_putR (j := 38) (v := 47) (ci := 5) (kf := 9) rfl rfl rfl rfl rfl rfl ?_
  show V (rmC 4 10 434) mX5_init 7 370 98 [.ref 40] [] (zS91 N, I9, L0) _
  refine v_blk 2 (o := []) (pc' := 101) (ls' := [.ref 40]) (st' := [.int (16 : Int32), .ref 40]) (σ' := (zS91 N, I9, L0)) rfl trivial ?_
  refine v_newarr (t := 0) (N' := 16) (by decide) rfl (by decide) rfl (by decide) (Nat.le_of_ble_eq_true rfl) rfl (inR_of rfl) (inR_of rfl) (Nat.le_of_ble_eq_true rfl) (Nat.le_of_ble_eq_true rfl) ?_
  rw [newM_eq (sh := zS91 N) (I := I9) (L := L0) (x := .inr (0, 16, [])) (zI9 _ (Nat.le_of_eq rfl)) (fun _ => rfl)]
  show V (rmC 4 10 434) mX5_init 8 386 103 [.ref 40] [.ref 48, .ref 40] (zS92 N, I9, L0) _
  replace zI9 : Zr 49 I9 := Zr_le zI9 (by decide)
  refine v_putR (j := 38) (v := 48) (ci := 5) (kf := 10) rfl rfl rfl rfl rfl rfl ?_
  show V (rmC 4 10 434) mX5_init 8 386 106 [.ref 40] [] (zS93 N, I9, L0) _
  refine v_blk 2 (o := []) (pc' := 109) (ls' := [.ref 40]) (st' := [.int (16 : Int32), .ref 40]) (σ' := (zS93 N, I9, L0)) rfl trivial ?_
  refine v_newarr (t := 0) (N' := 16) (by decide) rfl (by decide) rfl (by decide) (Nat.le_of_ble_eq_true rfl) rfl (inR_of rfl) (inR_of rfl) (Nat.le_of_ble_eq_true rfl) (Nat.le_of_ble_eq_true rfl) ?_
  rw [newM_eq (sh := zS93 N) (I := I9) (L := L0) (x := .inr (0, 16, [])) (zI9 _ (Nat.le_of_eq rfl)) (fun _ => rfl)]
  show V (rmC 4 10 434) mX5_init 9 402 111 [.ref 40] [.ref 49, .ref 40] (zS94 N, I9, L0) _
  replace zI9 : Zr 50 I9 := Zr_le zI9 (by decide)
  refine v_putR (j := 38) (v := 49) (ci := 5) (kf := 11) rfl rfl rfl rfl rfl rfl ?_
  show V (rmC 4 10 434) mX5_init 9 402 114 [.ref 40] [] (zS95 N, I9, L0) _
  refine v_blk 2 (o := []) (pc' := 117) (ls' := [.ref 40]) (st' := [.int (32 : Int32), .ref 40]) (σ' := (zS95 N, I9, L0)) rfl trivial ?_
  refine v_newarr (t := 0) (N' := 32) (by decide) rfl (by decide) rfl (by decide) (Nat.le_of_ble_eq_true rfl) rfl (inR_of rfl) (inR_of rfl) (Nat.le_of_ble_eq_true rfl) (Nat.le_of_ble_eq_true rfl) ?_
  rw [newM_eq (sh := zS95 N) (I := I9) (L := L0) (x := .inr (0, 32, [])) (zI9 _ (Nat.le_of_eq rfl)) (fun _ => rfl)]
  show V (rmC 4 10 434) mX5_init 10 434 119 [.ref 40] [.ref 50, .ref 40] (zS96 N, I9, L0) _
  replace zI9 : Zr 51 I9 := Zr_le zI9 (by decide)
  refine v_putR (j := 38) (v := 50) (ci := 5) (kf := 12) rfl rfl rfl rfl rfl rfl ?_
  show V (rmC 4 10 434) mX5_init 10 434 122 [.ref 40] [] (zS97 N, I9, L0) _
  refine v_vret rfl trivial (Nat.le_of_ble_eq_true rfl) (Nat.le_of_ble_eq_true rfl) ?_
  subst_vars
  exact K (by assumption)
def wI14 (I : Nat → Nat → Int32) : Nat → Nat → Int32 := (up2 (up2 I 52 0 (0 : Int32)) 52 1 (0 : Int32))
set_option maxRecDepth 20000 in
theorem w14 {N : Nat} {I : Nat → Nat → Int32} {Q : Option Value → St → Prop} (zI : Zr 53 I) (K : Zr 57 (wI14 I) → Q none (zS108 N, wI14 I, L0)) : V (rmC 4 4 1203) mX10_init 0 0 0 [.ref 52] [] (zS100 N, I, L0) Q := by
  have z0 := zI
  refine v_blk 1 (o := []) (pc' := 1) (ls' := [.ref 52]) (st' := [.ref 52]) (σ' := (zS100 N, I, L0)) rfl trivial ?_
  refine v_obj rfl rfl (Nat.le_of_ble_eq_true rfl) (Nat.le_of_ble_eq_true rfl) ?_
  refine v_blk 3 (o := []) (pc' := 9) (ls' := [.ref 52]) (st' := []) (σ' := (zS100 N, (up2 I 52 0 (0 : Int32)), L0)) rfl trivial ?_
  generalize hI1 : (up2 I 52 0 (0 : Int32)) = I1
  have zI1 : Zr 53 I1 := hI1 ▸ Zr_up2 zI (by decide)
  refine v_blk 3 (o := []) (pc' := 14) (ls' := [.ref 52]) (st' := []) (σ' := (zS100 N, (up2 I1 52 1 (0 : Int32)), L0)) rfl trivial ?_
  generalize hI2 : (up2 I1 52 1 (0 : Int32)) = I2
  have zI2 : Zr 53 I2 := hI2 ▸ Zr_up2 zI1 (by decide)
  refine v_blk 2 (o := []) (pc' := 18) (ls' := [.ref 52]) (st' := [.int (300 : Int32), .ref 52]) (σ' := (zS100 N, I2, L0)) rfl trivial ?_
  refine v_newarr (t := 0) (N' := 300) (by decide) rfl (by decide) rfl (by decide) (Nat.le_of_ble_eq_true rfl) rfl (inR_of rfl) (inR_of rfl) (Nat.le_of_ble_eq_true rfl) (Nat.le_of_ble_eq_true rfl) ?_
  rw [newM_eq (sh := zS100 N) (I := I2) (L := L0) (x := .inr (0, 300, [])) (zI2 _ (Nat.le_of_eq rfl)) (fun _ => rfl)]
  show V (rmC 4 4 1203) mX10_init 1 300 20 [.ref 52] [.ref 53, .ref 52] (zS101 N, I2, L0) _
  replace zI2 : Zr 54 I2 := Zr_le zI2 (by decide)
  refine v_putR (j := 50) (v := 53) (ci := 10) (kf := 2) rfl rfl rfl rfl rfl rfl ?_
  show V (rmC 4 4 1203) mX10_init 1 300 23 [.ref 52] [] (zS102 N, I2, L0) _
  refine v_blk 2 (o := []) (pc' := 27) (ls' := [.ref 52]) (st' := [.int (301 : Int32), .ref 52]) (σ' := (zS102 N, I2, L0)) rfl trivial ?_
  refine v_newarr (t := 0) (N' := 301) (by decide) rfl (by decide) rfl (by decide) (Nat.le_of_ble_eq_true rfl) rfl (inR_of rfl) (inR_of rfl) (Nat.le_of_ble_eq_true rfl) (Nat.le_of_ble_eq_true rfl) ?_
  rw [newM_eq (sh := zS102 N) (I := I2) (L := L0) (x := .inr (0, 301, [])) (zI2 _ (Nat.le_of_eq rfl)) (fun _ => rfl)]
  show V (rmC 4 4 1203) mX10_init 2 601 29 [.ref 52] [.ref 54, .ref 52] (zS103 N, I2, L0) _
  replace zI2 : Zr 55 I2 := Zr_le zI2 (by decide)
  refine v_putR (j := 50) (v := 54) (ci := 10) (kf := 3) rfl rfl rfl rfl rfl rfl ?_
  show V (rmC 4 4 1203) mX10_init 2 601 32 [.ref 52] [] (zS104 N, I2, L0) _
  refine v_blk 2 (o := []) (pc' := 36) (ls' := [.ref 52]) (st' := [.int (301 : Int32), .ref 52]) (σ' := (zS104 N, I2, L0)) rfl trivial ?_
  refine v_newarr (t := 0) (N' := 301) (by decide) rfl (by decide) rfl (by decide) (Nat.le_of_ble_eq_true rfl) rfl (inR_of rfl) (inR_of rfl) (Nat.le_of_ble_eq_true rfl) (Nat.le_of_ble_eq_true rfl) ?_
  rw [newM_eq (sh := zS104 N) (I := I2) (L := L0) (x := .inr (0, 301, [])) (zI2 _ (Nat.le_of_eq rfl)) (fun _ => rfl)]
  show V (rmC 4 4 1203) mX10_init 3 902 38 [.ref 52] [.ref 55, .ref 52] (zS105 N, I2, L0) _
  replace zI2 : Zr 56 I2 := Zr_le zI2 (by decide)
  refine v_putR (j := 50) (v := 55) (ci := 10) (kf := 4) rfl rfl rfl rfl rfl rfl ?_
  show V (rmC 4 4 1203) mX10_init 3 902 41 [.ref 52] [] (zS106 N, I2, L0) _
  refine v_blk 2 (o := []) (pc' := 45) (ls' := [.ref 52]) (st' := [.int (301 : Int32), .ref 52]) (σ' := (zS106 N, I2, L0)) rfl trivial ?_
  refine v_newarr (t := 0) (N' := 301) (by decide) rfl (by decide) rfl (by decide) (Nat.le_of_ble_eq_true rfl) rfl (inR_of rfl) (inR_of rfl) (Nat.le_of_ble_eq_true rfl) (Nat.le_of_ble_eq_true rfl) ?_
  rw [newM_eq (sh := zS106 N) (I := I2) (L := L0) (x := .inr (0, 301, [])) (zI2 _ (Nat.le_of_eq rfl)) (fun _ => rfl)]
  show V (rmC 4 4 1203) mX10_init 4 1203 47 [.ref 52] [.ref 56, .ref 52] (zS107 N, I2, L0) _
  replace zI2 : Zr 57 I2 := Zr_le zI2 (by decide)
  refine v_putR (j := 50) (v := 56) (ci := 10) (kf := 5) rfl rfl rfl rfl rfl rfl ?_
  show V (rmC 4 4 1203) mX10_init 4 1203 50 [.ref 52] [] (zS108 N, I2, L0) _
  refine v_vret rfl trivial (Nat.le_of_ble_eq_true rfl) (Nat.le_of_ble_eq_true rfl) ?_
  subst_vars
  exact K (by assumption)
def wI15 (I : Nat → Nat → Int32) : Nat → Nat → Int32 := (up2 (up2 (up2 (up2 (up2 (up2 (up2 (up2 (up2 I 57 0 (0 : Int32)) 57 1 (0 : Int32)) 57 2 (0 : Int32)) 59 0 (-1 : Int32)) 59 1 (-1 : Int32)) 59 2 (-1 : Int32)) 60 0 (-1 : Int32)) 60 1 (-1 : Int32)) 60 2 (-1 : Int32))
set_option maxRecDepth 20000 in
theorem w15 {N : Nat} {I : Nat → Nat → Int32} {Q : Option Value → St → Prop} (zI : Zr 58 I) (K : Zr 68 (wI15 I) → Q none (zS130 N, wI15 I, L0)) : V (rmC 4 10 434) mX5_init 0 0 0 [.ref 57] [] (zS110 N, I, L0) Q := by
  have z0 := zI
  refine v_blk 1 (o := []) (pc' := 1) (ls' := [.ref 57]) (st' := [.ref 57]) (σ' := (zS110 N, I, L0)) rfl trivial ?_
  refine v_obj rfl rfl (Nat.le_of_ble_eq_true rfl) (Nat.le_of_ble_eq_true rfl) ?_
  refine v_blk 3 (o := []) (pc' := 9) (ls' := [.ref 57]) (st' := []) (σ' := (zS110 N, (up2 I 57 0 (0 : Int32)), L0)) rfl trivial ?_
  generalize hI1 : (up2 I 57 0 (0 : Int32)) = I1
  have zI1 : Zr 58 I1 := hI1 ▸ Zr_up2 zI (by decide)
  refine v_blk 3 (o := []) (pc' := 14) (ls' := [.ref 57]) (st' := []) (σ' := (zS110 N, (up2 I1 57 1 (0 : Int32)), L0)) rfl trivial ?_
  generalize hI2 : (up2 I1 57 1 (0 : Int32)) = I2
  have zI2 : Zr 58 I2 := hI2 ▸ Zr_up2 zI1 (by decide)
  refine v_blk 3 (o := []) (pc' := 19) (ls' := [.ref 57]) (st' := []) (σ' := (zS110 N, (up2 I2 57 2 (0 : Int32)), L0)) rfl trivial ?_
  generalize hI3 : (up2 I2 57 2 (0 : Int32)) = I3
  have zI3 : Zr 58 I3 := hI3 ▸ Zr_up2 zI2 (by decide)
  refine v_blk 2 (o := []) (pc' := 23) (ls' := [.ref 57]) (st' := [.int (300 : Int32), .ref 57]) (σ' := (zS110 N, I3, L0)) rfl trivial ?_
  refine v_newarr (t := 0) (N' := 300) (by decide) rfl (by decide) rfl (by decide) (Nat.le_of_ble_eq_true rfl) rfl (inR_of rfl) (inR_of rfl) (Nat.le_of_ble_eq_true rfl) (Nat.le_of_ble_eq_true rfl) ?_
  rw [newM_eq (sh := zS110 N) (I := I3) (L := L0) (x := .inr (0, 300, [])) (zI3 _ (Nat.le_of_eq rfl)) (fun _ => rfl)]
  show V (rmC 4 10 434) mX5_init 1 300 25 [.ref 57] [.ref 58, .ref 57] (zS111 N, I3, L0) _
  replace zI3 : Zr 59 I3 := Zr_le zI3 (by decide)
  refine v_putR (j := 55) (v := 58) (ci := 5) (kf := 3) rfl rfl rfl rfl rfl rfl ?_
  show V (rmC 4 10 434) mX5_init 1 300 28 [.ref 57] [] (zS112 N, I3, L0) _
  refine v_blk 2 (o := []) (pc' := 30) (ls' := [.ref 57]) (st' := [.int (3 : Int32), .ref 57]) (σ' := (zS112 N, I3, L0)) rfl trivial ?_
  refine v_newarr (t := 0) (N' := 3) (by decide) rfl (by decide) rfl (by decide) (Nat.le_of_ble_eq_true rfl) rfl (inR_of rfl) (inR_of rfl) (Nat.le_of_ble_eq_true rfl) (Nat.le_of_ble_eq_true rfl) ?_
  rw [newM_eq (sh := zS112 N) (I := I3) (L := L0) (x := .inr (0, 3, [])) (zI3 _ (Nat.le_of_eq rfl)) (fun _ => rfl)]
  show V (rmC 4 10 434) mX5_init 2 303 32 [.ref 57] [.ref 59, .ref 57] (zS113 N, I3, L0) _
  replace zI3 : Zr 60 I3 := Zr_le zI3 (by decide)
  refine v_blk 4 (o := [vp_in (0 : Int32) 3]) (pc' := 36) (ls' := [.ref 57]) (st' := [.ref 59, .ref 57]) (σ' := (zS113 N, (up2 I3 59 0 (-1 : Int32)), L0)) rfl (vp_lit rfl) ?_
  generalize hI4 : (up2 I3 59 0 (-1 : Int32)) = I4
  have zI4 : Zr 60 I4 := hI4 ▸ Zr_up2 zI3 (by decide)
  refine v_blk 4 (o := [vp_in (1 : Int32) 3]) (pc' := 40) (ls' := [.ref 57]) (st' := [.ref 59, .ref 57]) (σ' := (zS113 N, (up2 I4 59 1 (-1 : Int32)), L0)) rfl (vp_lit rfl) ?_
  generalize hI5 : (up2 I4 59 1 (-1 : Int32)) = I5
  have zI5 : Zr 60 I5 := hI5 ▸ Zr_up2 zI4 (by decide)
  refine v_blk 4 (o := [vp_in (2 : Int32) 3]) (pc' := 44) (ls' := [.ref 57]) (st' := [.ref 59, .ref 57]) (σ' := (zS113 N, (up2 I5 59 2 (-1 : Int32)), L0)) rfl (vp_lit rfl) ?_
  generalize hI6 : (up2 I5 59 2 (-1 : Int32)) = I6
  have zI6 : Zr 60 I6 := hI6 ▸ Zr_up2 zI5 (by decide)
  refine v_putR (j := 55) (v := 59) (ci := 5) (kf := 4) rfl rfl rfl rfl rfl rfl ?_
  show V (rmC 4 10 434) mX5_init 2 303 47 [.ref 57] [] (zS114 N, I6, L0) _
  refine v_blk 2 (o := []) (pc' := 49) (ls' := [.ref 57]) (st' := [.int (3 : Int32), .ref 57]) (σ' := (zS114 N, I6, L0)) rfl trivial ?_
  refine v_newarr (t := 0) (N' := 3) (by decide) rfl (by decide) rfl (by decide) (Nat.le_of_ble_eq_true rfl) rfl (inR_of rfl) (inR_of rfl) (Nat.le_of_ble_eq_true rfl) (Nat.le_of_ble_eq_true rfl) ?_
  rw [newM_eq (sh := zS114 N) (I := I6) (L := L0) (x := .inr (0, 3, [])) (zI6 _ (Nat.le_of_eq rfl)) (fun _ => rfl)]
  show V (rmC 4 10 434) mX5_init 3 306 51 [.ref 57] [.ref 60, .ref 57] (zS115 N, I6, L0) _
  replace zI6 : Zr 61 I6 := Zr_le zI6 (by decide)
  refine v_blk 4 (o := [vp_in (0 : Int32) 3]) (pc' := 55) (ls' := [.ref 57]) (st' := [.ref 60, .ref 57]) (σ' := (zS115 N, (up2 I6 60 0 (-1 : Int32)), L0)) rfl (vp_lit rfl) ?_
  generalize hI7 : (up2 I6 60 0 (-1 : Int32)) = I7
  have zI7 : Zr 61 I7 := hI7 ▸ Zr_up2 zI6 (by decide)
  refine v_blk 4 (o := [vp_in (1 : Int32) 3]) (pc' := 59) (ls' := [.ref 57]) (st' := [.ref 60, .ref 57]) (σ' := (zS115 N, (up2 I7 60 1 (-1 : Int32)), L0)) rfl (vp_lit rfl) ?_
  generalize hI8 : (up2 I7 60 1 (-1 : Int32)) = I8
  have zI8 : Zr 61 I8 := hI8 ▸ Zr_up2 zI7 (by decide)
  refine v_blk 4 (o := [vp_in (2 : Int32) 3]) (pc' := 63) (ls' := [.ref 57]) (st' := [.ref 60, .ref 57]) (σ' := (zS115 N, (up2 I8 60 2 (-1 : Int32)), L0)) rfl (vp_lit rfl) ?_
  generalize hI9 : (up2 I8 60 2 (-1 : Int32)) = I9
  have zI9 : Zr 61 I9 := hI9 ▸ Zr_up2 zI8 (by decide)
  refine v_putR (j := 55) (v := 60) (ci := 5) (kf := 5) rfl rfl rfl rfl rfl rfl ?_
  show V (rmC 4 10 434) mX5_init 3 306 66 [.ref 57] [] (zS116 N, I9, L0) _
  refine v_blk 2 (o := []) (pc' := 69) (ls' := [.ref 57]) (st' := [.int (16 : Int32), .ref 57]) (σ' := (zS116 N, I9, L0)) rfl trivial ?_
  refine v_newarr (t := 0) (N' := 16) (by decide) rfl (by decide) rfl (by decide) (Nat.le_of_ble_eq_true rfl) rfl (inR_of rfl) (inR_of rfl) (Nat.le_of_ble_eq_true rfl) (Nat.le_of_ble_eq_true rfl) ?_
  rw [newM_eq (sh := zS116 N) (I := I9) (L := L0) (x := .inr (0, 16, [])) (zI9 _ (Nat.le_of_eq rfl)) (fun _ => rfl)]
  show V (rmC 4 10 434) mX5_init 4 322 71 [.ref 57] [.ref 61, .ref 57] (zS117 N, I9, L0) _
  replace zI9 : Zr 62 I9 := Zr_le zI9 (by decide)
  refine v_putR (j := 55) (v := 61) (ci := 5) (kf := 6) rfl rfl rfl rfl rfl rfl ?_
  show V (rmC 4 10 434) mX5_init 4 322 74 [.ref 57] [] (zS118 N, I9, L0) _
  refine v_blk 2 (o := []) (pc' := 77) (ls' := [.ref 57]) (st' := [.int (16 : Int32), .ref 57]) (σ' := (zS118 N, I9, L0)) rfl trivial ?_
  refine v_newarr (t := 0) (N' := 16) (by decide) rfl (by decide) rfl (by decide) (Nat.le_of_ble_eq_true rfl) rfl (inR_of rfl) (inR_of rfl) (Nat.le_of_ble_eq_true rfl) (Nat.le_of_ble_eq_true rfl) ?_
  rw [newM_eq (sh := zS118 N) (I := I9) (L := L0) (x := .inr (0, 16, [])) (zI9 _ (Nat.le_of_eq rfl)) (fun _ => rfl)]
  show V (rmC 4 10 434) mX5_init 5 338 79 [.ref 57] [.ref 62, .ref 57] (zS119 N, I9, L0) _
  replace zI9 : Zr 63 I9 := Zr_le zI9 (by decide)
  refine v_putR (j := 55) (v := 62) (ci := 5) (kf := 7) rfl rfl rfl rfl rfl rfl ?_
  show V (rmC 4 10 434) mX5_init 5 338 82 [.ref 57] [] (zS120 N, I9, L0) _
  refine v_blk 2 (o := []) (pc' := 85) (ls' := [.ref 57]) (st' := [.int (16 : Int32), .ref 57]) (σ' := (zS120 N, I9, L0)) rfl trivial ?_
  refine v_newarr (t := 0) (N' := 16) (by decide) rfl (by decide) rfl (by decide) (Nat.le_of_ble_eq_true rfl) rfl (inR_of rfl) (inR_of rfl) (Nat.le_of_ble_eq_true rfl) (Nat.le_of_ble_eq_true rfl) ?_
  rw [newM_eq (sh := zS120 N) (I := I9) (L := L0) (x := .inr (0, 16, [])) (zI9 _ (Nat.le_of_eq rfl)) (fun _ => rfl)]
  show V (rmC 4 10 434) mX5_init 6 354 87 [.ref 57] [.ref 63, .ref 57] (zS121 N, I9, L0) _
  replace zI9 : Zr 64 I9 := Zr_le zI9 (by decide)
  refine v_putR (j := 55) (v := 63) (ci := 5) (kf := 8) rfl rfl rfl rfl rfl rfl ?_
  show V (rmC 4 10 434) mX5_init 6 354 90 [.ref 57] [] (zS122 N, I9, L0) _
  refine v_blk 2 (o := []) (pc' := 93) (ls' := [.ref 57]) (st' := [.int (16 : Int32), .ref 57]) (σ' := (zS122 N, I9, L0)) rfl trivial ?_
  refine v_newarr (t := 0) (N' := 16) (by decide) rfl (by decide) rfl (by decide) (Nat.le_of_ble_eq_true rfl) rfl (inR_of rfl) (inR_of rfl) (Nat.le_of_ble_eq_true rfl) (Nat.le_of_ble_eq_true rfl) ?_
  rw [newM_eq (sh := zS122 N) (I := I9) (L := L0) (x := .inr (0, 16, [])) (zI9 _ (Nat.le_of_eq rfl)) (fun _ => rfl)]
  show V (rmC 4 10 434) mX5_init 7 370 95 [.ref 57] [.ref 64, .ref 57] (zS123 N, I9, L0) _
  replace zI9 : Zr 65 I9 := Zr_le zI9 (by decide)
  refine v_putR (j := 55) (v := 64) (ci := 5) (kf := 9) rfl rfl rfl rfl rfl rfl ?_
  show V (rmC 4 10 434) mX5_init 7 370 98 [.ref 57] [] (zS124 N, I9, L0) _
  refine v_blk 2 (o := []) (pc' := 101) (ls' := [.ref 57]) (st' := [.int (16 : Int32), .ref 57]) (σ' := (zS124 N, I9, L0)) rfl trivial ?_
  refine v_newarr (t := 0) (N' := 16) (by decide) rfl (by decide) rfl (by decide) (Nat.le_of_ble_eq_true rfl) rfl (inR_of rfl) (inR_of rfl) (Nat.le_of_ble_eq_true rfl) (Nat.le_of_ble_eq_true rfl) ?_
  rw [newM_eq (sh := zS124 N) (I := I9) (L := L0) (x := .inr (0, 16, [])) (zI9 _ (Nat.le_of_eq rfl)) (fun _ => rfl)]
  show V (rmC 4 10 434) mX5_init 8 386 103 [.ref 57] [.ref 65, .ref 57] (zS125 N, I9, L0) _
  replace zI9 : Zr 66 I9 := Zr_le zI9 (by decide)
  refine v_putR (j := 55) (v := 65) (ci := 5) (kf := 10) rfl rfl rfl rfl rfl rfl ?_
  show V (rmC 4 10 434) mX5_init 8 386 106 [.ref 57] [] (zS126 N, I9, L0) _
  refine v_blk 2 (o := []) (pc' := 109) (ls' := [.ref 57]) (st' := [.int (16 : Int32), .ref 57]) (σ' := (zS126 N, I9, L0)) rfl trivial ?_
  refine v_newarr (t := 0) (N' := 16) (by decide) rfl (by decide) rfl (by decide) (Nat.le_of_ble_eq_true rfl) rfl (inR_of rfl) (inR_of rfl) (Nat.le_of_ble_eq_true rfl) (Nat.le_of_ble_eq_true rfl) ?_
  rw [newM_eq (sh := zS126 N) (I := I9) (L := L0) (x := .inr (0, 16, [])) (zI9 _ (Nat.le_of_eq rfl)) (fun _ => rfl)]
  show V (rmC 4 10 434) mX5_init 9 402 111 [.ref 57] [.ref 66, .ref 57] (zS127 N, I9, L0) _
  replace zI9 : Zr 67 I9 := Zr_le zI9 (by decide)
  refine v_putR (j := 55) (v := 66) (ci := 5) (kf := 11) rfl rfl rfl rfl rfl rfl ?_
  show V (rmC 4 10 434) mX5_init 9 402 114 [.ref 57] [] (zS128 N, I9, L0) _
  refine v_blk 2 (o := []) (pc' := 117) (ls' := [.ref 57]) (st' := [.int (32 : Int32), .ref 57]) (σ' := (zS128 N, I9, L0)) rfl trivial ?_
  refine v_newarr (t := 0) (N' := 32) (by decide) rfl (by decide) rfl (by decide) (Nat.le_of_ble_eq_true rfl) rfl (inR_of rfl) (inR_of rfl) (Nat.le_of_ble_eq_true rfl) (Nat.le_of_ble_eq_true rfl) ?_
  rw [newM_eq (sh := zS128 N) (I := I9) (L := L0) (x := .inr (0, 32, [])) (zI9 _ (Nat.le_of_eq rfl)) (fun _ => rfl)]
  show V (rmC 4 10 434) mX5_init 10 434 119 [.ref 57] [.ref 67, .ref 57] (zS129 N, I9, L0) _
  replace zI9 : Zr 68 I9 := Zr_le zI9 (by decide)
  refine v_putR (j := 55) (v := 67) (ci := 5) (kf := 12) rfl rfl rfl rfl rfl rfl ?_
  show V (rmC 4 10 434) mX5_init 10 434 122 [.ref 57] [] (zS130 N, I9, L0) _
  refine v_vret rfl trivial (Nat.le_of_ble_eq_true rfl) (Nat.le_of_ble_eq_true rfl) ?_
  subst_vars
  exact K (by assumption)
def wI13 (I : Nat → Nat → Int32) : Nat → Nat → Int32 := (up2 (up2 (up2 (up2 (up2 (wI15 (wI14 I)) 51 2 (0 : Int32)) 51 3 (0 : Int32)) 51 4 (-1 : Int32)) 51 5 (0 : Int32)) 51 6 (0 : Int32))
set_option maxRecDepth 20000 in
theorem w13 {N : Nat} {I : Nat → Nat → Int32} {Q : Option Value → St → Prop} (zI : Zr 52 I) (K : Zr 68 (wI13 I) → Q none (zS131 N, wI13 I, L0)) : V (rmC 8 16 1656) mX6_init 0 0 0 [.ref 51] [] (zS99 N, I, L0) Q := by
  have z0 := zI
  refine v_blk 1 (o := []) (pc' := 1) (ls' := [.ref 51]) (st' := [.ref 51]) (σ' := (zS99 N, I, L0)) rfl trivial ?_
  refine v_obj rfl rfl (Nat.le_of_ble_eq_true rfl) (Nat.le_of_ble_eq_true rfl) ?_
  refine v_blk 1 (o := []) (pc' := 5) (ls' := [.ref 51]) (st' := [.ref 51]) (σ' := (zS99 N, I, L0)) rfl trivial ?_
  refine v_new (ci := 10) rfl rfl (Nat.le_of_ble_eq_true rfl) rfl (inR_of rfl) (inR_of rfl) (Nat.le_of_ble_eq_true rfl) (Nat.le_of_ble_eq_true rfl) ?_
  rw [newM_eq (sh := zS99 N) (I := I) (L := L0) (x := .inl (10, [])) (zI _ (Nat.le_of_eq rfl)) (fun _ => rfl)]
  show V (rmC 8 16 1656) mX6_init 1 6 8 [.ref 51] [.ref 52, .ref 51] (zS100 N, I, L0) _
  replace zI : Zr 53 I := Zr_le zI (by decide)
  refine v_blk 1 (o := []) (pc' := 9) (ls' := [.ref 51]) (st' := [.ref 52, .ref 52, .ref 51]) (σ' := (zS100 N, I, L0)) rfl trivial ?_
  refine v_spec (R' := (rmC 4 4 1203)) (j := 50) (As := []) (rest := [.ref 52, .ref 51]) rfl rfl rfl rfl ⟨Nat.le_of_ble_eq_true rfl, Nat.le_of_ble_eq_true rfl, Nat.le_of_ble_eq_true rfl, Nat.le_of_ble_eq_true rfl⟩ (Nat.le_of_ble_eq_true rfl) (Nat.le_of_ble_eq_true rfl) ?_
  refine w14 zI (fun zN => ⟨Or.inr ⟨inR_of rfl, inR_of rfl⟩, ?_⟩)
  generalize hI1 : wI14 I = I1 at zN ⊢
  have zI1 := zN
  clear zN
  show V (rmC 8 16 1656) mX6_init 5 1209 12 [.ref 51] [.ref 52, .ref 51] (zS108 N, I1, L0) _
  refine v_putR (j := 49) (v := 52) (ci := 6) (kf := 0) rfl rfl rfl rfl rfl rfl ?_
  show V (rmC 8 16 1656) mX6_init 5 1209 15 [.ref 51] [] (zS109 N, I1, L0) _
  refine v_blk 1 (o := []) (pc' := 16) (ls' := [.ref 51]) (st' := [.ref 51]) (σ' := (zS109 N, I1, L0)) rfl trivial ?_
  refine v_new (ci := 5) rfl rfl (Nat.le_of_ble_eq_true rfl) rfl (inR_of rfl) (inR_of rfl) (Nat.le_of_ble_eq_true rfl) (Nat.le_of_ble_eq_true rfl) ?_
  rw [newM_eq (sh := zS109 N) (I := I1) (L := L0) (x := .inl (5, [])) (zI1 _ (Nat.le_of_eq rfl)) (fun _ => rfl)]
  show V (rmC 8 16 1656) mX6_init 6 1222 19 [.ref 51] [.ref 57, .ref 51] (zS110 N, I1, L0) _
  replace zI1 : Zr 58 I1 := Zr_le zI1 (by decide)
  refine v_blk 1 (o := []) (pc' := 20) (ls' := [.ref 51]) (st' := [.ref 57, .ref 57, .ref 51]) (σ' := (zS110 N, I1, L0)) rfl trivial ?_
  refine v_spec (R' := (rmC 4 10 434)) (j := 55) (As := []) (rest := [.ref 57, .ref 51]) rfl rfl rfl rfl ⟨Nat.le_of_ble_eq_true rfl, Nat.le_of_ble_eq_true rfl, Nat.le_of_ble_eq_true rfl, Nat.le_of_ble_eq_true rfl⟩ (Nat.le_of_ble_eq_true rfl) (Nat.le_of_ble_eq_true rfl) ?_
  refine w15 zI1 (fun zN => ⟨Or.inr ⟨inR_of rfl, inR_of rfl⟩, ?_⟩)
  generalize hI2 : wI15 I1 = I2 at zN ⊢
  have zI2 := zN
  clear zN
  show V (rmC 8 16 1656) mX6_init 16 1656 23 [.ref 51] [.ref 57, .ref 51] (zS130 N, I2, L0) _
  refine v_putR (j := 49) (v := 57) (ci := 6) (kf := 1) rfl rfl rfl rfl rfl rfl ?_
  show V (rmC 8 16 1656) mX6_init 16 1656 26 [.ref 51] [] (zS131 N, I2, L0) _
  refine v_blk 3 (o := [isB (0 : Int32)]) (pc' := 31) (ls' := [.ref 51]) (st' := []) (σ' := (zS131 N, (up2 I2 51 2 (0 : Int32)), L0)) rfl (Or.inl rfl) ?_
  generalize hI3 : (up2 I2 51 2 (0 : Int32)) = I3
  have zI3 : Zr 68 I3 := hI3 ▸ Zr_up2 zI2 (by decide)
  refine v_blk 3 (o := []) (pc' := 36) (ls' := [.ref 51]) (st' := []) (σ' := (zS131 N, (up2 I3 51 3 (0 : Int32)), L0)) rfl trivial ?_
  generalize hI4 : (up2 I3 51 3 (0 : Int32)) = I4
  have zI4 : Zr 68 I4 := hI4 ▸ Zr_up2 zI3 (by decide)
  refine v_blk 3 (o := []) (pc' := 41) (ls' := [.ref 51]) (st' := []) (σ' := (zS131 N, (up2 I4 51 4 (-1 : Int32)), L0)) rfl trivial ?_
  generalize hI5 : (up2 I4 51 4 (-1 : Int32)) = I5
  have zI5 : Zr 68 I5 := hI5 ▸ Zr_up2 zI4 (by decide)
  refine v_blk 3 (o := []) (pc' := 46) (ls' := [.ref 51]) (st' := []) (σ' := (zS131 N, (up2 I5 51 5 (0 : Int32)), L0)) rfl trivial ?_
  generalize hI6 : (up2 I5 51 5 (0 : Int32)) = I6
  have zI6 : Zr 68 I6 := hI6 ▸ Zr_up2 zI5 (by decide)
  refine v_blk 3 (o := [isB (0 : Int32)]) (pc' := 51) (ls' := [.ref 51]) (st' := []) (σ' := (zS131 N, (up2 I6 51 6 (0 : Int32)), L0)) rfl (Or.inl rfl) ?_
  generalize hI7 : (up2 I6 51 6 (0 : Int32)) = I7
  have zI7 : Zr 68 I7 := hI7 ▸ Zr_up2 zI6 (by decide)
  refine v_vret rfl trivial (Nat.le_of_ble_eq_true rfl) (Nat.le_of_ble_eq_true rfl) ?_
  subst_vars
  exact K (by assumption)
def wI16 (I : Nat → Nat → Int32) : Nat → Nat → Int32 := I
set_option maxRecDepth 20000 in
theorem w16 {N : Nat} {I : Nat → Nat → Int32} {Q : Option Value → St → Prop} (zI : Zr 69 I) (K : Zr 70 (wI16 I) → Q none (zS135 N, wI16 I, L0)) : V (rmC 4 1 10) mX4_init 0 0 0 [.ref 68] [] (zS133 N, I, L0) Q := by
  have z0 := zI
  refine v_blk 1 (o := []) (pc' := 1) (ls' := [.ref 68]) (st' := [.ref 68]) (σ' := (zS133 N, I, L0)) rfl trivial ?_
  refine v_obj rfl rfl (Nat.le_of_ble_eq_true rfl) (Nat.le_of_ble_eq_true rfl) ?_
  refine v_blk 2 (o := []) (pc' := 7) (ls' := [.ref 68]) (st' := [.int (10 : Int32), .ref 68]) (σ' := (zS133 N, I, L0)) rfl trivial ?_
  refine v_newarr (t := 0) (N' := 10) (by decide) rfl (by decide) rfl (by decide) (Nat.le_of_ble_eq_true rfl) rfl (inR_of rfl) (inR_of rfl) (Nat.le_of_ble_eq_true rfl) (Nat.le_of_ble_eq_true rfl) ?_
  rw [newM_eq (sh := zS133 N) (I := I) (L := L0) (x := .inr (0, 10, [])) (zI _ (Nat.le_of_eq rfl)) (fun _ => rfl)]
  show V (rmC 4 1 10) mX4_init 1 10 9 [.ref 68] [.ref 69, .ref 68] (zS134 N, I, L0) _
  replace zI : Zr 70 I := Zr_le zI (by decide)
  refine v_putR (j := 66) (v := 69) (ci := 4) (kf := 0) rfl rfl rfl rfl rfl rfl ?_
  show V (rmC 4 1 10) mX4_init 1 10 12 [.ref 68] [] (zS135 N, I, L0) _
  refine v_vret rfl trivial (Nat.le_of_ble_eq_true rfl) (Nat.le_of_ble_eq_true rfl) ?_
  exact K (by assumption)
def wI17 (I : Nat → Nat → Int32) : Nat → Nat → Int32 := I
set_option maxRecDepth 20000 in
theorem w17 {N : Nat} {I : Nat → Nat → Int32} {Q : Option Value → St → Prop} (zI : Zr 71 I) (K : Zr 72 (wI17 I) → Q none (zS139 N, wI17 I, L0)) : V (rmC 4 1 10) mX4_init 0 0 0 [.ref 70] [] (zS137 N, I, L0) Q := by
  have z0 := zI
  refine v_blk 1 (o := []) (pc' := 1) (ls' := [.ref 70]) (st' := [.ref 70]) (σ' := (zS137 N, I, L0)) rfl trivial ?_
  refine v_obj rfl rfl (Nat.le_of_ble_eq_true rfl) (Nat.le_of_ble_eq_true rfl) ?_
  refine v_blk 2 (o := []) (pc' := 7) (ls' := [.ref 70]) (st' := [.int (10 : Int32), .ref 70]) (σ' := (zS137 N, I, L0)) rfl trivial ?_
  refine v_newarr (t := 0) (N' := 10) (by decide) rfl (by decide) rfl (by decide) (Nat.le_of_ble_eq_true rfl) rfl (inR_of rfl) (inR_of rfl) (Nat.le_of_ble_eq_true rfl) (Nat.le_of_ble_eq_true rfl) ?_
  rw [newM_eq (sh := zS137 N) (I := I) (L := L0) (x := .inr (0, 10, [])) (zI _ (Nat.le_of_eq rfl)) (fun _ => rfl)]
  show V (rmC 4 1 10) mX4_init 1 10 9 [.ref 70] [.ref 71, .ref 70] (zS138 N, I, L0) _
  replace zI : Zr 72 I := Zr_le zI (by decide)
  refine v_putR (j := 68) (v := 71) (ci := 4) (kf := 0) rfl rfl rfl rfl rfl rfl ?_
  show V (rmC 4 1 10) mX4_init 1 10 12 [.ref 70] [] (zS139 N, I, L0) _
  refine v_vret rfl trivial (Nat.le_of_ble_eq_true rfl) (Nat.le_of_ble_eq_true rfl) ?_
  exact K (by assumption)
def wI18 (I : Nat → Nat → Int32) : Nat → Nat → Int32 := (up2 (up2 I 72 0 (0 : Int32)) 72 1 (0 : Int32))
set_option maxRecDepth 20000 in
theorem w18 {N : Nat} {I : Nat → Nat → Int32} {Q : Option Value → St → Prop} (zI : Zr 73 I) (K : Zr 75 (wI18 I) → Q none (zS145 N, wI18 I, L0)) : V (rmC 4 2 32) mX0_init 0 0 0 [.ref 72] [] (zS141 N, I, L0) Q := by
  have z0 := zI
  refine v_blk 1 (o := []) (pc' := 1) (ls' := [.ref 72]) (st' := [.ref 72]) (σ' := (zS141 N, I, L0)) rfl trivial ?_
  refine v_obj rfl rfl (Nat.le_of_ble_eq_true rfl) (Nat.le_of_ble_eq_true rfl) ?_
  refine v_blk 3 (o := []) (pc' := 9) (ls' := [.ref 72]) (st' := []) (σ' := (zS141 N, (up2 I 72 0 (0 : Int32)), L0)) rfl trivial ?_
  generalize hI1 : (up2 I 72 0 (0 : Int32)) = I1
  have zI1 : Zr 73 I1 := hI1 ▸ Zr_up2 zI (by decide)
  refine v_blk 3 (o := []) (pc' := 14) (ls' := [.ref 72]) (st' := []) (σ' := (zS141 N, (up2 I1 72 1 (0 : Int32)), L0)) rfl trivial ?_
  generalize hI2 : (up2 I1 72 1 (0 : Int32)) = I2
  have zI2 : Zr 73 I2 := hI2 ▸ Zr_up2 zI1 (by decide)
  refine v_blk 2 (o := []) (pc' := 17) (ls' := [.ref 72]) (st' := [.int (16 : Int32), .ref 72]) (σ' := (zS141 N, I2, L0)) rfl trivial ?_
  refine v_newarr (t := 0) (N' := 16) (by decide) rfl (by decide) rfl (by decide) (Nat.le_of_ble_eq_true rfl) rfl (inR_of rfl) (inR_of rfl) (Nat.le_of_ble_eq_true rfl) (Nat.le_of_ble_eq_true rfl) ?_
  rw [newM_eq (sh := zS141 N) (I := I2) (L := L0) (x := .inr (0, 16, [])) (zI2 _ (Nat.le_of_eq rfl)) (fun _ => rfl)]
  show V (rmC 4 2 32) mX0_init 1 16 19 [.ref 72] [.ref 73, .ref 72] (zS142 N, I2, L0) _
  replace zI2 : Zr 74 I2 := Zr_le zI2 (by decide)
  refine v_putR (j := 70) (v := 73) (ci := 0) (kf := 2) rfl rfl rfl rfl rfl rfl ?_
  show V (rmC 4 2 32) mX0_init 1 16 22 [.ref 72] [] (zS143 N, I2, L0) _
  refine v_blk 2 (o := []) (pc' := 25) (ls' := [.ref 72]) (st' := [.int (16 : Int32), .ref 72]) (σ' := (zS143 N, I2, L0)) rfl trivial ?_
  refine v_newarr (t := 0) (N' := 16) (by decide) rfl (by decide) rfl (by decide) (Nat.le_of_ble_eq_true rfl) rfl (inR_of rfl) (inR_of rfl) (Nat.le_of_ble_eq_true rfl) (Nat.le_of_ble_eq_true rfl) ?_
  rw [newM_eq (sh := zS143 N) (I := I2) (L := L0) (x := .inr (0, 16, [])) (zI2 _ (Nat.le_of_eq rfl)) (fun _ => rfl)]
  show V (rmC 4 2 32) mX0_init 2 32 27 [.ref 72] [.ref 74, .ref 72] (zS144 N, I2, L0) _
  replace zI2 : Zr 75 I2 := Zr_le zI2 (by decide)
  refine v_putR (j := 70) (v := 74) (ci := 0) (kf := 3) rfl rfl rfl rfl rfl rfl ?_
  show V (rmC 4 2 32) mX0_init 2 32 30 [.ref 72] [] (zS145 N, I2, L0) _
  refine v_vret rfl trivial (Nat.le_of_ble_eq_true rfl) (Nat.le_of_ble_eq_true rfl) ?_
  subst_vars
  exact K (by assumption)
def wI19 (I : Nat → Nat → Int32) : Nat → Nat → Int32 := (dyI (up2 I 75 0 (0 : Int32)))
set_option maxRecDepth 20000 in
theorem w19 {N : Nat} {I : Nat → Nat → Int32} {Q : Option Value → St → Prop} (zI : Zr 76 I) (K : Zr 82 (wI19 I) → Q none (zS159 N, wI19 I, L0)) : V (rmC 4 6 1628) mX2_init 0 0 0 [.ref 75] [] (zS147 N, I, L0) Q := by
  have z0 := zI
  refine v_blk 1 (o := []) (pc' := 1) (ls' := [.ref 75]) (st' := [.ref 75]) (σ' := (zS147 N, I, L0)) rfl trivial ?_
  refine v_obj rfl rfl (Nat.le_of_ble_eq_true rfl) (Nat.le_of_ble_eq_true rfl) ?_
  refine v_blk 3 (o := []) (pc' := 9) (ls' := [.ref 75]) (st' := []) (σ' := (zS147 N, (up2 I 75 0 (0 : Int32)), L0)) rfl trivial ?_
  generalize hI1 : (up2 I 75 0 (0 : Int32)) = I1
  have zI1 : Zr 76 I1 := hI1 ▸ Zr_up2 zI (by decide)
  refine v_blk 2 (o := []) (pc' := 12) (ls' := [.ref 75]) (st' := [.int (6 : Int32), .ref 75]) (σ' := (zS147 N, I1, L0)) rfl trivial ?_
  refine v_newarr (t := 0) (N' := 6) (by decide) rfl (by decide) rfl (by decide) (Nat.le_of_ble_eq_true rfl) rfl (inR_of rfl) (inR_of rfl) (Nat.le_of_ble_eq_true rfl) (Nat.le_of_ble_eq_true rfl) ?_
  rw [newM_eq (sh := zS147 N) (I := I1) (L := L0) (x := .inr (0, 6, [])) (zI1 _ (Nat.le_of_eq rfl)) (fun _ => rfl)]
  show V (rmC 4 6 1628) mX2_init 1 6 14 [.ref 75] [.ref 76, .ref 75] (zS148 N, I1, L0) _
  replace zI1 : Zr 77 I1 := Zr_le zI1 (by decide)
  refine v_putR (j := 73) (v := 76) (ci := 2) (kf := 1) rfl rfl rfl rfl rfl rfl ?_
  show V (rmC 4 6 1628) mX2_init 1 6 17 [.ref 75] [] (zS149 N, I1, L0) _
  refine v_blk 2 (o := []) (pc' := 20) (ls' := [.ref 75]) (st' := [.int (36 : Int32), .ref 75]) (σ' := (zS149 N, I1, L0)) rfl trivial ?_
  refine v_newarr (t := 0) (N' := 36) (by decide) rfl (by decide) rfl (by decide) (Nat.le_of_ble_eq_true rfl) rfl (inR_of rfl) (inR_of rfl) (Nat.le_of_ble_eq_true rfl) (Nat.le_of_ble_eq_true rfl) ?_
  rw [newM_eq (sh := zS149 N) (I := I1) (L := L0) (x := .inr (0, 36, [])) (zI1 _ (Nat.le_of_eq rfl)) (fun _ => rfl)]
  show V (rmC 4 6 1628) mX2_init 2 42 22 [.ref 75] [.ref 77, .ref 75] (zS150 N, I1, L0) _
  replace zI1 : Zr 78 I1 := Zr_le zI1 (by decide)
  refine v_putR (j := 73) (v := 77) (ci := 2) (kf := 2) rfl rfl rfl rfl rfl rfl ?_
  show V (rmC 4 6 1628) mX2_init 2 42 25 [.ref 75] [] (zS151 N, I1, L0) _
  refine v_blk 2 (o := []) (pc' := 28) (ls' := [.ref 75]) (st' := [.int (64 : Int32), .ref 75]) (σ' := (zS151 N, I1, L0)) rfl trivial ?_
  refine v_newarr (t := 0) (N' := 64) (by decide) rfl (by decide) rfl (by decide) (Nat.le_of_ble_eq_true rfl) rfl (inR_of rfl) (inR_of rfl) (Nat.le_of_ble_eq_true rfl) (Nat.le_of_ble_eq_true rfl) ?_
  rw [newM_eq (sh := zS151 N) (I := I1) (L := L0) (x := .inr (0, 64, [])) (zI1 _ (Nat.le_of_eq rfl)) (fun _ => rfl)]
  show V (rmC 4 6 1628) mX2_init 3 106 30 [.ref 75] [.ref 78, .ref 75] (zS152 N, I1, L0) _
  replace zI1 : Zr 79 I1 := Zr_le zI1 (by decide)
  refine v_putR (j := 73) (v := 78) (ci := 2) (kf := 3) rfl rfl rfl rfl rfl rfl ?_
  show V (rmC 4 6 1628) mX2_init 3 106 33 [.ref 75] [] (zS153 N, I1, L0) _
  refine v_blk 2 (o := []) (pc' := 36) (ls' := [.ref 75]) (st' := [.int (64 : Int32), .ref 75]) (σ' := (zS153 N, I1, L0)) rfl trivial ?_
  refine v_newarr (t := 0) (N' := 64) (by decide) rfl (by decide) rfl (by decide) (Nat.le_of_ble_eq_true rfl) rfl (inR_of rfl) (inR_of rfl) (Nat.le_of_ble_eq_true rfl) (Nat.le_of_ble_eq_true rfl) ?_
  rw [newM_eq (sh := zS153 N) (I := I1) (L := L0) (x := .inr (0, 64, [])) (zI1 _ (Nat.le_of_eq rfl)) (fun _ => rfl)]
  show V (rmC 4 6 1628) mX2_init 4 170 38 [.ref 75] [.ref 79, .ref 75] (zS154 N, I1, L0) _
  replace zI1 : Zr 80 I1 := Zr_le zI1 (by decide)
  refine v_putR (j := 73) (v := 79) (ci := 2) (kf := 4) rfl rfl rfl rfl rfl rfl ?_
  show V (rmC 4 6 1628) mX2_init 4 170 41 [.ref 75] [] (zS155 N, I1, L0) _
  refine v_blk 2 (o := []) (pc' := 45) (ls' := [.ref 75]) (st' := [.int (729 : Int32), .ref 75]) (σ' := (zS155 N, I1, L0)) rfl trivial ?_
  refine v_newarr (t := 0) (N' := 729) (by decide) rfl (by decide) rfl (by decide) (Nat.le_of_ble_eq_true rfl) rfl (inR_of rfl) (inR_of rfl) (Nat.le_of_ble_eq_true rfl) (Nat.le_of_ble_eq_true rfl) ?_
  rw [newM_eq (sh := zS155 N) (I := I1) (L := L0) (x := .inr (0, 729, [])) (zI1 _ (Nat.le_of_eq rfl)) (fun _ => rfl)]
  show V (rmC 4 6 1628) mX2_init 5 899 47 [.ref 75] [.ref 80, .ref 75] (zS156 N, I1, L0) _
  replace zI1 : Zr 81 I1 := Zr_le zI1 (by decide)
  refine v_putR (j := 73) (v := 80) (ci := 2) (kf := 5) rfl rfl rfl rfl rfl rfl ?_
  show V (rmC 4 6 1628) mX2_init 5 899 50 [.ref 75] [] (zS157 N, I1, L0) _
  refine v_blk 2 (o := []) (pc' := 54) (ls' := [.ref 75]) (st' := [.int (729 : Int32), .ref 75]) (σ' := (zS157 N, I1, L0)) rfl trivial ?_
  refine v_newarr (t := 0) (N' := 729) (by decide) rfl (by decide) rfl (by decide) (Nat.le_of_ble_eq_true rfl) rfl (inR_of rfl) (inR_of rfl) (Nat.le_of_ble_eq_true rfl) (Nat.le_of_ble_eq_true rfl) ?_
  rw [newM_eq (sh := zS157 N) (I := I1) (L := L0) (x := .inr (0, 729, [])) (zI1 _ (Nat.le_of_eq rfl)) (fun _ => rfl)]
  show V (rmC 4 6 1628) mX2_init 6 1628 56 [.ref 75] [.ref 81, .ref 75] (zS158 N, I1, L0) _
  replace zI1 : Zr 82 I1 := Zr_le zI1 (by decide)
  refine v_putR (j := 73) (v := 81) (ci := 2) (kf := 6) rfl rfl rfl rfl rfl rfl ?_
  show V (rmC 4 6 1628) mX2_init 6 1628 59 [.ref 75] [] (zS159 N, I1, L0) _
  refine day_loop ?_ ?_
  · intro b; subst hI1; show (if (78 : Nat) = 75 then _ else I 78 b) = 0; rw [if_neg (by decide)]; exact z0 78 (by decide) b
  generalize hI2 : (dyI I1) = I2
  have zI2 : Zr 82 I2 := hI2 ▸ Zr_of zI1 (fun a b ha => by unfold dyI; rw [if_neg (by omega)])
  refine v_vret rfl trivial (Nat.le_of_ble_eq_true rfl) (Nat.le_of_ble_eq_true rfl) ?_
  subst_vars
  exact K (by assumption)
def wI20 (I : Nat → Nat → Int32) : Nat → Nat → Int32 := (up2 (up2 (up2 (up2 (up2 (up2 (up2 (up2 (up2 I 86 0 (0 : Int32)) 86 1 (0 : Int32)) 86 2 (0 : Int32)) 88 0 (-1 : Int32)) 88 1 (-1 : Int32)) 88 2 (-1 : Int32)) 89 0 (-1 : Int32)) 89 1 (-1 : Int32)) 89 2 (-1 : Int32))
set_option maxRecDepth 20000 in
theorem w20 {N : Nat} {I : Nat → Nat → Int32} {Q : Option Value → St → Prop} (zI : Zr 87 I) (K : Zr 97 (wI20 I) → Q none (zS189 N, wI20 I, L0)) : V (rmC 4 10 434) mX5_init 0 0 0 [.ref 86] [] (zS169 N, I, L0) Q := by
  have z0 := zI
  refine v_blk 1 (o := []) (pc' := 1) (ls' := [.ref 86]) (st' := [.ref 86]) (σ' := (zS169 N, I, L0)) rfl trivial ?_
  refine v_obj rfl rfl (Nat.le_of_ble_eq_true rfl) (Nat.le_of_ble_eq_true rfl) ?_
  refine v_blk 3 (o := []) (pc' := 9) (ls' := [.ref 86]) (st' := []) (σ' := (zS169 N, (up2 I 86 0 (0 : Int32)), L0)) rfl trivial ?_
  generalize hI1 : (up2 I 86 0 (0 : Int32)) = I1
  have zI1 : Zr 87 I1 := hI1 ▸ Zr_up2 zI (by decide)
  refine v_blk 3 (o := []) (pc' := 14) (ls' := [.ref 86]) (st' := []) (σ' := (zS169 N, (up2 I1 86 1 (0 : Int32)), L0)) rfl trivial ?_
  generalize hI2 : (up2 I1 86 1 (0 : Int32)) = I2
  have zI2 : Zr 87 I2 := hI2 ▸ Zr_up2 zI1 (by decide)
  refine v_blk 3 (o := []) (pc' := 19) (ls' := [.ref 86]) (st' := []) (σ' := (zS169 N, (up2 I2 86 2 (0 : Int32)), L0)) rfl trivial ?_
  generalize hI3 : (up2 I2 86 2 (0 : Int32)) = I3
  have zI3 : Zr 87 I3 := hI3 ▸ Zr_up2 zI2 (by decide)
  refine v_blk 2 (o := []) (pc' := 23) (ls' := [.ref 86]) (st' := [.int (300 : Int32), .ref 86]) (σ' := (zS169 N, I3, L0)) rfl trivial ?_
  refine v_newarr (t := 0) (N' := 300) (by decide) rfl (by decide) rfl (by decide) (Nat.le_of_ble_eq_true rfl) rfl (inR_of rfl) (inR_of rfl) (Nat.le_of_ble_eq_true rfl) (Nat.le_of_ble_eq_true rfl) ?_
  rw [newM_eq (sh := zS169 N) (I := I3) (L := L0) (x := .inr (0, 300, [])) (zI3 _ (Nat.le_of_eq rfl)) (fun _ => rfl)]
  show V (rmC 4 10 434) mX5_init 1 300 25 [.ref 86] [.ref 87, .ref 86] (zS170 N, I3, L0) _
  replace zI3 : Zr 88 I3 := Zr_le zI3 (by decide)
  refine v_putR (j := 84) (v := 87) (ci := 5) (kf := 3) rfl rfl rfl rfl rfl rfl ?_
  show V (rmC 4 10 434) mX5_init 1 300 28 [.ref 86] [] (zS171 N, I3, L0) _
  refine v_blk 2 (o := []) (pc' := 30) (ls' := [.ref 86]) (st' := [.int (3 : Int32), .ref 86]) (σ' := (zS171 N, I3, L0)) rfl trivial ?_
  refine v_newarr (t := 0) (N' := 3) (by decide) rfl (by decide) rfl (by decide) (Nat.le_of_ble_eq_true rfl) rfl (inR_of rfl) (inR_of rfl) (Nat.le_of_ble_eq_true rfl) (Nat.le_of_ble_eq_true rfl) ?_
  rw [newM_eq (sh := zS171 N) (I := I3) (L := L0) (x := .inr (0, 3, [])) (zI3 _ (Nat.le_of_eq rfl)) (fun _ => rfl)]
  show V (rmC 4 10 434) mX5_init 2 303 32 [.ref 86] [.ref 88, .ref 86] (zS172 N, I3, L0) _
  replace zI3 : Zr 89 I3 := Zr_le zI3 (by decide)
  refine v_blk 4 (o := [vp_in (0 : Int32) 3]) (pc' := 36) (ls' := [.ref 86]) (st' := [.ref 88, .ref 86]) (σ' := (zS172 N, (up2 I3 88 0 (-1 : Int32)), L0)) rfl (vp_lit rfl) ?_
  generalize hI4 : (up2 I3 88 0 (-1 : Int32)) = I4
  have zI4 : Zr 89 I4 := hI4 ▸ Zr_up2 zI3 (by decide)
  refine v_blk 4 (o := [vp_in (1 : Int32) 3]) (pc' := 40) (ls' := [.ref 86]) (st' := [.ref 88, .ref 86]) (σ' := (zS172 N, (up2 I4 88 1 (-1 : Int32)), L0)) rfl (vp_lit rfl) ?_
  generalize hI5 : (up2 I4 88 1 (-1 : Int32)) = I5
  have zI5 : Zr 89 I5 := hI5 ▸ Zr_up2 zI4 (by decide)
  refine v_blk 4 (o := [vp_in (2 : Int32) 3]) (pc' := 44) (ls' := [.ref 86]) (st' := [.ref 88, .ref 86]) (σ' := (zS172 N, (up2 I5 88 2 (-1 : Int32)), L0)) rfl (vp_lit rfl) ?_
  generalize hI6 : (up2 I5 88 2 (-1 : Int32)) = I6
  have zI6 : Zr 89 I6 := hI6 ▸ Zr_up2 zI5 (by decide)
  refine v_putR (j := 84) (v := 88) (ci := 5) (kf := 4) rfl rfl rfl rfl rfl rfl ?_
  show V (rmC 4 10 434) mX5_init 2 303 47 [.ref 86] [] (zS173 N, I6, L0) _
  refine v_blk 2 (o := []) (pc' := 49) (ls' := [.ref 86]) (st' := [.int (3 : Int32), .ref 86]) (σ' := (zS173 N, I6, L0)) rfl trivial ?_
  refine v_newarr (t := 0) (N' := 3) (by decide) rfl (by decide) rfl (by decide) (Nat.le_of_ble_eq_true rfl) rfl (inR_of rfl) (inR_of rfl) (Nat.le_of_ble_eq_true rfl) (Nat.le_of_ble_eq_true rfl) ?_
  rw [newM_eq (sh := zS173 N) (I := I6) (L := L0) (x := .inr (0, 3, [])) (zI6 _ (Nat.le_of_eq rfl)) (fun _ => rfl)]
  show V (rmC 4 10 434) mX5_init 3 306 51 [.ref 86] [.ref 89, .ref 86] (zS174 N, I6, L0) _
  replace zI6 : Zr 90 I6 := Zr_le zI6 (by decide)
  refine v_blk 4 (o := [vp_in (0 : Int32) 3]) (pc' := 55) (ls' := [.ref 86]) (st' := [.ref 89, .ref 86]) (σ' := (zS174 N, (up2 I6 89 0 (-1 : Int32)), L0)) rfl (vp_lit rfl) ?_
  generalize hI7 : (up2 I6 89 0 (-1 : Int32)) = I7
  have zI7 : Zr 90 I7 := hI7 ▸ Zr_up2 zI6 (by decide)
  refine v_blk 4 (o := [vp_in (1 : Int32) 3]) (pc' := 59) (ls' := [.ref 86]) (st' := [.ref 89, .ref 86]) (σ' := (zS174 N, (up2 I7 89 1 (-1 : Int32)), L0)) rfl (vp_lit rfl) ?_
  generalize hI8 : (up2 I7 89 1 (-1 : Int32)) = I8
  have zI8 : Zr 90 I8 := hI8 ▸ Zr_up2 zI7 (by decide)
  refine v_blk 4 (o := [vp_in (2 : Int32) 3]) (pc' := 63) (ls' := [.ref 86]) (st' := [.ref 89, .ref 86]) (σ' := (zS174 N, (up2 I8 89 2 (-1 : Int32)), L0)) rfl (vp_lit rfl) ?_
  generalize hI9 : (up2 I8 89 2 (-1 : Int32)) = I9
  have zI9 : Zr 90 I9 := hI9 ▸ Zr_up2 zI8 (by decide)
  refine v_putR (j := 84) (v := 89) (ci := 5) (kf := 5) rfl rfl rfl rfl rfl rfl ?_
  show V (rmC 4 10 434) mX5_init 3 306 66 [.ref 86] [] (zS175 N, I9, L0) _
  refine v_blk 2 (o := []) (pc' := 69) (ls' := [.ref 86]) (st' := [.int (16 : Int32), .ref 86]) (σ' := (zS175 N, I9, L0)) rfl trivial ?_
  refine v_newarr (t := 0) (N' := 16) (by decide) rfl (by decide) rfl (by decide) (Nat.le_of_ble_eq_true rfl) rfl (inR_of rfl) (inR_of rfl) (Nat.le_of_ble_eq_true rfl) (Nat.le_of_ble_eq_true rfl) ?_
  rw [newM_eq (sh := zS175 N) (I := I9) (L := L0) (x := .inr (0, 16, [])) (zI9 _ (Nat.le_of_eq rfl)) (fun _ => rfl)]
  show V (rmC 4 10 434) mX5_init 4 322 71 [.ref 86] [.ref 90, .ref 86] (zS176 N, I9, L0) _
  replace zI9 : Zr 91 I9 := Zr_le zI9 (by decide)
  refine v_putR (j := 84) (v := 90) (ci := 5) (kf := 6) rfl rfl rfl rfl rfl rfl ?_
  show V (rmC 4 10 434) mX5_init 4 322 74 [.ref 86] [] (zS177 N, I9, L0) _
  refine v_blk 2 (o := []) (pc' := 77) (ls' := [.ref 86]) (st' := [.int (16 : Int32), .ref 86]) (σ' := (zS177 N, I9, L0)) rfl trivial ?_
  refine v_newarr (t := 0) (N' := 16) (by decide) rfl (by decide) rfl (by decide) (Nat.le_of_ble_eq_true rfl) rfl (inR_of rfl) (inR_of rfl) (Nat.le_of_ble_eq_true rfl) (Nat.le_of_ble_eq_true rfl) ?_
  rw [newM_eq (sh := zS177 N) (I := I9) (L := L0) (x := .inr (0, 16, [])) (zI9 _ (Nat.le_of_eq rfl)) (fun _ => rfl)]
  show V (rmC 4 10 434) mX5_init 5 338 79 [.ref 86] [.ref 91, .ref 86] (zS178 N, I9, L0) _
  replace zI9 : Zr 92 I9 := Zr_le zI9 (by decide)
  refine v_putR (j := 84) (v := 91) (ci := 5) (kf := 7) rfl rfl rfl rfl rfl rfl ?_
  show V (rmC 4 10 434) mX5_init 5 338 82 [.ref 86] [] (zS179 N, I9, L0) _
  refine v_blk 2 (o := []) (pc' := 85) (ls' := [.ref 86]) (st' := [.int (16 : Int32), .ref 86]) (σ' := (zS179 N, I9, L0)) rfl trivial ?_
  refine v_newarr (t := 0) (N' := 16) (by decide) rfl (by decide) rfl (by decide) (Nat.le_of_ble_eq_true rfl) rfl (inR_of rfl) (inR_of rfl) (Nat.le_of_ble_eq_true rfl) (Nat.le_of_ble_eq_true rfl) ?_
  rw [newM_eq (sh := zS179 N) (I := I9) (L := L0) (x := .inr (0, 16, [])) (zI9 _ (Nat.le_of_eq rfl)) (fun _ => rfl)]
  show V (rmC 4 10 434) mX5_init 6 354 87 [.ref 86] [.ref 92, .ref 86] (zS180 N, I9, L0) _
  replace zI9 : Zr 93 I9 := Zr_le zI9 (by decide)
  refine v_putR (j := 84) (v := 92) (ci := 5) (kf := 8) rfl rfl rfl rfl rfl rfl ?_
  show V (rmC 4 10 434) mX5_init 6 354 90 [.ref 86] [] (zS181 N, I9, L0) _
  refine v_blk 2 (o := []) (pc' := 93) (ls' := [.ref 86]) (st' := [.int (16 : Int32), .ref 86]) (σ' := (zS181 N, I9, L0)) rfl trivial ?_
  refine v_newarr (t := 0) (N' := 16) (by decide) rfl (by decide) rfl (by decide) (Nat.le_of_ble_eq_true rfl) rfl (inR_of rfl) (inR_of rfl) (Nat.le_of_ble_eq_true rfl) (Nat.le_of_ble_eq_true rfl) ?_
  rw [newM_eq (sh := zS181 N) (I := I9) (L := L0) (x := .inr (0, 16, [])) (zI9 _ (Nat.le_of_eq rfl)) (fun _ => rfl)]
  show V (rmC 4 10 434) mX5_init 7 370 95 [.ref 86] [.ref 93, .ref 86] (zS182 N, I9, L0) _
  replace zI9 : Zr 94 I9 := Zr_le zI9 (by decide)
  refine v_putR (j := 84) (v := 93) (ci := 5) (kf := 9) rfl rfl rfl rfl rfl rfl ?_
  show V (rmC 4 10 434) mX5_init 7 370 98 [.ref 86] [] (zS183 N, I9, L0) _
  refine v_blk 2 (o := []) (pc' := 101) (ls' := [.ref 86]) (st' := [.int (16 : Int32), .ref 86]) (σ' := (zS183 N, I9, L0)) rfl trivial ?_
  refine v_newarr (t := 0) (N' := 16) (by decide) rfl (by decide) rfl (by decide) (Nat.le_of_ble_eq_true rfl) rfl (inR_of rfl) (inR_of rfl) (Nat.le_of_ble_eq_true rfl) (Nat.le_of_ble_eq_true rfl) ?_
  rw [newM_eq (sh := zS183 N) (I := I9) (L := L0) (x := .inr (0, 16, [])) (zI9 _ (Nat.le_of_eq rfl)) (fun _ => rfl)]
  show V (rmC 4 10 434) mX5_init 8 386 103 [.ref 86] [.ref 94, .ref 86] (zS184 N, I9, L0) _
  replace zI9 : Zr 95 I9 := Zr_le zI9 (by decide)
  refine v_putR (j := 84) (v := 94) (ci := 5) (kf := 10) rfl rfl rfl rfl rfl rfl ?_
  show V (rmC 4 10 434) mX5_init 8 386 106 [.ref 86] [] (zS185 N, I9, L0) _
  refine v_blk 2 (o := []) (pc' := 109) (ls' := [.ref 86]) (st' := [.int (16 : Int32), .ref 86]) (σ' := (zS185 N, I9, L0)) rfl trivial ?_
  refine v_newarr (t := 0) (N' := 16) (by decide) rfl (by decide) rfl (by decide) (Nat.le_of_ble_eq_true rfl) rfl (inR_of rfl) (inR_of rfl) (Nat.le_of_ble_eq_true rfl) (Nat.le_of_ble_eq_true rfl) ?_
  rw [newM_eq (sh := zS185 N) (I := I9) (L := L0) (x := .inr (0, 16, [])) (zI9 _ (Nat.le_of_eq rfl)) (fun _ => rfl)]
  show V (rmC 4 10 434) mX5_init 9 402 111 [.ref 86] [.ref 95, .ref 86] (zS186 N, I9, L0) _
  replace zI9 : Zr 96 I9 := Zr_le zI9 (by decide)
  refine v_putR (j := 84) (v := 95) (ci := 5) (kf := 11) rfl rfl rfl rfl rfl rfl ?_
  show V (rmC 4 10 434) mX5_init 9 402 114 [.ref 86] [] (zS187 N, I9, L0) _
  refine v_blk 2 (o := []) (pc' := 117) (ls' := [.ref 86]) (st' := [.int (32 : Int32), .ref 86]) (σ' := (zS187 N, I9, L0)) rfl trivial ?_
  refine v_newarr (t := 0) (N' := 32) (by decide) rfl (by decide) rfl (by decide) (Nat.le_of_ble_eq_true rfl) rfl (inR_of rfl) (inR_of rfl) (Nat.le_of_ble_eq_true rfl) (Nat.le_of_ble_eq_true rfl) ?_
  rw [newM_eq (sh := zS187 N) (I := I9) (L := L0) (x := .inr (0, 32, [])) (zI9 _ (Nat.le_of_eq rfl)) (fun _ => rfl)]
  show V (rmC 4 10 434) mX5_init 10 434 119 [.ref 86] [.ref 96, .ref 86] (zS188 N, I9, L0) _
  replace zI9 : Zr 97 I9 := Zr_le zI9 (by decide)
  refine v_putR (j := 84) (v := 96) (ci := 5) (kf := 12) rfl rfl rfl rfl rfl rfl ?_
  show V (rmC 4 10 434) mX5_init 10 434 122 [.ref 86] [] (zS189 N, I9, L0) _
  refine v_vret rfl trivial (Nat.le_of_ble_eq_true rfl) (Nat.le_of_ble_eq_true rfl) ?_
  subst_vars
  exact K (by assumption)
def wI21 (I : Nat → Nat → Int32) : Nat → Nat → Int32 := (up2 (up2 (up2 (up2 (up2 (up2 (up2 (up2 (up2 I 97 0 (0 : Int32)) 97 1 (0 : Int32)) 97 2 (0 : Int32)) 99 0 (-1 : Int32)) 99 1 (-1 : Int32)) 99 2 (-1 : Int32)) 100 0 (-1 : Int32)) 100 1 (-1 : Int32)) 100 2 (-1 : Int32))
set_option maxRecDepth 20000 in
theorem w21 {N : Nat} {I : Nat → Nat → Int32} {Q : Option Value → St → Prop} (zI : Zr 98 I) (K : Zr 108 (wI21 I) → Q none (zS211 N, wI21 I, L0)) : V (rmC 4 10 434) mX5_init 0 0 0 [.ref 97] [] (zS191 N, I, L0) Q := by
  have z0 := zI
  refine v_blk 1 (o := []) (pc' := 1) (ls' := [.ref 97]) (st' := [.ref 97]) (σ' := (zS191 N, I, L0)) rfl trivial ?_
  refine v_obj rfl rfl (Nat.le_of_ble_eq_true rfl) (Nat.le_of_ble_eq_true rfl) ?_
  refine v_blk 3 (o := []) (pc' := 9) (ls' := [.ref 97]) (st' := []) (σ' := (zS191 N, (up2 I 97 0 (0 : Int32)), L0)) rfl trivial ?_
  generalize hI1 : (up2 I 97 0 (0 : Int32)) = I1
  have zI1 : Zr 98 I1 := hI1 ▸ Zr_up2 zI (by decide)
  refine v_blk 3 (o := []) (pc' := 14) (ls' := [.ref 97]) (st' := []) (σ' := (zS191 N, (up2 I1 97 1 (0 : Int32)), L0)) rfl trivial ?_
  generalize hI2 : (up2 I1 97 1 (0 : Int32)) = I2
  have zI2 : Zr 98 I2 := hI2 ▸ Zr_up2 zI1 (by decide)
  refine v_blk 3 (o := []) (pc' := 19) (ls' := [.ref 97]) (st' := []) (σ' := (zS191 N, (up2 I2 97 2 (0 : Int32)), L0)) rfl trivial ?_
  generalize hI3 : (up2 I2 97 2 (0 : Int32)) = I3
  have zI3 : Zr 98 I3 := hI3 ▸ Zr_up2 zI2 (by decide)
  refine v_blk 2 (o := []) (pc' := 23) (ls' := [.ref 97]) (st' := [.int (300 : Int32), .ref 97]) (σ' := (zS191 N, I3, L0)) rfl trivial ?_
  refine v_newarr (t := 0) (N' := 300) (by decide) rfl (by decide) rfl (by decide) (Nat.le_of_ble_eq_true rfl) rfl (inR_of rfl) (inR_of rfl) (Nat.le_of_ble_eq_true rfl) (Nat.le_of_ble_eq_true rfl) ?_
  rw [newM_eq (sh := zS191 N) (I := I3) (L := L0) (x := .inr (0, 300, [])) (zI3 _ (Nat.le_of_eq rfl)) (fun _ => rfl)]
  show V (rmC 4 10 434) mX5_init 1 300 25 [.ref 97] [.ref 98, .ref 97] (zS192 N, I3, L0) _
  replace zI3 : Zr 99 I3 := Zr_le zI3 (by decide)
  refine v_putR (j := 95) (v := 98) (ci := 5) (kf := 3) rfl rfl rfl rfl rfl rfl ?_
  show V (rmC 4 10 434) mX5_init 1 300 28 [.ref 97] [] (zS193 N, I3, L0) _
  refine v_blk 2 (o := []) (pc' := 30) (ls' := [.ref 97]) (st' := [.int (3 : Int32), .ref 97]) (σ' := (zS193 N, I3, L0)) rfl trivial ?_
  refine v_newarr (t := 0) (N' := 3) (by decide) rfl (by decide) rfl (by decide) (Nat.le_of_ble_eq_true rfl) rfl (inR_of rfl) (inR_of rfl) (Nat.le_of_ble_eq_true rfl) (Nat.le_of_ble_eq_true rfl) ?_
  rw [newM_eq (sh := zS193 N) (I := I3) (L := L0) (x := .inr (0, 3, [])) (zI3 _ (Nat.le_of_eq rfl)) (fun _ => rfl)]
  show V (rmC 4 10 434) mX5_init 2 303 32 [.ref 97] [.ref 99, .ref 97] (zS194 N, I3, L0) _
  replace zI3 : Zr 100 I3 := Zr_le zI3 (by decide)
  refine v_blk 4 (o := [vp_in (0 : Int32) 3]) (pc' := 36) (ls' := [.ref 97]) (st' := [.ref 99, .ref 97]) (σ' := (zS194 N, (up2 I3 99 0 (-1 : Int32)), L0)) rfl (vp_lit rfl) ?_
  generalize hI4 : (up2 I3 99 0 (-1 : Int32)) = I4
  have zI4 : Zr 100 I4 := hI4 ▸ Zr_up2 zI3 (by decide)
  refine v_blk 4 (o := [vp_in (1 : Int32) 3]) (pc' := 40) (ls' := [.ref 97]) (st' := [.ref 99, .ref 97]) (σ' := (zS194 N, (up2 I4 99 1 (-1 : Int32)), L0)) rfl (vp_lit rfl) ?_
  generalize hI5 : (up2 I4 99 1 (-1 : Int32)) = I5
  have zI5 : Zr 100 I5 := hI5 ▸ Zr_up2 zI4 (by decide)
  refine v_blk 4 (o := [vp_in (2 : Int32) 3]) (pc' := 44) (ls' := [.ref 97]) (st' := [.ref 99, .ref 97]) (σ' := (zS194 N, (up2 I5 99 2 (-1 : Int32)), L0)) rfl (vp_lit rfl) ?_
  generalize hI6 : (up2 I5 99 2 (-1 : Int32)) = I6
  have zI6 : Zr 100 I6 := hI6 ▸ Zr_up2 zI5 (by decide)
  refine v_putR (j := 95) (v := 99) (ci := 5) (kf := 4) rfl rfl rfl rfl rfl rfl ?_
  show V (rmC 4 10 434) mX5_init 2 303 47 [.ref 97] [] (zS195 N, I6, L0) _
  refine v_blk 2 (o := []) (pc' := 49) (ls' := [.ref 97]) (st' := [.int (3 : Int32), .ref 97]) (σ' := (zS195 N, I6, L0)) rfl trivial ?_
  refine v_newarr (t := 0) (N' := 3) (by decide) rfl (by decide) rfl (by decide) (Nat.le_of_ble_eq_true rfl) rfl (inR_of rfl) (inR_of rfl) (Nat.le_of_ble_eq_true rfl) (Nat.le_of_ble_eq_true rfl) ?_
  rw [newM_eq (sh := zS195 N) (I := I6) (L := L0) (x := .inr (0, 3, [])) (zI6 _ (Nat.le_of_eq rfl)) (fun _ => rfl)]
  show V (rmC 4 10 434) mX5_init 3 306 51 [.ref 97] [.ref 100, .ref 97] (zS196 N, I6, L0) _
  replace zI6 : Zr 101 I6 := Zr_le zI6 (by decide)
  refine v_blk 4 (o := [vp_in (0 : Int32) 3]) (pc' := 55) (ls' := [.ref 97]) (st' := [.ref 100, .ref 97]) (σ' := (zS196 N, (up2 I6 100 0 (-1 : Int32)), L0)) rfl (vp_lit rfl) ?_
  generalize hI7 : (up2 I6 100 0 (-1 : Int32)) = I7
  have zI7 : Zr 101 I7 := hI7 ▸ Zr_up2 zI6 (by decide)
  refine v_blk 4 (o := [vp_in (1 : Int32) 3]) (pc' := 59) (ls' := [.ref 97]) (st' := [.ref 100, .ref 97]) (σ' := (zS196 N, (up2 I7 100 1 (-1 : Int32)), L0)) rfl (vp_lit rfl) ?_
  generalize hI8 : (up2 I7 100 1 (-1 : Int32)) = I8
  have zI8 : Zr 101 I8 := hI8 ▸ Zr_up2 zI7 (by decide)
  refine v_blk 4 (o := [vp_in (2 : Int32) 3]) (pc' := 63) (ls' := [.ref 97]) (st' := [.ref 100, .ref 97]) (σ' := (zS196 N, (up2 I8 100 2 (-1 : Int32)), L0)) rfl (vp_lit rfl) ?_
  generalize hI9 : (up2 I8 100 2 (-1 : Int32)) = I9
  have zI9 : Zr 101 I9 := hI9 ▸ Zr_up2 zI8 (by decide)
  refine v_putR (j := 95) (v := 100) (ci := 5) (kf := 5) rfl rfl rfl rfl rfl rfl ?_
  show V (rmC 4 10 434) mX5_init 3 306 66 [.ref 97] [] (zS197 N, I9, L0) _
  refine v_blk 2 (o := []) (pc' := 69) (ls' := [.ref 97]) (st' := [.int (16 : Int32), .ref 97]) (σ' := (zS197 N, I9, L0)) rfl trivial ?_
  refine v_newarr (t := 0) (N' := 16) (by decide) rfl (by decide) rfl (by decide) (Nat.le_of_ble_eq_true rfl) rfl (inR_of rfl) (inR_of rfl) (Nat.le_of_ble_eq_true rfl) (Nat.le_of_ble_eq_true rfl) ?_
  rw [newM_eq (sh := zS197 N) (I := I9) (L := L0) (x := .inr (0, 16, [])) (zI9 _ (Nat.le_of_eq rfl)) (fun _ => rfl)]
  show V (rmC 4 10 434) mX5_init 4 322 71 [.ref 97] [.ref 101, .ref 97] (zS198 N, I9, L0) _
  replace zI9 : Zr 102 I9 := Zr_le zI9 (by decide)
  refine v_putR (j := 95) (v := 101) (ci := 5) (kf := 6) rfl rfl rfl rfl rfl rfl ?_
  show V (rmC 4 10 434) mX5_init 4 322 74 [.ref 97] [] (zS199 N, I9, L0) _
  refine v_blk 2 (o := []) (pc' := 77) (ls' := [.ref 97]) (st' := [.int (16 : Int32), .ref 97]) (σ' := (zS199 N, I9, L0)) rfl trivial ?_
  refine v_newarr (t := 0) (N' := 16) (by decide) rfl (by decide) rfl (by decide) (Nat.le_of_ble_eq_true rfl) rfl (inR_of rfl) (inR_of rfl) (Nat.le_of_ble_eq_true rfl) (Nat.le_of_ble_eq_true rfl) ?_
  rw [newM_eq (sh := zS199 N) (I := I9) (L := L0) (x := .inr (0, 16, [])) (zI9 _ (Nat.le_of_eq rfl)) (fun _ => rfl)]
  show V (rmC 4 10 434) mX5_init 5 338 79 [.ref 97] [.ref 102, .ref 97] (zS200 N, I9, L0) _
  replace zI9 : Zr 103 I9 := Zr_le zI9 (by decide)
  refine v_putR (j := 95) (v := 102) (ci := 5) (kf := 7) rfl rfl rfl rfl rfl rfl ?_
  show V (rmC 4 10 434) mX5_init 5 338 82 [.ref 97] [] (zS201 N, I9, L0) _
  refine v_blk 2 (o := []) (pc' := 85) (ls' := [.ref 97]) (st' := [.int (16 : Int32), .ref 97]) (σ' := (zS201 N, I9, L0)) rfl trivial ?_
  refine v_newarr (t := 0) (N' := 16) (by decide) rfl (by decide) rfl (by decide) (Nat.le_of_ble_eq_true rfl) rfl (inR_of rfl) (inR_of rfl) (Nat.le_of_ble_eq_true rfl) (Nat.le_of_ble_eq_true rfl) ?_
  rw [newM_eq (sh := zS201 N) (I := I9) (L := L0) (x := .inr (0, 16, [])) (zI9 _ (Nat.le_of_eq rfl)) (fun _ => rfl)]
  show V (rmC 4 10 434) mX5_init 6 354 87 [.ref 97] [.ref 103, .ref 97] (zS202 N, I9, L0) _
  replace zI9 : Zr 104 I9 := Zr_le zI9 (by decide)
  refine v_putR (j := 95) (v := 103) (ci := 5) (kf := 8) rfl rfl rfl rfl rfl rfl ?_
  show V (rmC 4 10 434) mX5_init 6 354 90 [.ref 97] [] (zS203 N, I9, L0) _
  refine v_blk 2 (o := []) (pc' := 93) (ls' := [.ref 97]) (st' := [.int (16 : Int32), .ref 97]) (σ' := (zS203 N, I9, L0)) rfl trivial ?_
  refine v_newarr (t := 0) (N' := 16) (by decide) rfl (by decide) rfl (by decide) (Nat.le_of_ble_eq_true rfl) rfl (inR_of rfl) (inR_of rfl) (Nat.le_of_ble_eq_true rfl) (Nat.le_of_ble_eq_true rfl) ?_
  rw [newM_eq (sh := zS203 N) (I := I9) (L := L0) (x := .inr (0, 16, [])) (zI9 _ (Nat.le_of_eq rfl)) (fun _ => rfl)]
  show V (rmC 4 10 434) mX5_init 7 370 95 [.ref 97] [.ref 104, .ref 97] (zS204 N, I9, L0) _
  replace zI9 : Zr 105 I9 := Zr_le zI9 (by decide)
  refine v_putR (j := 95) (v := 104) (ci := 5) (kf := 9) rfl rfl rfl rfl rfl rfl ?_
  show V (rmC 4 10 434) mX5_init 7 370 98 [.ref 97] [] (zS205 N, I9, L0) _
  refine v_blk 2 (o := []) (pc' := 101) (ls' := [.ref 97]) (st' := [.int (16 : Int32), .ref 97]) (σ' := (zS205 N, I9, L0)) rfl trivial ?_
  refine v_newarr (t := 0) (N' := 16) (by decide) rfl (by decide) rfl (by decide) (Nat.le_of_ble_eq_true rfl) rfl (inR_of rfl) (inR_of rfl) (Nat.le_of_ble_eq_true rfl) (Nat.le_of_ble_eq_true rfl) ?_
  rw [newM_eq (sh := zS205 N) (I := I9) (L := L0) (x := .inr (0, 16, [])) (zI9 _ (Nat.le_of_eq rfl)) (fun _ => rfl)]
  show V (rmC 4 10 434) mX5_init 8 386 103 [.ref 97] [.ref 105, .ref 97] (zS206 N, I9, L0) _
  replace zI9 : Zr 106 I9 := Zr_le zI9 (by decide)
  refine v_putR (j := 95) (v := 105) (ci := 5) (kf := 10) rfl rfl rfl rfl rfl rfl ?_
  show V (rmC 4 10 434) mX5_init 8 386 106 [.ref 97] [] (zS207 N, I9, L0) _
  refine v_blk 2 (o := []) (pc' := 109) (ls' := [.ref 97]) (st' := [.int (16 : Int32), .ref 97]) (σ' := (zS207 N, I9, L0)) rfl trivial ?_
  refine v_newarr (t := 0) (N' := 16) (by decide) rfl (by decide) rfl (by decide) (Nat.le_of_ble_eq_true rfl) rfl (inR_of rfl) (inR_of rfl) (Nat.le_of_ble_eq_true rfl) (Nat.le_of_ble_eq_true rfl) ?_
  rw [newM_eq (sh := zS207 N) (I := I9) (L := L0) (x := .inr (0, 16, [])) (zI9 _ (Nat.le_of_eq rfl)) (fun _ => rfl)]
  show V (rmC 4 10 434) mX5_init 9 402 111 [.ref 97] [.ref 106, .ref 97] (zS208 N, I9, L0) _
  replace zI9 : Zr 107 I9 := Zr_le zI9 (by decide)
  refine v_putR (j := 95) (v := 106) (ci := 5) (kf := 11) rfl rfl rfl rfl rfl rfl ?_
  show V (rmC 4 10 434) mX5_init 9 402 114 [.ref 97] [] (zS209 N, I9, L0) _
  refine v_blk 2 (o := []) (pc' := 117) (ls' := [.ref 97]) (st' := [.int (32 : Int32), .ref 97]) (σ' := (zS209 N, I9, L0)) rfl trivial ?_
  refine v_newarr (t := 0) (N' := 32) (by decide) rfl (by decide) rfl (by decide) (Nat.le_of_ble_eq_true rfl) rfl (inR_of rfl) (inR_of rfl) (Nat.le_of_ble_eq_true rfl) (Nat.le_of_ble_eq_true rfl) ?_
  rw [newM_eq (sh := zS209 N) (I := I9) (L := L0) (x := .inr (0, 32, [])) (zI9 _ (Nat.le_of_eq rfl)) (fun _ => rfl)]
  show V (rmC 4 10 434) mX5_init 10 434 119 [.ref 97] [.ref 107, .ref 97] (zS210 N, I9, L0) _
  replace zI9 : Zr 108 I9 := Zr_le zI9 (by decide)
  refine v_putR (j := 95) (v := 107) (ci := 5) (kf := 12) rfl rfl rfl rfl rfl rfl ?_
  show V (rmC 4 10 434) mX5_init 10 434 122 [.ref 97] [] (zS211 N, I9, L0) _
  refine v_vret rfl trivial (Nat.le_of_ble_eq_true rfl) (Nat.le_of_ble_eq_true rfl) ?_
  subst_vars
  exact K (by assumption)
def wI22 (I : Nat → Nat → Int32) : Nat → Nat → Int32 := (up2 (up2 (up2 (up2 (up2 (up2 (up2 (up2 (up2 I 108 0 (0 : Int32)) 108 1 (0 : Int32)) 108 2 (0 : Int32)) 110 0 (-1 : Int32)) 110 1 (-1 : Int32)) 110 2 (-1 : Int32)) 111 0 (-1 : Int32)) 111 1 (-1 : Int32)) 111 2 (-1 : Int32))
set_option maxRecDepth 20000 in
theorem w22 {N : Nat} {I : Nat → Nat → Int32} {Q : Option Value → St → Prop} (zI : Zr 109 I) (K : Zr 119 (wI22 I) → Q none (zS233 N, wI22 I, L0)) : V (rmC 4 10 434) mX5_init 0 0 0 [.ref 108] [] (zS213 N, I, L0) Q := by
  have z0 := zI
  refine v_blk 1 (o := []) (pc' := 1) (ls' := [.ref 108]) (st' := [.ref 108]) (σ' := (zS213 N, I, L0)) rfl trivial ?_
  refine v_obj rfl rfl (Nat.le_of_ble_eq_true rfl) (Nat.le_of_ble_eq_true rfl) ?_
  refine v_blk 3 (o := []) (pc' := 9) (ls' := [.ref 108]) (st' := []) (σ' := (zS213 N, (up2 I 108 0 (0 : Int32)), L0)) rfl trivial ?_
  generalize hI1 : (up2 I 108 0 (0 : Int32)) = I1
  have zI1 : Zr 109 I1 := hI1 ▸ Zr_up2 zI (by decide)
  refine v_blk 3 (o := []) (pc' := 14) (ls' := [.ref 108]) (st' := []) (σ' := (zS213 N, (up2 I1 108 1 (0 : Int32)), L0)) rfl trivial ?_
  generalize hI2 : (up2 I1 108 1 (0 : Int32)) = I2
  have zI2 : Zr 109 I2 := hI2 ▸ Zr_up2 zI1 (by decide)
  refine v_blk 3 (o := []) (pc' := 19) (ls' := [.ref 108]) (st' := []) (σ' := (zS213 N, (up2 I2 108 2 (0 : Int32)), L0)) rfl trivial ?_
  generalize hI3 : (up2 I2 108 2 (0 : Int32)) = I3
  have zI3 : Zr 109 I3 := hI3 ▸ Zr_up2 zI2 (by decide)
  refine v_blk 2 (o := []) (pc' := 23) (ls' := [.ref 108]) (st' := [.int (300 : Int32), .ref 108]) (σ' := (zS213 N, I3, L0)) rfl trivial ?_
  refine v_newarr (t := 0) (N' := 300) (by decide) rfl (by decide) rfl (by decide) (Nat.le_of_ble_eq_true rfl) rfl (inR_of rfl) (inR_of rfl) (Nat.le_of_ble_eq_true rfl) (Nat.le_of_ble_eq_true rfl) ?_
  rw [newM_eq (sh := zS213 N) (I := I3) (L := L0) (x := .inr (0, 300, [])) (zI3 _ (Nat.le_of_eq rfl)) (fun _ => rfl)]
  show V (rmC 4 10 434) mX5_init 1 300 25 [.ref 108] [.ref 109, .ref 108] (zS214 N, I3, L0) _
  replace zI3 : Zr 110 I3 := Zr_le zI3 (by decide)
  refine v_putR (j := 106) (v := 109) (ci := 5) (kf := 3) rfl rfl rfl rfl rfl rfl ?_
  show V (rmC 4 10 434) mX5_init 1 300 28 [.ref 108] [] (zS215 N, I3, L0) _
  refine v_blk 2 (o := []) (pc' := 30) (ls' := [.ref 108]) (st' := [.int (3 : Int32), .ref 108]) (σ' := (zS215 N, I3, L0)) rfl trivial ?_
  refine v_newarr (t := 0) (N' := 3) (by decide) rfl (by decide) rfl (by decide) (Nat.le_of_ble_eq_true rfl) rfl (inR_of rfl) (inR_of rfl) (Nat.le_of_ble_eq_true rfl) (Nat.le_of_ble_eq_true rfl) ?_
  rw [newM_eq (sh := zS215 N) (I := I3) (L := L0) (x := .inr (0, 3, [])) (zI3 _ (Nat.le_of_eq rfl)) (fun _ => rfl)]
  show V (rmC 4 10 434) mX5_init 2 303 32 [.ref 108] [.ref 110, .ref 108] (zS216 N, I3, L0) _
  replace zI3 : Zr 111 I3 := Zr_le zI3 (by decide)
  refine v_blk 4 (o := [vp_in (0 : Int32) 3]) (pc' := 36) (ls' := [.ref 108]) (st' := [.ref 110, .ref 108]) (σ' := (zS216 N, (up2 I3 110 0 (-1 : Int32)), L0)) rfl (vp_lit rfl) ?_
  generalize hI4 : (up2 I3 110 0 (-1 : Int32)) = I4
  have zI4 : Zr 111 I4 := hI4 ▸ Zr_up2 zI3 (by decide)
  refine v_blk 4 (o := [vp_in (1 : Int32) 3]) (pc' := 40) (ls' := [.ref 108]) (st' := [.ref 110, .ref 108]) (σ' := (zS216 N, (up2 I4 110 1 (-1 : Int32)), L0)) rfl (vp_lit rfl) ?_
  generalize hI5 : (up2 I4 110 1 (-1 : Int32)) = I5
  have zI5 : Zr 111 I5 := hI5 ▸ Zr_up2 zI4 (by decide)
  refine v_blk 4 (o := [vp_in (2 : Int32) 3]) (pc' := 44) (ls' := [.ref 108]) (st' := [.ref 110, .ref 108]) (σ' := (zS216 N, (up2 I5 110 2 (-1 : Int32)), L0)) rfl (vp_lit rfl) ?_
  generalize hI6 : (up2 I5 110 2 (-1 : Int32)) = I6
  have zI6 : Zr 111 I6 := hI6 ▸ Zr_up2 zI5 (by decide)
  refine v_putR (j := 106) (v := 110) (ci := 5) (kf := 4) rfl rfl rfl rfl rfl rfl ?_
  show V (rmC 4 10 434) mX5_init 2 303 47 [.ref 108] [] (zS217 N, I6, L0) _
  refine v_blk 2 (o := []) (pc' := 49) (ls' := [.ref 108]) (st' := [.int (3 : Int32), .ref 108]) (σ' := (zS217 N, I6, L0)) rfl trivial ?_
  refine v_newarr (t := 0) (N' := 3) (by decide) rfl (by decide) rfl (by decide) (Nat.le_of_ble_eq_true rfl) rfl (inR_of rfl) (inR_of rfl) (Nat.le_of_ble_eq_true rfl) (Nat.le_of_ble_eq_true rfl) ?_
  rw [newM_eq (sh := zS217 N) (I := I6) (L := L0) (x := .inr (0, 3, [])) (zI6 _ (Nat.le_of_eq rfl)) (fun _ => rfl)]
  show V (rmC 4 10 434) mX5_init 3 306 51 [.ref 108] [.ref 111, .ref 108] (zS218 N, I6, L0) _
  replace zI6 : Zr 112 I6 := Zr_le zI6 (by decide)
  refine v_blk 4 (o := [vp_in (0 : Int32) 3]) (pc' := 55) (ls' := [.ref 108]) (st' := [.ref 111, .ref 108]) (σ' := (zS218 N, (up2 I6 111 0 (-1 : Int32)), L0)) rfl (vp_lit rfl) ?_
  generalize hI7 : (up2 I6 111 0 (-1 : Int32)) = I7
  have zI7 : Zr 112 I7 := hI7 ▸ Zr_up2 zI6 (by decide)
  refine v_blk 4 (o := [vp_in (1 : Int32) 3]) (pc' := 59) (ls' := [.ref 108]) (st' := [.ref 111, .ref 108]) (σ' := (zS218 N, (up2 I7 111 1 (-1 : Int32)), L0)) rfl (vp_lit rfl) ?_
  generalize hI8 : (up2 I7 111 1 (-1 : Int32)) = I8
  have zI8 : Zr 112 I8 := hI8 ▸ Zr_up2 zI7 (by decide)
  refine v_blk 4 (o := [vp_in (2 : Int32) 3]) (pc' := 63) (ls' := [.ref 108]) (st' := [.ref 111, .ref 108]) (σ' := (zS218 N, (up2 I8 111 2 (-1 : Int32)), L0)) rfl (vp_lit rfl) ?_
  generalize hI9 : (up2 I8 111 2 (-1 : Int32)) = I9
  have zI9 : Zr 112 I9 := hI9 ▸ Zr_up2 zI8 (by decide)
  refine v_putR (j := 106) (v := 111) (ci := 5) (kf := 5) rfl rfl rfl rfl rfl rfl ?_
  show V (rmC 4 10 434) mX5_init 3 306 66 [.ref 108] [] (zS219 N, I9, L0) _
  refine v_blk 2 (o := []) (pc' := 69) (ls' := [.ref 108]) (st' := [.int (16 : Int32), .ref 108]) (σ' := (zS219 N, I9, L0)) rfl trivial ?_
  refine v_newarr (t := 0) (N' := 16) (by decide) rfl (by decide) rfl (by decide) (Nat.le_of_ble_eq_true rfl) rfl (inR_of rfl) (inR_of rfl) (Nat.le_of_ble_eq_true rfl) (Nat.le_of_ble_eq_true rfl) ?_
  rw [newM_eq (sh := zS219 N) (I := I9) (L := L0) (x := .inr (0, 16, [])) (zI9 _ (Nat.le_of_eq rfl)) (fun _ => rfl)]
  show V (rmC 4 10 434) mX5_init 4 322 71 [.ref 108] [.ref 112, .ref 108] (zS220 N, I9, L0) _
  replace zI9 : Zr 113 I9 := Zr_le zI9 (by decide)
  refine v_putR (j := 106) (v := 112) (ci := 5) (kf := 6) rfl rfl rfl rfl rfl rfl ?_
  show V (rmC 4 10 434) mX5_init 4 322 74 [.ref 108] [] (zS221 N, I9, L0) _
  refine v_blk 2 (o := []) (pc' := 77) (ls' := [.ref 108]) (st' := [.int (16 : Int32), .ref 108]) (σ' := (zS221 N, I9, L0)) rfl trivial ?_
  refine v_newarr (t := 0) (N' := 16) (by decide) rfl (by decide) rfl (by decide) (Nat.le_of_ble_eq_true rfl) rfl (inR_of rfl) (inR_of rfl) (Nat.le_of_ble_eq_true rfl) (Nat.le_of_ble_eq_true rfl) ?_
  rw [newM_eq (sh := zS221 N) (I := I9) (L := L0) (x := .inr (0, 16, [])) (zI9 _ (Nat.le_of_eq rfl)) (fun _ => rfl)]
  show V (rmC 4 10 434) mX5_init 5 338 79 [.ref 108] [.ref 113, .ref 108] (zS222 N, I9, L0) _
  replace zI9 : Zr 114 I9 := Zr_le zI9 (by decide)
  refine v_putR (j := 106) (v := 113) (ci := 5) (kf := 7) rfl rfl rfl rfl rfl rfl ?_
  show V (rmC 4 10 434) mX5_init 5 338 82 [.ref 108] [] (zS223 N, I9, L0) _
  refine v_blk 2 (o := []) (pc' := 85) (ls' := [.ref 108]) (st' := [.int (16 : Int32), .ref 108]) (σ' := (zS223 N, I9, L0)) rfl trivial ?_
  refine v_newarr (t := 0) (N' := 16) (by decide) rfl (by decide) rfl (by decide) (Nat.le_of_ble_eq_true rfl) rfl (inR_of rfl) (inR_of rfl) (Nat.le_of_ble_eq_true rfl) (Nat.le_of_ble_eq_true rfl) ?_
  rw [newM_eq (sh := zS223 N) (I := I9) (L := L0) (x := .inr (0, 16, [])) (zI9 _ (Nat.le_of_eq rfl)) (fun _ => rfl)]
  show V (rmC 4 10 434) mX5_init 6 354 87 [.ref 108] [.ref 114, .ref 108] (zS224 N, I9, L0) _
  replace zI9 : Zr 115 I9 := Zr_le zI9 (by decide)
  refine v_putR (j := 106) (v := 114) (ci := 5) (kf := 8) rfl rfl rfl rfl rfl rfl ?_
  show V (rmC 4 10 434) mX5_init 6 354 90 [.ref 108] [] (zS225 N, I9, L0) _
  refine v_blk 2 (o := []) (pc' := 93) (ls' := [.ref 108]) (st' := [.int (16 : Int32), .ref 108]) (σ' := (zS225 N, I9, L0)) rfl trivial ?_
  refine v_newarr (t := 0) (N' := 16) (by decide) rfl (by decide) rfl (by decide) (Nat.le_of_ble_eq_true rfl) rfl (inR_of rfl) (inR_of rfl) (Nat.le_of_ble_eq_true rfl) (Nat.le_of_ble_eq_true rfl) ?_
  rw [newM_eq (sh := zS225 N) (I := I9) (L := L0) (x := .inr (0, 16, [])) (zI9 _ (Nat.le_of_eq rfl)) (fun _ => rfl)]
  show V (rmC 4 10 434) mX5_init 7 370 95 [.ref 108] [.ref 115, .ref 108] (zS226 N, I9, L0) _
  replace zI9 : Zr 116 I9 := Zr_le zI9 (by decide)
  refine v_putR (j := 106) (v := 115) (ci := 5) (kf := 9) rfl rfl rfl rfl rfl rfl ?_
  show V (rmC 4 10 434) mX5_init 7 370 98 [.ref 108] [] (zS227 N, I9, L0) _
  refine v_blk 2 (o := []) (pc' := 101) (ls' := [.ref 108]) (st' := [.int (16 : Int32), .ref 108]) (σ' := (zS227 N, I9, L0)) rfl trivial ?_
  refine v_newarr (t := 0) (N' := 16) (by decide) rfl (by decide) rfl (by decide) (Nat.le_of_ble_eq_true rfl) rfl (inR_of rfl) (inR_of rfl) (Nat.le_of_ble_eq_true rfl) (Nat.le_of_ble_eq_true rfl) ?_
  rw [newM_eq (sh := zS227 N) (I := I9) (L := L0) (x := .inr (0, 16, [])) (zI9 _ (Nat.le_of_eq rfl)) (fun _ => rfl)]
  show V (rmC 4 10 434) mX5_init 8 386 103 [.ref 108] [.ref 116, .ref 108] (zS228 N, I9, L0) _
  replace zI9 : Zr 117 I9 := Zr_le zI9 (by decide)
  refine v_putR (j := 106) (v := 116) (ci := 5) (kf := 10) rfl rfl rfl rfl rfl rfl ?_
  show V (rmC 4 10 434) mX5_init 8 386 106 [.ref 108] [] (zS229 N, I9, L0) _
  refine v_blk 2 (o := []) (pc' := 109) (ls' := [.ref 108]) (st' := [.int (16 : Int32), .ref 108]) (σ' := (zS229 N, I9, L0)) rfl trivial ?_
  refine v_newarr (t := 0) (N' := 16) (by decide) rfl (by decide) rfl (by decide) (Nat.le_of_ble_eq_true rfl) rfl (inR_of rfl) (inR_of rfl) (Nat.le_of_ble_eq_true rfl) (Nat.le_of_ble_eq_true rfl) ?_
  rw [newM_eq (sh := zS229 N) (I := I9) (L := L0) (x := .inr (0, 16, [])) (zI9 _ (Nat.le_of_eq rfl)) (fun _ => rfl)]
  show V (rmC 4 10 434) mX5_init 9 402 111 [.ref 108] [.ref 117, .ref 108] (zS230 N, I9, L0) _
  replace zI9 : Zr 118 I9 := Zr_le zI9 (by decide)
  refine v_putR (j := 106) (v := 117) (ci := 5) (kf := 11) rfl rfl rfl rfl rfl rfl ?_
  show V (rmC 4 10 434) mX5_init 9 402 114 [.ref 108] [] (zS231 N, I9, L0) _
  refine v_blk 2 (o := []) (pc' := 117) (ls' := [.ref 108]) (st' := [.int (32 : Int32), .ref 108]) (σ' := (zS231 N, I9, L0)) rfl trivial ?_
  refine v_newarr (t := 0) (N' := 32) (by decide) rfl (by decide) rfl (by decide) (Nat.le_of_ble_eq_true rfl) rfl (inR_of rfl) (inR_of rfl) (Nat.le_of_ble_eq_true rfl) (Nat.le_of_ble_eq_true rfl) ?_
  rw [newM_eq (sh := zS231 N) (I := I9) (L := L0) (x := .inr (0, 32, [])) (zI9 _ (Nat.le_of_eq rfl)) (fun _ => rfl)]
  show V (rmC 4 10 434) mX5_init 10 434 119 [.ref 108] [.ref 118, .ref 108] (zS232 N, I9, L0) _
  replace zI9 : Zr 119 I9 := Zr_le zI9 (by decide)
  refine v_putR (j := 106) (v := 118) (ci := 5) (kf := 12) rfl rfl rfl rfl rfl rfl ?_
  show V (rmC 4 10 434) mX5_init 10 434 122 [.ref 108] [] (zS233 N, I9, L0) _
  refine v_vret rfl trivial (Nat.le_of_ble_eq_true rfl) (Nat.le_of_ble_eq_true rfl) ?_
  subst_vars
  exact K (by assumption)
def wI23 (I : Nat → Nat → Int32) : Nat → Nat → Int32 := (up2 (up2 (up2 (up2 (up2 (up2 (up2 (up2 (up2 I 119 0 (0 : Int32)) 119 1 (0 : Int32)) 119 2 (0 : Int32)) 121 0 (-1 : Int32)) 121 1 (-1 : Int32)) 121 2 (-1 : Int32)) 122 0 (-1 : Int32)) 122 1 (-1 : Int32)) 122 2 (-1 : Int32))
set_option maxRecDepth 20000 in
theorem w23 {N : Nat} {I : Nat → Nat → Int32} {Q : Option Value → St → Prop} (zI : Zr 120 I) (K : Zr 130 (wI23 I) → Q none (zS255 N, wI23 I, L0)) : V (rmC 4 10 434) mX5_init 0 0 0 [.ref 119] [] (zS235 N, I, L0) Q := by
  have z0 := zI
  refine v_blk 1 (o := []) (pc' := 1) (ls' := [.ref 119]) (st' := [.ref 119]) (σ' := (zS235 N, I, L0)) rfl trivial ?_
  refine v_obj rfl rfl (Nat.le_of_ble_eq_true rfl) (Nat.le_of_ble_eq_true rfl) ?_
  refine v_blk 3 (o := []) (pc' := 9) (ls' := [.ref 119]) (st' := []) (σ' := (zS235 N, (up2 I 119 0 (0 : Int32)), L0)) rfl trivial ?_
  generalize hI1 : (up2 I 119 0 (0 : Int32)) = I1
  have zI1 : Zr 120 I1 := hI1 ▸ Zr_up2 zI (by decide)
  refine v_blk 3 (o := []) (pc' := 14) (ls' := [.ref 119]) (st' := []) (σ' := (zS235 N, (up2 I1 119 1 (0 : Int32)), L0)) rfl trivial ?_
  generalize hI2 : (up2 I1 119 1 (0 : Int32)) = I2
  have zI2 : Zr 120 I2 := hI2 ▸ Zr_up2 zI1 (by decide)
  refine v_blk 3 (o := []) (pc' := 19) (ls' := [.ref 119]) (st' := []) (σ' := (zS235 N, (up2 I2 119 2 (0 : Int32)), L0)) rfl trivial ?_
  generalize hI3 : (up2 I2 119 2 (0 : Int32)) = I3
  have zI3 : Zr 120 I3 := hI3 ▸ Zr_up2 zI2 (by decide)
  refine v_blk 2 (o := []) (pc' := 23) (ls' := [.ref 119]) (st' := [.int (300 : Int32), .ref 119]) (σ' := (zS235 N, I3, L0)) rfl trivial ?_
  refine v_newarr (t := 0) (N' := 300) (by decide) rfl (by decide) rfl (by decide) (Nat.le_of_ble_eq_true rfl) rfl (inR_of rfl) (inR_of rfl) (Nat.le_of_ble_eq_true rfl) (Nat.le_of_ble_eq_true rfl) ?_
  rw [newM_eq (sh := zS235 N) (I := I3) (L := L0) (x := .inr (0, 300, [])) (zI3 _ (Nat.le_of_eq rfl)) (fun _ => rfl)]
  show V (rmC 4 10 434) mX5_init 1 300 25 [.ref 119] [.ref 120, .ref 119] (zS236 N, I3, L0) _
  replace zI3 : Zr 121 I3 := Zr_le zI3 (by decide)
  refine v_putR (j := 117) (v := 120) (ci := 5) (kf := 3) rfl rfl rfl rfl rfl rfl ?_
  show V (rmC 4 10 434) mX5_init 1 300 28 [.ref 119] [] (zS237 N, I3, L0) _
  refine v_blk 2 (o := []) (pc' := 30) (ls' := [.ref 119]) (st' := [.int (3 : Int32), .ref 119]) (σ' := (zS237 N, I3, L0)) rfl trivial ?_
  refine v_newarr (t := 0) (N' := 3) (by decide) rfl (by decide) rfl (by decide) (Nat.le_of_ble_eq_true rfl) rfl (inR_of rfl) (inR_of rfl) (Nat.le_of_ble_eq_true rfl) (Nat.le_of_ble_eq_true rfl) ?_
  rw [newM_eq (sh := zS237 N) (I := I3) (L := L0) (x := .inr (0, 3, [])) (zI3 _ (Nat.le_of_eq rfl)) (fun _ => rfl)]
  show V (rmC 4 10 434) mX5_init 2 303 32 [.ref 119] [.ref 121, .ref 119] (zS238 N, I3, L0) _
  replace zI3 : Zr 122 I3 := Zr_le zI3 (by decide)
  refine v_blk 4 (o := [vp_in (0 : Int32) 3]) (pc' := 36) (ls' := [.ref 119]) (st' := [.ref 121, .ref 119]) (σ' := (zS238 N, (up2 I3 121 0 (-1 : Int32)), L0)) rfl (vp_lit rfl) ?_
  generalize hI4 : (up2 I3 121 0 (-1 : Int32)) = I4
  have zI4 : Zr 122 I4 := hI4 ▸ Zr_up2 zI3 (by decide)
  refine v_blk 4 (o := [vp_in (1 : Int32) 3]) (pc' := 40) (ls' := [.ref 119]) (st' := [.ref 121, .ref 119]) (σ' := (zS238 N, (up2 I4 121 1 (-1 : Int32)), L0)) rfl (vp_lit rfl) ?_
  generalize hI5 : (up2 I4 121 1 (-1 : Int32)) = I5
  have zI5 : Zr 122 I5 := hI5 ▸ Zr_up2 zI4 (by decide)
  refine v_blk 4 (o := [vp_in (2 : Int32) 3]) (pc' := 44) (ls' := [.ref 119]) (st' := [.ref 121, .ref 119]) (σ' := (zS238 N, (up2 I5 121 2 (-1 : Int32)), L0)) rfl (vp_lit rfl) ?_
  generalize hI6 : (up2 I5 121 2 (-1 : Int32)) = I6
  have zI6 : Zr 122 I6 := hI6 ▸ Zr_up2 zI5 (by decide)
  refine v_putR (j := 117) (v := 121) (ci := 5) (kf := 4) rfl rfl rfl rfl rfl rfl ?_
  show V (rmC 4 10 434) mX5_init 2 303 47 [.ref 119] [] (zS239 N, I6, L0) _
  refine v_blk 2 (o := []) (pc' := 49) (ls' := [.ref 119]) (st' := [.int (3 : Int32), .ref 119]) (σ' := (zS239 N, I6, L0)) rfl trivial ?_
  refine v_newarr (t := 0) (N' := 3) (by decide) rfl (by decide) rfl (by decide) (Nat.le_of_ble_eq_true rfl) rfl (inR_of rfl) (inR_of rfl) (Nat.le_of_ble_eq_true rfl) (Nat.le_of_ble_eq_true rfl) ?_
  rw [newM_eq (sh := zS239 N) (I := I6) (L := L0) (x := .inr (0, 3, [])) (zI6 _ (Nat.le_of_eq rfl)) (fun _ => rfl)]
  show V (rmC 4 10 434) mX5_init 3 306 51 [.ref 119] [.ref 122, .ref 119] (zS240 N, I6, L0) _
  replace zI6 : Zr 123 I6 := Zr_le zI6 (by decide)
  refine v_blk 4 (o := [vp_in (0 : Int32) 3]) (pc' := 55) (ls' := [.ref 119]) (st' := [.ref 122, .ref 119]) (σ' := (zS240 N, (up2 I6 122 0 (-1 : Int32)), L0)) rfl (vp_lit rfl) ?_
  generalize hI7 : (up2 I6 122 0 (-1 : Int32)) = I7
  have zI7 : Zr 123 I7 := hI7 ▸ Zr_up2 zI6 (by decide)
  refine v_blk 4 (o := [vp_in (1 : Int32) 3]) (pc' := 59) (ls' := [.ref 119]) (st' := [.ref 122, .ref 119]) (σ' := (zS240 N, (up2 I7 122 1 (-1 : Int32)), L0)) rfl (vp_lit rfl) ?_
  generalize hI8 : (up2 I7 122 1 (-1 : Int32)) = I8
  have zI8 : Zr 123 I8 := hI8 ▸ Zr_up2 zI7 (by decide)
  refine v_blk 4 (o := [vp_in (2 : Int32) 3]) (pc' := 63) (ls' := [.ref 119]) (st' := [.ref 122, .ref 119]) (σ' := (zS240 N, (up2 I8 122 2 (-1 : Int32)), L0)) rfl (vp_lit rfl) ?_
  generalize hI9 : (up2 I8 122 2 (-1 : Int32)) = I9
  have zI9 : Zr 123 I9 := hI9 ▸ Zr_up2 zI8 (by decide)
  refine v_putR (j := 117) (v := 122) (ci := 5) (kf := 5) rfl rfl rfl rfl rfl rfl ?_
  show V (rmC 4 10 434) mX5_init 3 306 66 [.ref 119] [] (zS241 N, I9, L0) _
  refine v_blk 2 (o := []) (pc' := 69) (ls' := [.ref 119]) (st' := [.int (16 : Int32), .ref 119]) (σ' := (zS241 N, I9, L0)) rfl trivial ?_
  refine v_newarr (t := 0) (N' := 16) (by decide) rfl (by decide) rfl (by decide) (Nat.le_of_ble_eq_true rfl) rfl (inR_of rfl) (inR_of rfl) (Nat.le_of_ble_eq_true rfl) (Nat.le_of_ble_eq_true rfl) ?_
  rw [newM_eq (sh := zS241 N) (I := I9) (L := L0) (x := .inr (0, 16, [])) (zI9 _ (Nat.le_of_eq rfl)) (fun _ => rfl)]
  show V (rmC 4 10 434) mX5_init 4 322 71 [.ref 119] [.ref 123, .ref 119] (zS242 N, I9, L0) _
  replace zI9 : Zr 124 I9 := Zr_le zI9 (by decide)
  refine v_putR (j := 117) (v := 123) (ci := 5) (kf := 6) rfl rfl rfl rfl rfl rfl ?_
  show V (rmC 4 10 434) mX5_init 4 322 74 [.ref 119] [] (zS243 N, I9, L0) _
  refine v_blk 2 (o := []) (pc' := 77) (ls' := [.ref 119]) (st' := [.int (16 : Int32), .ref 119]) (σ' := (zS243 N, I9, L0)) rfl trivial ?_
  refine v_newarr (t := 0) (N' := 16) (by decide) rfl (by decide) rfl (by decide) (Nat.le_of_ble_eq_true rfl) rfl (inR_of rfl) (inR_of rfl) (Nat.le_of_ble_eq_true rfl) (Nat.le_of_ble_eq_true rfl) ?_
  rw [newM_eq (sh := zS243 N) (I := I9) (L := L0) (x := .inr (0, 16, [])) (zI9 _ (Nat.le_of_eq rfl)) (fun _ => rfl)]
  show V (rmC 4 10 434) mX5_init 5 338 79 [.ref 119] [.ref 124, .ref 119] (zS244 N, I9, L0) _
  replace zI9 : Zr 125 I9 := Zr_le zI9 (by decide)
  refine v_putR (j := 117) (v := 124) (ci := 5) (kf := 7) rfl rfl rfl rfl rfl rfl ?_
  show V (rmC 4 10 434) mX5_init 5 338 82 [.ref 119] [] (zS245 N, I9, L0) _
  refine v_blk 2 (o := []) (pc' := 85) (ls' := [.ref 119]) (st' := [.int (16 : Int32), .ref 119]) (σ' := (zS245 N, I9, L0)) rfl trivial ?_
  refine v_newarr (t := 0) (N' := 16) (by decide) rfl (by decide) rfl (by decide) (Nat.le_of_ble_eq_true rfl) rfl (inR_of rfl) (inR_of rfl) (Nat.le_of_ble_eq_true rfl) (Nat.le_of_ble_eq_true rfl) ?_
  rw [newM_eq (sh := zS245 N) (I := I9) (L := L0) (x := .inr (0, 16, [])) (zI9 _ (Nat.le_of_eq rfl)) (fun _ => rfl)]
  show V (rmC 4 10 434) mX5_init 6 354 87 [.ref 119] [.ref 125, .ref 119] (zS246 N, I9, L0) _
  replace zI9 : Zr 126 I9 := Zr_le zI9 (by decide)
  refine v_putR (j := 117) (v := 125) (ci := 5) (kf := 8) rfl rfl rfl rfl rfl rfl ?_
  show V (rmC 4 10 434) mX5_init 6 354 90 [.ref 119] [] (zS247 N, I9, L0) _
  refine v_blk 2 (o := []) (pc' := 93) (ls' := [.ref 119]) (st' := [.int (16 : Int32), .ref 119]) (σ' := (zS247 N, I9, L0)) rfl trivial ?_
  refine v_newarr (t := 0) (N' := 16) (by decide) rfl (by decide) rfl (by decide) (Nat.le_of_ble_eq_true rfl) rfl (inR_of rfl) (inR_of rfl) (Nat.le_of_ble_eq_true rfl) (Nat.le_of_ble_eq_true rfl) ?_
  rw [newM_eq (sh := zS247 N) (I := I9) (L := L0) (x := .inr (0, 16, [])) (zI9 _ (Nat.le_of_eq rfl)) (fun _ => rfl)]
  show V (rmC 4 10 434) mX5_init 7 370 95 [.ref 119] [.ref 126, .ref 119] (zS248 N, I9, L0) _
  replace zI9 : Zr 127 I9 := Zr_le zI9 (by decide)
  refine v_putR (j := 117) (v := 126) (ci := 5) (kf := 9) rfl rfl rfl rfl rfl rfl ?_
  show V (rmC 4 10 434) mX5_init 7 370 98 [.ref 119] [] (zS249 N, I9, L0) _
  refine v_blk 2 (o := []) (pc' := 101) (ls' := [.ref 119]) (st' := [.int (16 : Int32), .ref 119]) (σ' := (zS249 N, I9, L0)) rfl trivial ?_
  refine v_newarr (t := 0) (N' := 16) (by decide) rfl (by decide) rfl (by decide) (Nat.le_of_ble_eq_true rfl) rfl (inR_of rfl) (inR_of rfl) (Nat.le_of_ble_eq_true rfl) (Nat.le_of_ble_eq_true rfl) ?_
  rw [newM_eq (sh := zS249 N) (I := I9) (L := L0) (x := .inr (0, 16, [])) (zI9 _ (Nat.le_of_eq rfl)) (fun _ => rfl)]
  show V (rmC 4 10 434) mX5_init 8 386 103 [.ref 119] [.ref 127, .ref 119] (zS250 N, I9, L0) _
  replace zI9 : Zr 128 I9 := Zr_le zI9 (by decide)
  refine v_putR (j := 117) (v := 127) (ci := 5) (kf := 10) rfl rfl rfl rfl rfl rfl ?_
  show V (rmC 4 10 434) mX5_init 8 386 106 [.ref 119] [] (zS251 N, I9, L0) _
  refine v_blk 2 (o := []) (pc' := 109) (ls' := [.ref 119]) (st' := [.int (16 : Int32), .ref 119]) (σ' := (zS251 N, I9, L0)) rfl trivial ?_
  refine v_newarr (t := 0) (N' := 16) (by decide) rfl (by decide) rfl (by decide) (Nat.le_of_ble_eq_true rfl) rfl (inR_of rfl) (inR_of rfl) (Nat.le_of_ble_eq_true rfl) (Nat.le_of_ble_eq_true rfl) ?_
  rw [newM_eq (sh := zS251 N) (I := I9) (L := L0) (x := .inr (0, 16, [])) (zI9 _ (Nat.le_of_eq rfl)) (fun _ => rfl)]
  show V (rmC 4 10 434) mX5_init 9 402 111 [.ref 119] [.ref 128, .ref 119] (zS252 N, I9, L0) _
  replace zI9 : Zr 129 I9 := Zr_le zI9 (by decide)
  refine v_putR (j := 117) (v := 128) (ci := 5) (kf := 11) rfl rfl rfl rfl rfl rfl ?_
  show V (rmC 4 10 434) mX5_init 9 402 114 [.ref 119] [] (zS253 N, I9, L0) _
  refine v_blk 2 (o := []) (pc' := 117) (ls' := [.ref 119]) (st' := [.int (32 : Int32), .ref 119]) (σ' := (zS253 N, I9, L0)) rfl trivial ?_
  refine v_newarr (t := 0) (N' := 32) (by decide) rfl (by decide) rfl (by decide) (Nat.le_of_ble_eq_true rfl) rfl (inR_of rfl) (inR_of rfl) (Nat.le_of_ble_eq_true rfl) (Nat.le_of_ble_eq_true rfl) ?_
  rw [newM_eq (sh := zS253 N) (I := I9) (L := L0) (x := .inr (0, 32, [])) (zI9 _ (Nat.le_of_eq rfl)) (fun _ => rfl)]
  show V (rmC 4 10 434) mX5_init 10 434 119 [.ref 119] [.ref 129, .ref 119] (zS254 N, I9, L0) _
  replace zI9 : Zr 130 I9 := Zr_le zI9 (by decide)
  refine v_putR (j := 117) (v := 129) (ci := 5) (kf := 12) rfl rfl rfl rfl rfl rfl ?_
  show V (rmC 4 10 434) mX5_init 10 434 122 [.ref 119] [] (zS255 N, I9, L0) _
  refine v_vret rfl trivial (Nat.le_of_ble_eq_true rfl) (Nat.le_of_ble_eq_true rfl) ?_
  subst_vars
  exact K (by assumption)
def wI1 (I : Nat → Nat → Int32) : Nat → Nat → Int32 := (wI23 (wI22 (wI21 (wI20 (up2 (up2 (up2 (wI19 (wI18 (wI17 (wI16 (wI13 (wI12 (wI7 (wI2 I)))))))) 2 13 (-1 : Int32)) 2 14 (-1 : Int32)) 2 15 (-1 : Int32))))))
set_option maxRecDepth 20000 in
theorem w1 {N : Nat} {I : Nat → Nat → Int32} {Q : Option Value → St → Prop} (zI : Zr 3 I) (K : Zr 130 (wI1 I) → Q none (zS256 N, wI1 I, L0)) : V (rmC 10 127 5974) mX11_init 0 0 0 [.ref 2] [] (zS2 N, I, L0) Q := by
  have z0 := zI
  refine v_blk 1 (o := []) (pc' := 1) (ls' := [.ref 2]) (st' := [.ref 2]) (σ' := (zS2 N, I, L0)) rfl trivial ?_
  refine v_obj rfl rfl (Nat.le_of_ble_eq_true rfl) (Nat.le_of_ble_eq_true rfl) ?_
  refine v_blk 1 (o := []) (pc' := 5) (ls' := [.ref 2]) (st' := [.ref 2]) (σ' := (zS2 N, I, L0)) rfl trivial ?_
  refine v_new (ci := 1) rfl rfl (Nat.le_of_ble_eq_true rfl) rfl (inR_of rfl) (inR_of rfl) (Nat.le_of_ble_eq_true rfl) (Nat.le_of_ble_eq_true rfl) ?_
  rw [newM_eq (sh := zS2 N) (I := I) (L := L0) (x := .inl (1, [])) (zI _ (Nat.le_of_eq rfl)) (fun _ => rfl)]
  show V (rmC 10 127 5974) mX11_init 1 7 8 [.ref 2] [.ref 3, .ref 2] (zS3 N, I, L0) _
  replace zI : Zr 4 I := Zr_le zI (by decide)
  refine v_blk 1 (o := []) (pc' := 9) (ls' := [.ref 2]) (st' := [.ref 3, .ref 3, .ref 2]) (σ' := (zS3 N, I, L0)) rfl trivial ?_
  refine v_spec (R' := (rmC 6 17 166)) (j := 1) (As := []) (rest := [.ref 3, .ref 2]) rfl rfl rfl rfl ⟨Nat.le_of_ble_eq_true rfl, Nat.le_of_ble_eq_true rfl, Nat.le_of_ble_eq_true rfl, Nat.le_of_ble_eq_true rfl⟩ (Nat.le_of_ble_eq_true rfl) (Nat.le_of_ble_eq_true rfl) ?_
  refine w2 zI (fun zN => ⟨Or.inr ⟨inR_of rfl, inR_of rfl⟩, ?_⟩)
  generalize hI1 : wI2 I = I1 at zN ⊢
  have zI1 := zN
  clear zN
  show V (rmC 10 127 5974) mX11_init 18 173 12 [.ref 2] [.ref 3, .ref 2] (zS37 N, I1, L0) _
  refine v_putR (j := 0) (v := 3) (ci := 11) (kf := 0) rfl rfl rfl rfl rfl rfl ?_
  show V (rmC 10 127 5974) mX11_init 18 173 15 [.ref 2] [] (zS38 N, I1, L0) _
  refine v_blk 1 (o := []) (pc' := 16) (ls' := [.ref 2]) (st' := [.ref 2]) (σ' := (zS38 N, I1, L0)) rfl trivial ?_
  refine v_new (ci := 1) rfl rfl (Nat.le_of_ble_eq_true rfl) rfl (inR_of rfl) (inR_of rfl) (Nat.le_of_ble_eq_true rfl) (Nat.le_of_ble_eq_true rfl) ?_
  rw [newM_eq (sh := zS38 N) (I := I1) (L := L0) (x := .inl (1, [])) (zI1 _ (Nat.le_of_eq rfl)) (fun _ => rfl)]
  show V (rmC 10 127 5974) mX11_init 19 180 19 [.ref 2] [.ref 21, .ref 2] (zS39 N, I1, L0) _
  replace zI1 : Zr 22 I1 := Zr_le zI1 (by decide)
  refine v_blk 1 (o := []) (pc' := 20) (ls' := [.ref 2]) (st' := [.ref 21, .ref 21, .ref 2]) (σ' := (zS39 N, I1, L0)) rfl trivial ?_
  refine v_spec (R' := (rmC 6 17 166)) (j := 19) (As := []) (rest := [.ref 21, .ref 2]) rfl rfl rfl rfl ⟨Nat.le_of_ble_eq_true rfl, Nat.le_of_ble_eq_true rfl, Nat.le_of_ble_eq_true rfl, Nat.le_of_ble_eq_true rfl⟩ (Nat.le_of_ble_eq_true rfl) (Nat.le_of_ble_eq_true rfl) ?_
  refine w7 zI1 (fun zN => ⟨Or.inr ⟨inR_of rfl, inR_of rfl⟩, ?_⟩)
  generalize hI2 : wI7 I1 = I2 at zN ⊢
  have zI2 := zN
  clear zN
  show V (rmC 10 127 5974) mX11_init 36 346 23 [.ref 2] [.ref 21, .ref 2] (zS73 N, I2, L0) _
  refine v_putR (j := 0) (v := 21) (ci := 11) (kf := 1) rfl rfl rfl rfl rfl rfl ?_
  show V (rmC 10 127 5974) mX11_init 36 346 26 [.ref 2] [] (zS74 N, I2, L0) _
  refine v_blk 2 (o := []) (pc' := 28) (ls' := [.ref 2]) (st' := [.int (4 : Int32), .ref 2]) (σ' := (zS74 N, I2, L0)) rfl trivial ?_
  refine v_newq (N' := 4) rfl rfl (by decide) rfl (by decide) (Nat.le_of_ble_eq_true rfl) rfl (inR_of rfl) (inR_of rfl) (Nat.le_of_ble_eq_true rfl) (Nat.le_of_ble_eq_true rfl) ?_
  rw [newM_eq (sh := zS74 N) (I := I2) (L := L0) (x := .inr (3, 4, [])) (zI2 _ (Nat.le_of_eq rfl)) (fun _ => rfl)]
  show V (rmC 10 127 5974) mX11_init 37 350 31 [.ref 2] [.ref 39, .ref 2] (zS75 N, I2, L0) _
  replace zI2 : Zr 40 I2 := Zr_le zI2 (by decide)
  refine v_putR (j := 0) (v := 39) (ci := 11) (kf := 2) rfl rfl rfl rfl rfl rfl ?_
  show V (rmC 10 127 5974) mX11_init 37 350 34 [.ref 2] [] (zS76 N, I2, L0) _
  refine v_blk 1 (o := []) (pc' := 35) (ls' := [.ref 2]) (st' := [.ref 2]) (σ' := (zS76 N, I2, L0)) rfl trivial ?_
  refine v_new (ci := 5) rfl rfl (Nat.le_of_ble_eq_true rfl) rfl (inR_of rfl) (inR_of rfl) (Nat.le_of_ble_eq_true rfl) (Nat.le_of_ble_eq_true rfl) ?_
  rw [newM_eq (sh := zS76 N) (I := I2) (L := L0) (x := .inl (5, [])) (zI2 _ (Nat.le_of_eq rfl)) (fun _ => rfl)]
  show V (rmC 10 127 5974) mX11_init 38 363 38 [.ref 2] [.ref 40, .ref 2] (zS77 N, I2, L0) _
  replace zI2 : Zr 41 I2 := Zr_le zI2 (by decide)
  refine v_blk 1 (o := []) (pc' := 39) (ls' := [.ref 2]) (st' := [.ref 40, .ref 40, .ref 2]) (σ' := (zS77 N, I2, L0)) rfl trivial ?_
  refine v_spec (R' := (rmC 4 10 434)) (j := 38) (As := []) (rest := [.ref 40, .ref 2]) rfl rfl rfl rfl ⟨Nat.le_of_ble_eq_true rfl, Nat.le_of_ble_eq_true rfl, Nat.le_of_ble_eq_true rfl, Nat.le_of_ble_eq_true rfl⟩ (Nat.le_of_ble_eq_true rfl) (Nat.le_of_ble_eq_true rfl) ?_
  refine w12 zI2 (fun zN => ⟨Or.inr ⟨inR_of rfl, inR_of rfl⟩, ?_⟩)
  generalize hI3 : wI12 I2 = I3 at zN ⊢
  have zI3 := zN
  clear zN
  show V (rmC 10 127 5974) mX11_init 48 797 42 [.ref 2] [.ref 40, .ref 2] (zS97 N, I3, L0) _
  refine v_putR (j := 0) (v := 40) (ci := 11) (kf := 3) rfl rfl rfl rfl rfl rfl ?_
  show V (rmC 10 127 5974) mX11_init 48 797 45 [.ref 2] [] (zS98 N, I3, L0) _
  refine v_blk 1 (o := []) (pc' := 46) (ls' := [.ref 2]) (st' := [.ref 2]) (σ' := (zS98 N, I3, L0)) rfl trivial ?_
  refine v_new (ci := 6) rfl rfl (Nat.le_of_ble_eq_true rfl) rfl (inR_of rfl) (inR_of rfl) (Nat.le_of_ble_eq_true rfl) (Nat.le_of_ble_eq_true rfl) ?_
  rw [newM_eq (sh := zS98 N) (I := I3) (L := L0) (x := .inl (6, [])) (zI3 _ (Nat.le_of_eq rfl)) (fun _ => rfl)]
  show V (rmC 10 127 5974) mX11_init 49 804 49 [.ref 2] [.ref 51, .ref 2] (zS99 N, I3, L0) _
  replace zI3 : Zr 52 I3 := Zr_le zI3 (by decide)
  refine v_blk 1 (o := []) (pc' := 50) (ls' := [.ref 2]) (st' := [.ref 51, .ref 51, .ref 2]) (σ' := (zS99 N, I3, L0)) rfl trivial ?_
  refine v_spec (R' := (rmC 8 16 1656)) (j := 49) (As := []) (rest := [.ref 51, .ref 2]) rfl rfl rfl rfl ⟨Nat.le_of_ble_eq_true rfl, Nat.le_of_ble_eq_true rfl, Nat.le_of_ble_eq_true rfl, Nat.le_of_ble_eq_true rfl⟩ (Nat.le_of_ble_eq_true rfl) (Nat.le_of_ble_eq_true rfl) ?_
  refine w13 zI3 (fun zN => ⟨Or.inr ⟨inR_of rfl, inR_of rfl⟩, ?_⟩)
  generalize hI4 : wI13 I3 = I4 at zN ⊢
  have zI4 := zN
  clear zN
  show V (rmC 10 127 5974) mX11_init 65 2460 53 [.ref 2] [.ref 51, .ref 2] (zS131 N, I4, L0) _
  refine v_putR (j := 0) (v := 51) (ci := 11) (kf := 4) rfl rfl rfl rfl rfl rfl ?_
  show V (rmC 10 127 5974) mX11_init 65 2460 56 [.ref 2] [] (zS132 N, I4, L0) _
  refine v_blk 1 (o := []) (pc' := 57) (ls' := [.ref 2]) (st' := [.ref 2]) (σ' := (zS132 N, I4, L0)) rfl trivial ?_
  refine v_new (ci := 4) rfl rfl (Nat.le_of_ble_eq_true rfl) rfl (inR_of rfl) (inR_of rfl) (Nat.le_of_ble_eq_true rfl) (Nat.le_of_ble_eq_true rfl) ?_
  rw [newM_eq (sh := zS132 N) (I := I4) (L := L0) (x := .inl (4, [])) (zI4 _ (Nat.le_of_eq rfl)) (fun _ => rfl)]
  show V (rmC 10 127 5974) mX11_init 66 2461 60 [.ref 2] [.ref 68, .ref 2] (zS133 N, I4, L0) _
  replace zI4 : Zr 69 I4 := Zr_le zI4 (by decide)
  refine v_blk 1 (o := []) (pc' := 61) (ls' := [.ref 2]) (st' := [.ref 68, .ref 68, .ref 2]) (σ' := (zS133 N, I4, L0)) rfl trivial ?_
  refine v_spec (R' := (rmC 4 1 10)) (j := 66) (As := []) (rest := [.ref 68, .ref 2]) rfl rfl rfl rfl ⟨Nat.le_of_ble_eq_true rfl, Nat.le_of_ble_eq_true rfl, Nat.le_of_ble_eq_true rfl, Nat.le_of_ble_eq_true rfl⟩ (Nat.le_of_ble_eq_true rfl) (Nat.le_of_ble_eq_true rfl) ?_
  refine w16 zI4 (fun zN => ⟨Or.inr ⟨inR_of rfl, inR_of rfl⟩, ?_⟩)
  generalize hI5 : wI16 I4 = I5 at zN ⊢
  have zI5 := zN
  clear zN
  show V (rmC 10 127 5974) mX11_init 67 2471 64 [.ref 2] [.ref 68, .ref 2] (zS135 N, I5, L0) _
  refine v_putR (j := 0) (v := 68) (ci := 11) (kf := 5) rfl rfl rfl rfl rfl rfl ?_
  show V (rmC 10 127 5974) mX11_init 67 2471 67 [.ref 2] [] (zS136 N, I5, L0) _
  refine v_blk 1 (o := []) (pc' := 68) (ls' := [.ref 2]) (st' := [.ref 2]) (σ' := (zS136 N, I5, L0)) rfl trivial ?_
  refine v_new (ci := 4) rfl rfl (Nat.le_of_ble_eq_true rfl) rfl (inR_of rfl) (inR_of rfl) (Nat.le_of_ble_eq_true rfl) (Nat.le_of_ble_eq_true rfl) ?_
  rw [newM_eq (sh := zS136 N) (I := I5) (L := L0) (x := .inl (4, [])) (zI5 _ (Nat.le_of_eq rfl)) (fun _ => rfl)]
  show V (rmC 10 127 5974) mX11_init 68 2472 71 [.ref 2] [.ref 70, .ref 2] (zS137 N, I5, L0) _
  replace zI5 : Zr 71 I5 := Zr_le zI5 (by decide)
  refine v_blk 1 (o := []) (pc' := 72) (ls' := [.ref 2]) (st' := [.ref 70, .ref 70, .ref 2]) (σ' := (zS137 N, I5, L0)) rfl trivial ?_
  refine v_spec (R' := (rmC 4 1 10)) (j := 68) (As := []) (rest := [.ref 70, .ref 2]) rfl rfl rfl rfl ⟨Nat.le_of_ble_eq_true rfl, Nat.le_of_ble_eq_true rfl, Nat.le_of_ble_eq_true rfl, Nat.le_of_ble_eq_true rfl⟩ (Nat.le_of_ble_eq_true rfl) (Nat.le_of_ble_eq_true rfl) ?_
  refine w17 zI5 (fun zN => ⟨Or.inr ⟨inR_of rfl, inR_of rfl⟩, ?_⟩)
  generalize hI6 : wI17 I5 = I6 at zN ⊢
  have zI6 := zN
  clear zN
  show V (rmC 10 127 5974) mX11_init 69 2482 75 [.ref 2] [.ref 70, .ref 2] (zS139 N, I6, L0) _
  refine v_putR (j := 0) (v := 70) (ci := 11) (kf := 6) rfl rfl rfl rfl rfl rfl ?_
  show V (rmC 10 127 5974) mX11_init 69 2482 78 [.ref 2] [] (zS140 N, I6, L0) _
  refine v_blk 1 (o := []) (pc' := 79) (ls' := [.ref 2]) (st' := [.ref 2]) (σ' := (zS140 N, I6, L0)) rfl trivial ?_
  refine v_new (ci := 0) rfl rfl (Nat.le_of_ble_eq_true rfl) rfl (inR_of rfl) (inR_of rfl) (Nat.le_of_ble_eq_true rfl) (Nat.le_of_ble_eq_true rfl) ?_
  rw [newM_eq (sh := zS140 N) (I := I6) (L := L0) (x := .inl (0, [])) (zI6 _ (Nat.le_of_eq rfl)) (fun _ => rfl)]
  show V (rmC 10 127 5974) mX11_init 70 2486 82 [.ref 2] [.ref 72, .ref 2] (zS141 N, I6, L0) _
  replace zI6 : Zr 73 I6 := Zr_le zI6 (by decide)
  refine v_blk 1 (o := []) (pc' := 83) (ls' := [.ref 2]) (st' := [.ref 72, .ref 72, .ref 2]) (σ' := (zS141 N, I6, L0)) rfl trivial ?_
  refine v_spec (R' := (rmC 4 2 32)) (j := 70) (As := []) (rest := [.ref 72, .ref 2]) rfl rfl rfl rfl ⟨Nat.le_of_ble_eq_true rfl, Nat.le_of_ble_eq_true rfl, Nat.le_of_ble_eq_true rfl, Nat.le_of_ble_eq_true rfl⟩ (Nat.le_of_ble_eq_true rfl) (Nat.le_of_ble_eq_true rfl) ?_
  refine w18 zI6 (fun zN => ⟨Or.inr ⟨inR_of rfl, inR_of rfl⟩, ?_⟩)
  generalize hI7 : wI18 I6 = I7 at zN ⊢
  have zI7 := zN
  clear zN
  show V (rmC 10 127 5974) mX11_init 72 2518 86 [.ref 2] [.ref 72, .ref 2] (zS145 N, I7, L0) _
  refine v_putR (j := 0) (v := 72) (ci := 11) (kf := 7) rfl rfl rfl rfl rfl rfl ?_
  show V (rmC 10 127 5974) mX11_init 72 2518 89 [.ref 2] [] (zS146 N, I7, L0) _
  refine v_blk 1 (o := []) (pc' := 90) (ls' := [.ref 2]) (st' := [.ref 2]) (σ' := (zS146 N, I7, L0)) rfl trivial ?_
  refine v_new (ci := 2) rfl rfl (Nat.le_of_ble_eq_true rfl) rfl (inR_of rfl) (inR_of rfl) (Nat.le_of_ble_eq_true rfl) (Nat.le_of_ble_eq_true rfl) ?_
  rw [newM_eq (sh := zS146 N) (I := I7) (L := L0) (x := .inl (2, [])) (zI7 _ (Nat.le_of_eq rfl)) (fun _ => rfl)]
  show V (rmC 10 127 5974) mX11_init 73 2525 93 [.ref 2] [.ref 75, .ref 2] (zS147 N, I7, L0) _
  replace zI7 : Zr 76 I7 := Zr_le zI7 (by decide)
  refine v_blk 1 (o := []) (pc' := 94) (ls' := [.ref 2]) (st' := [.ref 75, .ref 75, .ref 2]) (σ' := (zS147 N, I7, L0)) rfl trivial ?_
  refine v_spec (R' := (rmC 4 6 1628)) (j := 73) (As := []) (rest := [.ref 75, .ref 2]) rfl rfl rfl rfl ⟨Nat.le_of_ble_eq_true rfl, Nat.le_of_ble_eq_true rfl, Nat.le_of_ble_eq_true rfl, Nat.le_of_ble_eq_true rfl⟩ (Nat.le_of_ble_eq_true rfl) (Nat.le_of_ble_eq_true rfl) ?_
  refine w19 zI7 (fun zN => ⟨Or.inr ⟨inR_of rfl, inR_of rfl⟩, ?_⟩)
  generalize hI8 : wI19 I7 = I8 at zN ⊢
  have zI8 := zN
  clear zN
  show V (rmC 10 127 5974) mX11_init 79 4153 97 [.ref 2] [.ref 75, .ref 2] (zS159 N, I8, L0) _
  refine v_putR (j := 0) (v := 75) (ci := 11) (kf := 8) rfl rfl rfl rfl rfl rfl ?_
  show V (rmC 10 127 5974) mX11_init 79 4153 100 [.ref 2] [] (zS160 N, I8, L0) _
  refine v_blk 2 (o := []) (pc' := 103) (ls' := [.ref 2]) (st' := [.int (7 : Int32), .ref 2]) (σ' := (zS160 N, I8, L0)) rfl trivial ?_
  refine v_newarr (t := 0) (N' := 7) (by decide) rfl (by decide) rfl (by decide) (Nat.le_of_ble_eq_true rfl) rfl (inR_of rfl) (inR_of rfl) (Nat.le_of_ble_eq_true rfl) (Nat.le_of_ble_eq_true rfl) ?_
  rw [newM_eq (sh := zS160 N) (I := I8) (L := L0) (x := .inr (0, 7, [])) (zI8 _ (Nat.le_of_eq rfl)) (fun _ => rfl)]
  show V (rmC 10 127 5974) mX11_init 80 4160 105 [.ref 2] [.ref 82, .ref 2] (zS161 N, I8, L0) _
  replace zI8 : Zr 83 I8 := Zr_le zI8 (by decide)
  refine v_putR (j := 0) (v := 82) (ci := 11) (kf := 9) rfl rfl rfl rfl rfl rfl ?_
  show V (rmC 10 127 5974) mX11_init 80 4160 108 [.ref 2] [] (zS162 N, I8, L0) _
  refine v_blk 2 (o := []) (pc' := 111) (ls' := [.ref 2]) (st' := [.int (10 : Int32), .ref 2]) (σ' := (zS162 N, I8, L0)) rfl trivial ?_
  refine v_newarr (t := 0) (N' := 10) (by decide) rfl (by decide) rfl (by decide) (Nat.le_of_ble_eq_true rfl) rfl (inR_of rfl) (inR_of rfl) (Nat.le_of_ble_eq_true rfl) (Nat.le_of_ble_eq_true rfl) ?_
  rw [newM_eq (sh := zS162 N) (I := I8) (L := L0) (x := .inr (0, 10, [])) (zI8 _ (Nat.le_of_eq rfl)) (fun _ => rfl)]
  show V (rmC 10 127 5974) mX11_init 81 4170 113 [.ref 2] [.ref 83, .ref 2] (zS163 N, I8, L0) _
  replace zI8 : Zr 84 I8 := Zr_le zI8 (by decide)
  refine v_putR (j := 0) (v := 83) (ci := 11) (kf := 10) rfl rfl rfl rfl rfl rfl ?_
  show V (rmC 10 127 5974) mX11_init 81 4170 116 [.ref 2] [] (zS164 N, I8, L0) _
  refine v_blk 2 (o := []) (pc' := 119) (ls' := [.ref 2]) (st' := [.int (10 : Int32), .ref 2]) (σ' := (zS164 N, I8, L0)) rfl trivial ?_
  refine v_newarr (t := 0) (N' := 10) (by decide) rfl (by decide) rfl (by decide) (Nat.le_of_ble_eq_true rfl) rfl (inR_of rfl) (inR_of rfl) (Nat.le_of_ble_eq_true rfl) (Nat.le_of_ble_eq_true rfl) ?_
  rw [newM_eq (sh := zS164 N) (I := I8) (L := L0) (x := .inr (0, 10, [])) (zI8 _ (Nat.le_of_eq rfl)) (fun _ => rfl)]
  show V (rmC 10 127 5974) mX11_init 82 4180 121 [.ref 2] [.ref 84, .ref 2] (zS165 N, I8, L0) _
  replace zI8 : Zr 85 I8 := Zr_le zI8 (by decide)
  refine v_putR (j := 0) (v := 84) (ci := 11) (kf := 11) rfl rfl rfl rfl rfl rfl ?_
  show V (rmC 10 127 5974) mX11_init 82 4180 124 [.ref 2] [] (zS166 N, I8, L0) _
  refine v_blk 2 (o := []) (pc' := 127) (ls' := [.ref 2]) (st' := [.int (6 : Int32), .ref 2]) (σ' := (zS166 N, I8, L0)) rfl trivial ?_
  refine v_newarr (t := 0) (N' := 6) (by decide) rfl (by decide) rfl (by decide) (Nat.le_of_ble_eq_true rfl) rfl (inR_of rfl) (inR_of rfl) (Nat.le_of_ble_eq_true rfl) (Nat.le_of_ble_eq_true rfl) ?_
  rw [newM_eq (sh := zS166 N) (I := I8) (L := L0) (x := .inr (0, 6, [])) (zI8 _ (Nat.le_of_eq rfl)) (fun _ => rfl)]
  show V (rmC 10 127 5974) mX11_init 83 4186 129 [.ref 2] [.ref 85, .ref 2] (zS167 N, I8, L0) _
  replace zI8 : Zr 86 I8 := Zr_le zI8 (by decide)
  refine v_putR (j := 0) (v := 85) (ci := 11) (kf := 12) rfl rfl rfl rfl rfl rfl ?_
  show V (rmC 10 127 5974) mX11_init 83 4186 132 [.ref 2] [] (zS168 N, I8, L0) _
  refine v_blk 3 (o := []) (pc' := 137) (ls' := [.ref 2]) (st' := []) (σ' := (zS168 N, (up2 I8 2 13 (-1 : Int32)), L0)) rfl trivial ?_
  generalize hI9 : (up2 I8 2 13 (-1 : Int32)) = I9
  have zI9 : Zr 86 I9 := hI9 ▸ Zr_up2 zI8 (by decide)
  refine v_blk 3 (o := []) (pc' := 142) (ls' := [.ref 2]) (st' := []) (σ' := (zS168 N, (up2 I9 2 14 (-1 : Int32)), L0)) rfl trivial ?_
  generalize hI10 : (up2 I9 2 14 (-1 : Int32)) = I10
  have zI10 : Zr 86 I10 := hI10 ▸ Zr_up2 zI9 (by decide)
  refine v_blk 3 (o := []) (pc' := 147) (ls' := [.ref 2]) (st' := []) (σ' := (zS168 N, (up2 I10 2 15 (-1 : Int32)), L0)) rfl trivial ?_
  generalize hI11 : (up2 I10 2 15 (-1 : Int32)) = I11
  have zI11 : Zr 86 I11 := hI11 ▸ Zr_up2 zI10 (by decide)
  refine v_blk 8 (o := []) (pc' := 159) (ls' := [.ref 2, .int (0 : Int32)]) (st' := [.int (0 : Int32), .ref 39]) (σ' := (zS168 N, I11, L0)) rfl trivial ?_
  refine v_new (ci := 5) rfl rfl (Nat.le_of_ble_eq_true rfl) rfl (inR_of rfl) (inR_of rfl) (Nat.le_of_ble_eq_true rfl) (Nat.le_of_ble_eq_true rfl) ?_
  rw [newM_eq (sh := zS168 N) (I := I11) (L := L0) (x := .inl (5, [])) (zI11 _ (Nat.le_of_eq rfl)) (fun _ => rfl)]
  show V (rmC 10 127 5974) mX11_init 84 4199 162 [.ref 2, .int (0 : Int32)] [.ref 86, .int (0 : Int32), .ref 39] (zS169 N, I11, L0) _
  replace zI11 : Zr 87 I11 := Zr_le zI11 (by decide)
  refine v_blk 1 (o := []) (pc' := 163) (ls' := [.ref 2, .int (0 : Int32)]) (st' := [.ref 86, .ref 86, .int (0 : Int32), .ref 39]) (σ' := (zS169 N, I11, L0)) rfl trivial ?_
  refine v_spec (R' := (rmC 4 10 434)) (j := 84) (As := []) (rest := [.ref 86, .int (0 : Int32), .ref 39]) rfl rfl rfl rfl ⟨Nat.le_of_ble_eq_true rfl, Nat.le_of_ble_eq_true rfl, Nat.le_of_ble_eq_true rfl, Nat.le_of_ble_eq_true rfl⟩ (Nat.le_of_ble_eq_true rfl) (Nat.le_of_ble_eq_true rfl) ?_
  refine w20 zI11 (fun zN => ⟨Or.inr ⟨inR_of rfl, inR_of rfl⟩, ?_⟩)
  generalize hI12 : wI20 I11 = I12 at zN ⊢
  have zI12 := zN
  clear zN
  show V (rmC 10 127 5974) mX11_init 94 4633 166 [.ref 2, .int (0 : Int32)] [.ref 86, .int (0 : Int32), .ref 39] (zS189 N, I12, L0) _
  refine v_astR (j := 37) (v := 84) (ci := 5) rfl rfl rfl (vp_lit rfl) ?_
  show V (rmC 10 127 5974) mX11_init 94 4633 167 [.ref 2, .int (0 : Int32)] [] (zS190 N, I12, L0) _
  refine v_blk 8 (o := []) (pc' := 159) (ls' := [.ref 2, .int (1 : Int32)]) (st' := [.int (1 : Int32), .ref 39]) (σ' := (zS190 N, I12, L0)) rfl trivial ?_
  refine v_new (ci := 5) rfl rfl (Nat.le_of_ble_eq_true rfl) rfl (inR_of rfl) (inR_of rfl) (Nat.le_of_ble_eq_true rfl) (Nat.le_of_ble_eq_true rfl) ?_
  rw [newM_eq (sh := zS190 N) (I := I12) (L := L0) (x := .inl (5, [])) (zI12 _ (Nat.le_of_eq rfl)) (fun _ => rfl)]
  show V (rmC 10 127 5974) mX11_init 95 4646 162 [.ref 2, .int (1 : Int32)] [.ref 97, .int (1 : Int32), .ref 39] (zS191 N, I12, L0) _
  replace zI12 : Zr 98 I12 := Zr_le zI12 (by decide)
  refine v_blk 1 (o := []) (pc' := 163) (ls' := [.ref 2, .int (1 : Int32)]) (st' := [.ref 97, .ref 97, .int (1 : Int32), .ref 39]) (σ' := (zS191 N, I12, L0)) rfl trivial ?_
  refine v_spec (R' := (rmC 4 10 434)) (j := 95) (As := []) (rest := [.ref 97, .int (1 : Int32), .ref 39]) rfl rfl rfl rfl ⟨Nat.le_of_ble_eq_true rfl, Nat.le_of_ble_eq_true rfl, Nat.le_of_ble_eq_true rfl, Nat.le_of_ble_eq_true rfl⟩ (Nat.le_of_ble_eq_true rfl) (Nat.le_of_ble_eq_true rfl) ?_
  refine w21 zI12 (fun zN => ⟨Or.inr ⟨inR_of rfl, inR_of rfl⟩, ?_⟩)
  generalize hI13 : wI21 I12 = I13 at zN ⊢
  have zI13 := zN
  clear zN
  show V (rmC 10 127 5974) mX11_init 105 5080 166 [.ref 2, .int (1 : Int32)] [.ref 97, .int (1 : Int32), .ref 39] (zS211 N, I13, L0) _
  refine v_astR (j := 37) (v := 95) (ci := 5) rfl rfl rfl (vp_lit rfl) ?_
  show V (rmC 10 127 5974) mX11_init 105 5080 167 [.ref 2, .int (1 : Int32)] [] (zS212 N, I13, L0) _
  refine v_blk 8 (o := []) (pc' := 159) (ls' := [.ref 2, .int (2 : Int32)]) (st' := [.int (2 : Int32), .ref 39]) (σ' := (zS212 N, I13, L0)) rfl trivial ?_
  refine v_new (ci := 5) rfl rfl (Nat.le_of_ble_eq_true rfl) rfl (inR_of rfl) (inR_of rfl) (Nat.le_of_ble_eq_true rfl) (Nat.le_of_ble_eq_true rfl) ?_
  rw [newM_eq (sh := zS212 N) (I := I13) (L := L0) (x := .inl (5, [])) (zI13 _ (Nat.le_of_eq rfl)) (fun _ => rfl)]
  show V (rmC 10 127 5974) mX11_init 106 5093 162 [.ref 2, .int (2 : Int32)] [.ref 108, .int (2 : Int32), .ref 39] (zS213 N, I13, L0) _
  replace zI13 : Zr 109 I13 := Zr_le zI13 (by decide)
  refine v_blk 1 (o := []) (pc' := 163) (ls' := [.ref 2, .int (2 : Int32)]) (st' := [.ref 108, .ref 108, .int (2 : Int32), .ref 39]) (σ' := (zS213 N, I13, L0)) rfl trivial ?_
  refine v_spec (R' := (rmC 4 10 434)) (j := 106) (As := []) (rest := [.ref 108, .int (2 : Int32), .ref 39]) rfl rfl rfl rfl ⟨Nat.le_of_ble_eq_true rfl, Nat.le_of_ble_eq_true rfl, Nat.le_of_ble_eq_true rfl, Nat.le_of_ble_eq_true rfl⟩ (Nat.le_of_ble_eq_true rfl) (Nat.le_of_ble_eq_true rfl) ?_
  refine w22 zI13 (fun zN => ⟨Or.inr ⟨inR_of rfl, inR_of rfl⟩, ?_⟩)
  generalize hI14 : wI22 I13 = I14 at zN ⊢
  have zI14 := zN
  clear zN
  show V (rmC 10 127 5974) mX11_init 116 5527 166 [.ref 2, .int (2 : Int32)] [.ref 108, .int (2 : Int32), .ref 39] (zS233 N, I14, L0) _
  refine v_astR (j := 37) (v := 106) (ci := 5) rfl rfl rfl (vp_lit rfl) ?_
  show V (rmC 10 127 5974) mX11_init 116 5527 167 [.ref 2, .int (2 : Int32)] [] (zS234 N, I14, L0) _
  refine v_blk 8 (o := []) (pc' := 159) (ls' := [.ref 2, .int (3 : Int32)]) (st' := [.int (3 : Int32), .ref 39]) (σ' := (zS234 N, I14, L0)) rfl trivial ?_
  refine v_new (ci := 5) rfl rfl (Nat.le_of_ble_eq_true rfl) rfl (inR_of rfl) (inR_of rfl) (Nat.le_of_ble_eq_true rfl) (Nat.le_of_ble_eq_true rfl) ?_
  rw [newM_eq (sh := zS234 N) (I := I14) (L := L0) (x := .inl (5, [])) (zI14 _ (Nat.le_of_eq rfl)) (fun _ => rfl)]
  show V (rmC 10 127 5974) mX11_init 117 5540 162 [.ref 2, .int (3 : Int32)] [.ref 119, .int (3 : Int32), .ref 39] (zS235 N, I14, L0) _
  replace zI14 : Zr 120 I14 := Zr_le zI14 (by decide)
  refine v_blk 1 (o := []) (pc' := 163) (ls' := [.ref 2, .int (3 : Int32)]) (st' := [.ref 119, .ref 119, .int (3 : Int32), .ref 39]) (σ' := (zS235 N, I14, L0)) rfl trivial ?_
  refine v_spec (R' := (rmC 4 10 434)) (j := 117) (As := []) (rest := [.ref 119, .int (3 : Int32), .ref 39]) rfl rfl rfl rfl ⟨Nat.le_of_ble_eq_true rfl, Nat.le_of_ble_eq_true rfl, Nat.le_of_ble_eq_true rfl, Nat.le_of_ble_eq_true rfl⟩ (Nat.le_of_ble_eq_true rfl) (Nat.le_of_ble_eq_true rfl) ?_
  refine w23 zI14 (fun zN => ⟨Or.inr ⟨inR_of rfl, inR_of rfl⟩, ?_⟩)
  generalize hI15 : wI23 I14 = I15 at zN ⊢
  have zI15 := zN
  clear zN
  show V (rmC 10 127 5974) mX11_init 127 5974 166 [.ref 2, .int (3 : Int32)] [.ref 119, .int (3 : Int32), .ref 39] (zS255 N, I15, L0) _
  refine v_astR (j := 37) (v := 117) (ci := 5) rfl rfl rfl (vp_lit rfl) ?_
  show V (rmC 10 127 5974) mX11_init 127 5974 167 [.ref 2, .int (3 : Int32)] [] (zS256 N, I15, L0) _
  refine v_blk 5 (o := []) (pc' := 173) (ls' := [.ref 2, .int (4 : Int32)]) (st' := []) (σ' := (zS256 N, I15, L0)) rfl trivial ?_
  refine v_vret rfl trivial (Nat.le_of_ble_eq_true rfl) (Nat.le_of_ble_eq_true rfl) ?_
  subst_vars
  exact K (by assumption)
def wI24 (I : Nat → Nat → Int32) : Nat → Nat → Int32 := (cpI (up2 (up2 (up2 I 130 5 (-1 : Int32)) 130 6 (-1 : Int32)) 131 4 (-1 : Int32)))
set_option maxRecDepth 20000 in
theorem w24 {N : Nat} {I : Nat → Nat → Int32} {Q : Option Value → St → Prop} (zI : Zr 131 I) (K : Zr 148 (wI24 I) → Q none (SH N, wI24 I, L0)) : V (rmC 10 17 4581) mX12_init 0 0 0 [.ref 130] [] (zS257 N, I, L0) Q := by
  have z0 := zI
  refine v_blk 1 (o := []) (pc' := 1) (ls' := [.ref 130]) (st' := [.ref 130]) (σ' := (zS257 N, I, L0)) rfl trivial ?_
  refine v_obj rfl rfl (Nat.le_of_ble_eq_true rfl) (Nat.le_of_ble_eq_true rfl) ?_
  refine v_blk 2 (o := []) (pc' := 8) (ls' := [.ref 130]) (st' := [.int (175 : Int32), .ref 130]) (σ' := (zS257 N, I, L0)) rfl trivial ?_
  refine v_newarr (t := 0) (N' := 175) (by decide) rfl (by decide) rfl (by decide) (Nat.le_of_ble_eq_true rfl) rfl (inR_of rfl) (inR_of rfl) (Nat.le_of_ble_eq_true rfl) (Nat.le_of_ble_eq_true rfl) ?_
  rw [newM_eq (sh := zS257 N) (I := I) (L := L0) (x := .inr (0, 175, [])) (zI _ (Nat.le_of_eq rfl)) (fun _ => rfl)]
  show V (rmC 10 17 4581) mX12_init 1 175 10 [.ref 130] [.ref 131, .ref 130] (zS258 N, I, L0) _
  replace zI : Zr 132 I := Zr_le zI (by decide)
  refine v_putR (j := 128) (v := 131) (ci := 12) (kf := 0) rfl rfl rfl rfl rfl rfl ?_
  show V (rmC 10 17 4581) mX12_init 1 175 13 [.ref 130] [] (zS259 N, I, L0) _
  refine v_blk 2 (o := []) (pc' := 17) (ls' := [.ref 130]) (st' := [.int (175 : Int32), .ref 130]) (σ' := (zS259 N, I, L0)) rfl trivial ?_
  refine v_newarr (t := 0) (N' := 175) (by decide) rfl (by decide) rfl (by decide) (Nat.le_of_ble_eq_true rfl) rfl (inR_of rfl) (inR_of rfl) (Nat.le_of_ble_eq_true rfl) (Nat.le_of_ble_eq_true rfl) ?_
  rw [newM_eq (sh := zS259 N) (I := I) (L := L0) (x := .inr (0, 175, [])) (zI _ (Nat.le_of_eq rfl)) (fun _ => rfl)]
  show V (rmC 10 17 4581) mX12_init 2 350 19 [.ref 130] [.ref 132, .ref 130] (zS260 N, I, L0) _
  replace zI : Zr 133 I := Zr_le zI (by decide)
  refine v_putR (j := 128) (v := 132) (ci := 12) (kf := 1) rfl rfl rfl rfl rfl rfl ?_
  show V (rmC 10 17 4581) mX12_init 2 350 22 [.ref 130] [] (zS261 N, I, L0) _
  refine v_blk 2 (o := []) (pc' := 26) (ls' := [.ref 130]) (st' := [.int (3000 : Int32), .ref 130]) (σ' := (zS261 N, I, L0)) rfl trivial ?_
  refine v_newarr (t := 0) (N' := 3000) (by decide) rfl (by decide) rfl (by decide) (Nat.le_of_ble_eq_true rfl) rfl (inR_of rfl) (inR_of rfl) (Nat.le_of_ble_eq_true rfl) (Nat.le_of_ble_eq_true rfl) ?_
  rw [newM_eq (sh := zS261 N) (I := I) (L := L0) (x := .inr (0, 3000, [])) (zI _ (Nat.le_of_eq rfl)) (fun _ => rfl)]
  show V (rmC 10 17 4581) mX12_init 3 3350 28 [.ref 130] [.ref 133, .ref 130] (zS262 N, I, L0) _
  replace zI : Zr 134 I := Zr_le zI (by decide)
  refine v_putR (j := 128) (v := 133) (ci := 12) (kf := 2) rfl rfl rfl rfl rfl rfl ?_
  show V (rmC 10 17 4581) mX12_init 3 3350 31 [.ref 130] [] (zS263 N, I, L0) _
  refine v_blk 2 (o := []) (pc' := 35) (ls' := [.ref 130]) (st' := [.int (300 : Int32), .ref 130]) (σ' := (zS263 N, I, L0)) rfl trivial ?_
  refine v_newarr (t := 0) (N' := 300) (by decide) rfl (by decide) rfl (by decide) (Nat.le_of_ble_eq_true rfl) rfl (inR_of rfl) (inR_of rfl) (Nat.le_of_ble_eq_true rfl) (Nat.le_of_ble_eq_true rfl) ?_
  rw [newM_eq (sh := zS263 N) (I := I) (L := L0) (x := .inr (0, 300, [])) (zI _ (Nat.le_of_eq rfl)) (fun _ => rfl)]
  show V (rmC 10 17 4581) mX12_init 4 3650 37 [.ref 130] [.ref 134, .ref 130] (zS264 N, I, L0) _
  replace zI : Zr 135 I := Zr_le zI (by decide)
  refine v_putR (j := 128) (v := 134) (ci := 12) (kf := 3) rfl rfl rfl rfl rfl rfl ?_
  show V (rmC 10 17 4581) mX12_init 4 3650 40 [.ref 130] [] (zS265 N, I, L0) _
  refine v_blk 3 (o := []) (pc' := 45) (ls' := [.ref 130]) (st' := []) (σ' := (zS265 N, (up2 I 130 5 (-1 : Int32)), L0)) rfl trivial ?_
  generalize hI1 : (up2 I 130 5 (-1 : Int32)) = I1
  have zI1 : Zr 135 I1 := hI1 ▸ Zr_up2 zI (by decide)
  refine v_blk 3 (o := []) (pc' := 50) (ls' := [.ref 130]) (st' := []) (σ' := (zS265 N, (up2 I1 130 6 (-1 : Int32)), L0)) rfl trivial ?_
  generalize hI2 : (up2 I1 130 6 (-1 : Int32)) = I2
  have zI2 : Zr 135 I2 := hI2 ▸ Zr_up2 zI1 (by decide)
  refine v_blk 2 (o := []) (pc' := 54) (ls' := [.ref 130]) (st' := [.int (160 : Int32), .ref 130]) (σ' := (zS265 N, I2, L0)) rfl trivial ?_
  refine v_newarr (t := 0) (N' := 160) (by decide) rfl (by decide) rfl (by decide) (Nat.le_of_ble_eq_true rfl) rfl (inR_of rfl) (inR_of rfl) (Nat.le_of_ble_eq_true rfl) (Nat.le_of_ble_eq_true rfl) ?_
  rw [newM_eq (sh := zS265 N) (I := I2) (L := L0) (x := .inr (0, 160, [])) (zI2 _ (Nat.le_of_eq rfl)) (fun _ => rfl)]
  show V (rmC 10 17 4581) mX12_init 5 3810 56 [.ref 130] [.ref 135, .ref 130] (zS266 N, I2, L0) _
  replace zI2 : Zr 136 I2 := Zr_le zI2 (by decide)
  refine v_putR (j := 128) (v := 135) (ci := 12) (kf := 16) rfl rfl rfl rfl rfl rfl ?_
  show V (rmC 10 17 4581) mX12_init 5 3810 59 [.ref 130] [] (zS267 N, I2, L0) _
  refine v_blk 2 (o := []) (pc' := 62) (ls' := [.ref 130]) (st' := [.int (7 : Int32), .ref 130]) (σ' := (zS267 N, I2, L0)) rfl trivial ?_
  refine v_newarr (t := 0) (N' := 7) (by decide) rfl (by decide) rfl (by decide) (Nat.le_of_ble_eq_true rfl) rfl (inR_of rfl) (inR_of rfl) (Nat.le_of_ble_eq_true rfl) (Nat.le_of_ble_eq_true rfl) ?_
  rw [newM_eq (sh := zS267 N) (I := I2) (L := L0) (x := .inr (0, 7, [])) (zI2 _ (Nat.le_of_eq rfl)) (fun _ => rfl)]
  show V (rmC 10 17 4581) mX12_init 6 3817 64 [.ref 130] [.ref 136, .ref 130] (zS268 N, I2, L0) _
  replace zI2 : Zr 137 I2 := Zr_le zI2 (by decide)
  refine v_putR (j := 128) (v := 136) (ci := 12) (kf := 22) rfl rfl rfl rfl rfl rfl ?_
  show V (rmC 10 17 4581) mX12_init 6 3817 67 [.ref 130] [] (zS269 N, I2, L0) _
  refine v_blk 2 (o := []) (pc' := 71) (ls' := [.ref 130]) (st' := [.int (330 : Int32), .ref 130]) (σ' := (zS269 N, I2, L0)) rfl trivial ?_
  refine v_newarr (t := 1) (N' := 330) (by decide) rfl (by decide) rfl (by decide) (Nat.le_of_ble_eq_true rfl) rfl (inR_of rfl) (inR_of rfl) (Nat.le_of_ble_eq_true rfl) (Nat.le_of_ble_eq_true rfl) ?_
  rw [newM_eq (sh := zS269 N) (I := I2) (L := L0) (x := .inr (1, 330, [])) (zI2 _ (Nat.le_of_eq rfl)) (fun _ => rfl)]
  show V (rmC 10 17 4581) mX12_init 7 4147 73 [.ref 130] [.ref 137, .ref 130] (zS270 N, I2, L0) _
  replace zI2 : Zr 138 I2 := Zr_le zI2 (by decide)
  refine v_putR (j := 128) (v := 137) (ci := 12) (kf := 23) rfl rfl rfl rfl rfl rfl ?_
  show V (rmC 10 17 4581) mX12_init 7 4147 76 [.ref 130] [] (zS271 N, I2, L0) _
  refine v_blk 2 (o := []) (pc' := 80) (ls' := [.ref 130]) (st' := [.int (330 : Int32), .ref 130]) (σ' := (zS271 N, I2, L0)) rfl trivial ?_
  refine v_newarr (t := 2) (N' := 330) (by decide) rfl (by decide) rfl (by decide) (Nat.le_of_ble_eq_true rfl) rfl (inR_of rfl) (inR_of rfl) (Nat.le_of_ble_eq_true rfl) (Nat.le_of_ble_eq_true rfl) ?_
  rw [newM_eq (sh := zS271 N) (I := I2) (L := L0) (x := .inr (2, 330, [])) (zI2 _ (Nat.le_of_eq rfl)) (fun _ => rfl)]
  show V (rmC 10 17 4581) mX12_init 8 4477 82 [.ref 130] [.ref 138, .ref 130] (zS272 N, I2, L0) _
  replace zI2 : Zr 139 I2 := Zr_le zI2 (by decide)
  refine v_putR (j := 128) (v := 138) (ci := 12) (kf := 24) rfl rfl rfl rfl rfl rfl ?_
  show V (rmC 10 17 4581) mX12_init 8 4477 85 [.ref 130] [] (zS273 N, I2, L0) _
  refine v_blk 2 (o := []) (pc' := 88) (ls' := [.ref 130]) (st' := [.int (16 : Int32), .ref 130]) (σ' := (zS273 N, I2, L0)) rfl trivial ?_
  refine v_newarr (t := 0) (N' := 16) (by decide) rfl (by decide) rfl (by decide) (Nat.le_of_ble_eq_true rfl) rfl (inR_of rfl) (inR_of rfl) (Nat.le_of_ble_eq_true rfl) (Nat.le_of_ble_eq_true rfl) ?_
  rw [newM_eq (sh := zS273 N) (I := I2) (L := L0) (x := .inr (0, 16, [])) (zI2 _ (Nat.le_of_eq rfl)) (fun _ => rfl)]
  show V (rmC 10 17 4581) mX12_init 9 4493 90 [.ref 130] [.ref 139, .ref 130] (zS274 N, I2, L0) _
  replace zI2 : Zr 140 I2 := Zr_le zI2 (by decide)
  refine v_putR (j := 128) (v := 139) (ci := 12) (kf := 25) rfl rfl rfl rfl rfl rfl ?_
  show V (rmC 10 17 4581) mX12_init 9 4493 93 [.ref 130] [] (zS275 N, I2, L0) _
  refine v_blk 2 (o := []) (pc' := 96) (ls' := [.ref 130]) (st' := [.int (16 : Int32), .ref 130]) (σ' := (zS275 N, I2, L0)) rfl trivial ?_
  refine v_newarr (t := 0) (N' := 16) (by decide) rfl (by decide) rfl (by decide) (Nat.le_of_ble_eq_true rfl) rfl (inR_of rfl) (inR_of rfl) (Nat.le_of_ble_eq_true rfl) (Nat.le_of_ble_eq_true rfl) ?_
  rw [newM_eq (sh := zS275 N) (I := I2) (L := L0) (x := .inr (0, 16, [])) (zI2 _ (Nat.le_of_eq rfl)) (fun _ => rfl)]
  show V (rmC 10 17 4581) mX12_init 10 4509 98 [.ref 130] [.ref 140, .ref 130] (zS276 N, I2, L0) _
  replace zI2 : Zr 141 I2 := Zr_le zI2 (by decide)
  refine v_putR (j := 128) (v := 140) (ci := 12) (kf := 26) rfl rfl rfl rfl rfl rfl ?_
  show V (rmC 10 17 4581) mX12_init 10 4509 101 [.ref 130] [] (zS277 N, I2, L0) _
  refine v_blk 2 (o := []) (pc' := 104) (ls' := [.ref 130]) (st' := [.int (10 : Int32), .ref 130]) (σ' := (zS277 N, I2, L0)) rfl trivial ?_
  refine v_newarr (t := 0) (N' := 10) (by decide) rfl (by decide) rfl (by decide) (Nat.le_of_ble_eq_true rfl) rfl (inR_of rfl) (inR_of rfl) (Nat.le_of_ble_eq_true rfl) (Nat.le_of_ble_eq_true rfl) ?_
  rw [newM_eq (sh := zS277 N) (I := I2) (L := L0) (x := .inr (0, 10, [])) (zI2 _ (Nat.le_of_eq rfl)) (fun _ => rfl)]
  show V (rmC 10 17 4581) mX12_init 11 4519 106 [.ref 130] [.ref 141, .ref 130] (zS278 N, I2, L0) _
  replace zI2 : Zr 142 I2 := Zr_le zI2 (by decide)
  refine v_putR (j := 128) (v := 141) (ci := 12) (kf := 27) rfl rfl rfl rfl rfl rfl ?_
  show V (rmC 10 17 4581) mX12_init 11 4519 109 [.ref 130] [] (zS279 N, I2, L0) _
  refine v_blk 2 (o := []) (pc' := 112) (ls' := [.ref 130]) (st' := [.int (16 : Int32), .ref 130]) (σ' := (zS279 N, I2, L0)) rfl trivial ?_
  refine v_newarr (t := 0) (N' := 16) (by decide) rfl (by decide) rfl (by decide) (Nat.le_of_ble_eq_true rfl) rfl (inR_of rfl) (inR_of rfl) (Nat.le_of_ble_eq_true rfl) (Nat.le_of_ble_eq_true rfl) ?_
  rw [newM_eq (sh := zS279 N) (I := I2) (L := L0) (x := .inr (0, 16, [])) (zI2 _ (Nat.le_of_eq rfl)) (fun _ => rfl)]
  show V (rmC 10 17 4581) mX12_init 12 4535 114 [.ref 130] [.ref 142, .ref 130] (zS280 N, I2, L0) _
  replace zI2 : Zr 143 I2 := Zr_le zI2 (by decide)
  refine v_putR (j := 128) (v := 142) (ci := 12) (kf := 28) rfl rfl rfl rfl rfl rfl ?_
  show V (rmC 10 17 4581) mX12_init 12 4535 117 [.ref 130] [] (zS281 N, I2, L0) _
  refine v_blk 2 (o := []) (pc' := 119) (ls' := [.ref 130]) (st' := [.int (3 : Int32), .ref 130]) (σ' := (zS281 N, I2, L0)) rfl trivial ?_
  refine v_newarr (t := 0) (N' := 3) (by decide) rfl (by decide) rfl (by decide) (Nat.le_of_ble_eq_true rfl) rfl (inR_of rfl) (inR_of rfl) (Nat.le_of_ble_eq_true rfl) (Nat.le_of_ble_eq_true rfl) ?_
  rw [newM_eq (sh := zS281 N) (I := I2) (L := L0) (x := .inr (0, 3, [])) (zI2 _ (Nat.le_of_eq rfl)) (fun _ => rfl)]
  show V (rmC 10 17 4581) mX12_init 13 4538 121 [.ref 130] [.ref 143, .ref 130] (zS282 N, I2, L0) _
  replace zI2 : Zr 144 I2 := Zr_le zI2 (by decide)
  refine v_putR (j := 128) (v := 143) (ci := 12) (kf := 29) rfl rfl rfl rfl rfl rfl ?_
  show V (rmC 10 17 4581) mX12_init 13 4538 124 [.ref 130] [] (zS283 N, I2, L0) _
  refine v_blk 2 (o := []) (pc' := 127) (ls' := [.ref 130]) (st' := [.int (10 : Int32), .ref 130]) (σ' := (zS283 N, I2, L0)) rfl trivial ?_
  refine v_newarr (t := 0) (N' := 10) (by decide) rfl (by decide) rfl (by decide) (Nat.le_of_ble_eq_true rfl) rfl (inR_of rfl) (inR_of rfl) (Nat.le_of_ble_eq_true rfl) (Nat.le_of_ble_eq_true rfl) ?_
  rw [newM_eq (sh := zS283 N) (I := I2) (L := L0) (x := .inr (0, 10, [])) (zI2 _ (Nat.le_of_eq rfl)) (fun _ => rfl)]
  show V (rmC 10 17 4581) mX12_init 14 4548 129 [.ref 130] [.ref 144, .ref 130] (zS284 N, I2, L0) _
  replace zI2 : Zr 145 I2 := Zr_le zI2 (by decide)
  refine v_putR (j := 128) (v := 144) (ci := 12) (kf := 30) rfl rfl rfl rfl rfl rfl ?_
  show V (rmC 10 17 4581) mX12_init 14 4548 132 [.ref 130] [] (zS285 N, I2, L0) _
  refine v_blk 2 (o := []) (pc' := 135) (ls' := [.ref 130]) (st' := [.int (13 : Int32), .ref 130]) (σ' := (zS285 N, I2, L0)) rfl trivial ?_
  refine v_newarr (t := 0) (N' := 13) (by decide) rfl (by decide) rfl (by decide) (Nat.le_of_ble_eq_true rfl) rfl (inR_of rfl) (inR_of rfl) (Nat.le_of_ble_eq_true rfl) (Nat.le_of_ble_eq_true rfl) ?_
  rw [newM_eq (sh := zS285 N) (I := I2) (L := L0) (x := .inr (0, 13, [])) (zI2 _ (Nat.le_of_eq rfl)) (fun _ => rfl)]
  show V (rmC 10 17 4581) mX12_init 15 4561 137 [.ref 130] [.ref 145, .ref 130] (zS286 N, I2, L0) _
  replace zI2 : Zr 146 I2 := Zr_le zI2 (by decide)
  refine v_putR (j := 128) (v := 145) (ci := 12) (kf := 31) rfl rfl rfl rfl rfl rfl ?_
  show V (rmC 10 17 4581) mX12_init 15 4561 140 [.ref 130] [] (zS287 N, I2, L0) _
  refine v_blk 2 (o := []) (pc' := 143) (ls' := [.ref 130]) (st' := [.int (14 : Int32), .ref 130]) (σ' := (zS287 N, I2, L0)) rfl trivial ?_
  refine v_newarr (t := 0) (N' := 14) (by decide) rfl (by decide) rfl (by decide) (Nat.le_of_ble_eq_true rfl) rfl (inR_of rfl) (inR_of rfl) (Nat.le_of_ble_eq_true rfl) (Nat.le_of_ble_eq_true rfl) ?_
  rw [newM_eq (sh := zS287 N) (I := I2) (L := L0) (x := .inr (0, 14, [])) (zI2 _ (Nat.le_of_eq rfl)) (fun _ => rfl)]
  show V (rmC 10 17 4581) mX12_init 16 4575 145 [.ref 130] [.ref 146, .ref 130] (zS288 N, I2, L0) _
  replace zI2 : Zr 147 I2 := Zr_le zI2 (by decide)
  refine v_putR (j := 128) (v := 146) (ci := 12) (kf := 32) rfl rfl rfl rfl rfl rfl ?_
  show V (rmC 10 17 4581) mX12_init 16 4575 148 [.ref 130] [] (zS289 N, I2, L0) _
  refine v_blk 2 (o := []) (pc' := 151) (ls' := [.ref 130]) (st' := [.int (6 : Int32), .ref 130]) (σ' := (zS289 N, I2, L0)) rfl trivial ?_
  refine v_newarr (t := 0) (N' := 6) (by decide) rfl (by decide) rfl (by decide) (Nat.le_of_ble_eq_true rfl) rfl (inR_of rfl) (inR_of rfl) (Nat.le_of_ble_eq_true rfl) (Nat.le_of_ble_eq_true rfl) ?_
  rw [newM_eq (sh := zS289 N) (I := I2) (L := L0) (x := .inr (0, 6, [])) (zI2 _ (Nat.le_of_eq rfl)) (fun _ => rfl)]
  show V (rmC 10 17 4581) mX12_init 17 4581 153 [.ref 130] [.ref 147, .ref 130] (zS290 N, I2, L0) _
  replace zI2 : Zr 148 I2 := Zr_le zI2 (by decide)
  refine v_putR (j := 128) (v := 147) (ci := 12) (kf := 36) rfl rfl rfl rfl rfl rfl ?_
  show V (rmC 10 17 4581) mX12_init 17 4581 156 [.ref 130] [] (zS291 N, I2, L0) _
  refine v_blk 5 (o := [vp_in (4 : Int32) 175]) (pc' := 163) (ls' := [.ref 130]) (st' := []) (σ' := (zS291 N, (up2 I2 131 4 (-1 : Int32)), L0)) rfl (vp_lit rfl) ?_
  generalize hI3 : (up2 I2 131 4 (-1 : Int32)) = I3
  have zI3 : Zr 148 I3 := hI3 ▸ Zr_up2 zI2 (by decide)
  refine v_blk 4 (o := []) (pc' := 171) (ls' := [.ref 130]) (st' := [.ref 132, .ref 131]) (σ' := (zS291 N, I3, L0)) rfl trivial ?_
  refine v_stat (R' := rmD 1) (As := [.ref 131, .ref 132]) (rest := []) rfl rfl rfl rfl ⟨Nat.le_of_ble_eq_true rfl, Nat.le_of_ble_eq_true rfl, Nat.le_of_ble_eq_true rfl, Nat.le_of_ble_eq_true rfl⟩ (Nat.le_of_ble_eq_true rfl) (Nat.le_of_ble_eq_true rfl) ?_
  refine V.post (copy_0 (N := N) (μ := (I3, L0))) ?_
  rintro r σ' ⟨μ', rfl, rfl, rfl⟩
  refine ⟨Or.inl rfl, ?_⟩
  show V (rmC 10 17 4581) mX12_init 17 4581 174 [.ref 130] [] (SH N, cpI I3, L0) _
  generalize hI4 : (cpI I3) = I4
  have zI4 : Zr 148 I4 := hI4 ▸ Zr_of zI3 (fun a b ha => by unfold cpI; rw [if_neg (by omega)])
  refine v_vret rfl trivial (Nat.le_of_ble_eq_true rfl) (Nat.le_of_ble_eq_true rfl) ?_
  subst_vars
  exact K (by assumption)
def wI0 (I : Nat → Nat → Int32) : Nat → Nat → Int32 := (wI24 (wI1 I))
set_option maxRecDepth 20000 in
theorem law_start {N : Nat} {I : Nat → Nat → Int32} {Q : Option Value → St → Prop} (zI : Zr 2 I) (K : V room_1 mL_law 146 10608 18 [.ref 0, .ref 2, .ref 130, .int (0 : Int32)] [] (SH N, wI0 I, L0) Q) : V room_1 mL_law 0 0 0 [.ref 0] [] (zS1 N, I, L0) Q := by
  refine v_new (ci := 11) rfl rfl (Nat.le_of_ble_eq_true rfl) rfl (inR_of rfl) (inR_of rfl) (Nat.le_of_ble_eq_true rfl) (Nat.le_of_ble_eq_true rfl) ?_
  rw [newM_eq (sh := zS1 N) (I := I) (L := L0) (x := .inl (11, [])) (zI _ (Nat.le_of_eq rfl)) (fun _ => rfl)]
  show V room_1 mL_law 1 16 3 [.ref 0] [.ref 2] (zS2 N, I, L0) _
  replace zI : Zr 3 I := Zr_le zI (by decide)
  refine v_blk 1 (o := []) (pc' := 4) (ls' := [.ref 0]) (st' := [.ref 2, .ref 2]) (σ' := (zS2 N, I, L0)) rfl trivial ?_
  refine v_spec (R' := (rmC 10 127 5974)) (j := 0) (As := []) (rest := [.ref 2]) rfl rfl rfl rfl ⟨Nat.le_of_ble_eq_true rfl, Nat.le_of_ble_eq_true rfl, Nat.le_of_ble_eq_true rfl, Nat.le_of_ble_eq_true rfl⟩ (Nat.le_of_ble_eq_true rfl) (Nat.le_of_ble_eq_true rfl) ?_
  refine w1 zI (fun zN => ⟨Or.inr ⟨inR_of rfl, inR_of rfl⟩, ?_⟩)
  generalize hI1 : wI1 I = I1 at zN ⊢
  have zI1 := zN
  clear zN
  show V room_1 mL_law 128 5990 7 [.ref 0] [.ref 2] (zS256 N, I1, L0) _
  refine v_blk 1 (o := []) (pc' := 8) (ls' := [.ref 0, .ref 2]) (st' := []) (σ' := (zS256 N, I1, L0)) rfl trivial ?_
  refine v_new (ci := 12) rfl rfl (Nat.le_of_ble_eq_true rfl) rfl (inR_of rfl) (inR_of rfl) (Nat.le_of_ble_eq_true rfl) (Nat.le_of_ble_eq_true rfl) ?_
  rw [newM_eq (sh := zS256 N) (I := I1) (L := L0) (x := .inl (12, [])) (zI1 _ (Nat.le_of_eq rfl)) (fun _ => rfl)]
  show V room_1 mL_law 129 6027 11 [.ref 0, .ref 2] [.ref 130] (zS257 N, I1, L0) _
  replace zI1 : Zr 131 I1 := Zr_le zI1 (by decide)
  refine v_blk 1 (o := []) (pc' := 12) (ls' := [.ref 0, .ref 2]) (st' := [.ref 130, .ref 130]) (σ' := (zS257 N, I1, L0)) rfl trivial ?_
  refine v_spec (R' := (rmC 10 17 4581)) (j := 128) (As := []) (rest := [.ref 130]) rfl rfl rfl rfl ⟨Nat.le_of_ble_eq_true rfl, Nat.le_of_ble_eq_true rfl, Nat.le_of_ble_eq_true rfl, Nat.le_of_ble_eq_true rfl⟩ (Nat.le_of_ble_eq_true rfl) (Nat.le_of_ble_eq_true rfl) ?_
  refine w24 zI1 (fun zN => ⟨Or.inr ⟨inR_of rfl, inR_of rfl⟩, ?_⟩)
  generalize hI2 : wI24 I1 = I2 at zN ⊢
  have zI2 := zN
  clear zN
  show V room_1 mL_law 146 10608 15 [.ref 0, .ref 2] [.ref 130] (SH N, I2, L0) _
  refine v_blk 3 (o := []) (pc' := 18) (ls' := [.ref 0, .ref 2, .ref 130, .int (0 : Int32)]) (st' := []) (σ' := (SH N, I2, L0)) rfl trivial ?_
  subst_vars
  exact K
