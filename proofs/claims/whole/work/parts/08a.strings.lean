theorem sw_len : Cond.code yJ0_length_8abf5 cJ0_length_8abf5 1 (some .int) ∈ lw_g := tb2 234 rfl
theorem si_len : Cond.instanceMethod yJ0_length_8abf5 ∈ lw_g := tb2 232 rfl
theorem ss_len : Cond.selects yJ0_length_8abf5.cls yJ0_length_8abf5 yJ0_length_8abf5 ∈ lw_g := tb2 233 rfl
theorem sw_cod : Cond.code yJ0_coder_7d493 cJ0_coder_7d493 1 (some .byte) ∈ lw_g := tb2 238 rfl
theorem si_cod : Cond.instanceMethod yJ0_coder_7d493 ∈ lw_g := tb2 236 rfl
theorem ss_cod : Cond.selects yJ0_coder_7d493.cls yJ0_coder_7d493 yJ0_coder_7d493 ∈ lw_g := tb2 237 rfl
theorem sw_chr : Cond.code yJ0_charAt_5068e cJ0_charAt_5068e 2 (some .char) ∈ lw_g := tb3 4 rfl
theorem si_chr : Cond.instanceMethod yJ0_charAt_5068e ∈ lw_g := tb3 2 rfl
theorem ss_chr : Cond.selects yJ0_charAt_5068e.cls yJ0_charAt_5068e yJ0_charAt_5068e ∈ lw_g := tb3 3 rfl
theorem sw_lat : Cond.code yJ0_isLatin1_aae02 cJ0_isLatin1_aae02 1 (some .boolean) ∈ lw_g := tb3 8 rfl
theorem si_lat : Cond.instanceMethod yJ0_isLatin1_aae02 ∈ lw_g := tb3 6 rfl
theorem ss_lat : Cond.selects yJ0_isLatin1_aae02.cls yJ0_isLatin1_aae02 yJ0_isLatin1_aae02 ∈ lw_g := tb3 7 rfl
theorem sw_lch : Cond.code yJ1_charAt_3b067 cJ1_charAt_3b067 2 (some .char) ∈ lw_g := tb3 11 rfl
theorem st_lch : Cond.static yJ1_charAt_3b067 ∈ lw_g := tb3 10 rfl
theorem sw_chk : Cond.code yJ0_checkIndex_df160 cJ0_checkIndex_df160 2 none ∈ lw_g := tb3 14 rfl
theorem st_chk : Cond.static yJ0_checkIndex_df160 ∈ lw_g := tb3 13 rfl
theorem sw_pre : Cond.code yJ3_checkIndex_8e157 cJ3_checkIndex_8e157 3 (some .int) ∈ lw_g := tb3 19 rfl
theorem st_pre : Cond.static yJ3_checkIndex_8e157 ∈ lw_g := tb3 18 rfl
theorem sl_len_64 : Cond.methodLink "VerdictFirst$Tape" 64 yJ0_length_8abf5 ∈ lw_g := tb2 231 rfl
theorem sl_cod_335 : Cond.methodLink "java/lang/String" 335 yJ0_coder_7d493 ∈ lw_g := tb2 235 rfl
theorem sl_chr_69 : Cond.methodLink "VerdictFirst$Tape" 69 yJ0_charAt_5068e ∈ lw_g := tb3 1 rfl
theorem sl_lat_492 : Cond.methodLink "java/lang/String" 492 yJ0_isLatin1_aae02 ∈ lw_g := tb3 5 rfl
theorem sl_lch_495 : Cond.methodLink "java/lang/String" 495 yJ1_charAt_3b067 ∈ lw_g := tb3 9 rfl
theorem sl_chk_9 : Cond.methodLink "java/lang/StringLatin1" 9 yJ0_checkIndex_df160 ∈ lw_g := tb3 12 rfl
theorem sl_pre_1059 : Cond.methodLink "java/lang/String" 1059 yJ3_checkIndex_8e157 ∈ lw_g := tb3 17 rfl
theorem sf_38 : Cond.fieldLink "java/lang/String" 38 "java/lang/String" "COMPACT_STRINGS" "Z" ∈ lw_g := tb2 239 rfl
theorem sf_1053 : Cond.fieldLink "java/lang/String" 1053 "jdk/internal/util/Preconditions" "SIOOBE_FORMATTER" "Ljava/util/function/BiFunction;" ∈ lw_g := tb3 15 rfl
theorem sf_9 : Cond.fieldLink "java/lang/String" 9 "java/lang/String" "value" "[B" ∈ lw_g := tb7 95 rfl
theorem sf_15 : Cond.fieldLink "java/lang/String" 15 "java/lang/String" "coder" "B" ∈ lw_g := tb7 96 rfl
theorem sn_String : Cond.initialized "java/lang/String" ∈ lw_g := tb1 15 (by decide +kernel)
theorem sn_StringLatin1 : Cond.initialized "java/lang/StringLatin1" ∈ lw_g := tb1 16 (by decide +kernel)
theorem sn_Preconditions : Cond.initialized "jdk/internal/util/Preconditions" ∈ lw_g := tb1 17 (by decide +kernel)
theorem dJ0_length_8abf5_0 : decode cJ0_length_8abf5 0 = .ok (.aload_n 0, 1) := by decide +kernel
theorem dJ0_length_8abf5_1 : decode cJ0_length_8abf5 1 = .ok (.getfield 9, 3) := by decide +kernel
theorem dJ0_length_8abf5_4 : decode cJ0_length_8abf5 4 = .ok (.arraylength, 1) := by decide +kernel
theorem dJ0_length_8abf5_5 : decode cJ0_length_8abf5 5 = .ok (.aload_n 0, 1) := by decide +kernel
theorem dJ0_length_8abf5_6 : decode cJ0_length_8abf5 6 = .ok (.invokevirtual 335, 3) := by decide +kernel
theorem dJ0_length_8abf5_9 : decode cJ0_length_8abf5 9 = .ok (.ishr, 1) := by decide +kernel
theorem dJ0_length_8abf5_10 : decode cJ0_length_8abf5 10 = .ok (.ireturn, 1) := by decide +kernel
theorem dJ0_coder_7d493_0 : decode cJ0_coder_7d493 0 = .ok (.getstatic 38, 3) := by decide +kernel
theorem dJ0_coder_7d493_3 : decode cJ0_coder_7d493 3 = .ok (.ifCond .eq 10, 3) := by decide +kernel
theorem dJ0_coder_7d493_6 : decode cJ0_coder_7d493 6 = .ok (.aload_n 0, 1) := by decide +kernel
theorem dJ0_coder_7d493_7 : decode cJ0_coder_7d493 7 = .ok (.getfield 15, 3) := by decide +kernel
theorem dJ0_coder_7d493_10 : decode cJ0_coder_7d493 10 = .ok (.goto 4, 3) := by decide +kernel
theorem dJ0_coder_7d493_13 : decode cJ0_coder_7d493 13 = .ok (.iconst 1, 1) := by decide +kernel
theorem dJ0_coder_7d493_14 : decode cJ0_coder_7d493 14 = .ok (.ireturn, 1) := by decide +kernel
theorem dJ0_charAt_5068e_0 : decode cJ0_charAt_5068e 0 = .ok (.aload_n 0, 1) := by decide +kernel
theorem dJ0_charAt_5068e_1 : decode cJ0_charAt_5068e 1 = .ok (.invokevirtual 492, 3) := by decide +kernel
theorem dJ0_charAt_5068e_4 : decode cJ0_charAt_5068e 4 = .ok (.ifCond .eq 12, 3) := by decide +kernel
theorem dJ0_charAt_5068e_7 : decode cJ0_charAt_5068e 7 = .ok (.aload_n 0, 1) := by decide +kernel
theorem dJ0_charAt_5068e_8 : decode cJ0_charAt_5068e 8 = .ok (.getfield 9, 3) := by decide +kernel
theorem dJ0_charAt_5068e_11 : decode cJ0_charAt_5068e 11 = .ok (.iload_n 1, 1) := by decide +kernel
theorem dJ0_charAt_5068e_12 : decode cJ0_charAt_5068e 12 = .ok (.invokestatic 495, 3) := by decide +kernel
theorem dJ0_charAt_5068e_15 : decode cJ0_charAt_5068e 15 = .ok (.ireturn, 1) := by decide +kernel
theorem dJ0_charAt_5068e_16 : decode cJ0_charAt_5068e 16 = .ok (.aload_n 0, 1) := by decide +kernel
theorem dJ0_charAt_5068e_17 : decode cJ0_charAt_5068e 17 = .ok (.getfield 9, 3) := by decide +kernel
theorem dJ0_charAt_5068e_20 : decode cJ0_charAt_5068e 20 = .ok (.iload_n 1, 1) := by decide +kernel
theorem dJ0_charAt_5068e_21 : decode cJ0_charAt_5068e 21 = .ok (.invokestatic 498, 3) := by decide +kernel
theorem dJ0_charAt_5068e_24 : decode cJ0_charAt_5068e 24 = .ok (.ireturn, 1) := by decide +kernel
theorem dJ0_isLatin1_aae02_0 : decode cJ0_isLatin1_aae02 0 = .ok (.getstatic 38, 3) := by decide +kernel
theorem dJ0_isLatin1_aae02_3 : decode cJ0_isLatin1_aae02 3 = .ok (.ifCond .eq 14, 3) := by decide +kernel
theorem dJ0_isLatin1_aae02_6 : decode cJ0_isLatin1_aae02 6 = .ok (.aload_n 0, 1) := by decide +kernel
theorem dJ0_isLatin1_aae02_7 : decode cJ0_isLatin1_aae02 7 = .ok (.getfield 15, 3) := by decide +kernel
theorem dJ0_isLatin1_aae02_10 : decode cJ0_isLatin1_aae02 10 = .ok (.ifCond .ne 7, 3) := by decide +kernel
theorem dJ0_isLatin1_aae02_13 : decode cJ0_isLatin1_aae02 13 = .ok (.iconst 1, 1) := by decide +kernel
theorem dJ0_isLatin1_aae02_14 : decode cJ0_isLatin1_aae02 14 = .ok (.goto 4, 3) := by decide +kernel
theorem dJ0_isLatin1_aae02_17 : decode cJ0_isLatin1_aae02 17 = .ok (.iconst 0, 1) := by decide +kernel
theorem dJ0_isLatin1_aae02_18 : decode cJ0_isLatin1_aae02 18 = .ok (.ireturn, 1) := by decide +kernel
theorem dJ1_charAt_3b067_0 : decode cJ1_charAt_3b067 0 = .ok (.iload_n 1, 1) := by decide +kernel
theorem dJ1_charAt_3b067_1 : decode cJ1_charAt_3b067 1 = .ok (.aload_n 0, 1) := by decide +kernel
theorem dJ1_charAt_3b067_2 : decode cJ1_charAt_3b067 2 = .ok (.arraylength, 1) := by decide +kernel
theorem dJ1_charAt_3b067_3 : decode cJ1_charAt_3b067 3 = .ok (.invokestatic 9, 3) := by decide +kernel
theorem dJ1_charAt_3b067_6 : decode cJ1_charAt_3b067 6 = .ok (.aload_n 0, 1) := by decide +kernel
theorem dJ1_charAt_3b067_7 : decode cJ1_charAt_3b067 7 = .ok (.iload_n 1, 1) := by decide +kernel
theorem dJ1_charAt_3b067_8 : decode cJ1_charAt_3b067 8 = .ok (.baload, 1) := by decide +kernel
theorem dJ1_charAt_3b067_9 : decode cJ1_charAt_3b067 9 = .ok (.sipush 255, 3) := by decide +kernel
theorem dJ1_charAt_3b067_12 : decode cJ1_charAt_3b067 12 = .ok (.iand, 1) := by decide +kernel
theorem dJ1_charAt_3b067_13 : decode cJ1_charAt_3b067 13 = .ok (.i2c, 1) := by decide +kernel
theorem dJ1_charAt_3b067_14 : decode cJ1_charAt_3b067 14 = .ok (.ireturn, 1) := by decide +kernel
theorem dJ0_checkIndex_df160_0 : decode cJ0_checkIndex_df160 0 = .ok (.iload_n 0, 1) := by decide +kernel
theorem dJ0_checkIndex_df160_1 : decode cJ0_checkIndex_df160 1 = .ok (.iload_n 1, 1) := by decide +kernel
theorem dJ0_checkIndex_df160_2 : decode cJ0_checkIndex_df160 2 = .ok (.getstatic 1053, 3) := by decide +kernel
theorem dJ0_checkIndex_df160_5 : decode cJ0_checkIndex_df160 5 = .ok (.invokestatic 1059, 3) := by decide +kernel
theorem dJ0_checkIndex_df160_8 : decode cJ0_checkIndex_df160 8 = .ok (.pop, 1) := by decide +kernel
theorem dJ0_checkIndex_df160_9 : decode cJ0_checkIndex_df160 9 = .ok (.return_, 1) := by decide +kernel
theorem dJ3_checkIndex_8e157_0 : decode cJ3_checkIndex_8e157 0 = .ok (.iload_n 0, 1) := by decide +kernel
theorem dJ3_checkIndex_8e157_1 : decode cJ3_checkIndex_8e157 1 = .ok (.ifCond .lt 8, 3) := by decide +kernel
theorem dJ3_checkIndex_8e157_4 : decode cJ3_checkIndex_8e157 4 = .ok (.iload_n 0, 1) := by decide +kernel
theorem dJ3_checkIndex_8e157_5 : decode cJ3_checkIndex_8e157 5 = .ok (.iload_n 1, 1) := by decide +kernel
theorem dJ3_checkIndex_8e157_6 : decode cJ3_checkIndex_8e157 6 = .ok (.if_icmp .lt 10, 3) := by decide +kernel
theorem dJ3_checkIndex_8e157_9 : decode cJ3_checkIndex_8e157 9 = .ok (.aload_n 2, 1) := by decide +kernel
theorem dJ3_checkIndex_8e157_10 : decode cJ3_checkIndex_8e157 10 = .ok (.iload_n 0, 1) := by decide +kernel
theorem dJ3_checkIndex_8e157_11 : decode cJ3_checkIndex_8e157 11 = .ok (.iload_n 1, 1) := by decide +kernel
theorem dJ3_checkIndex_8e157_12 : decode cJ3_checkIndex_8e157 12 = .ok (.invokestatic 95, 3) := by decide +kernel
theorem dJ3_checkIndex_8e157_15 : decode cJ3_checkIndex_8e157 15 = .ok (.athrow, 1) := by decide +kernel
theorem dJ3_checkIndex_8e157_16 : decode cJ3_checkIndex_8e157 16 = .ok (.iload_n 0, 1) := by decide +kernel
theorem dJ3_checkIndex_8e157_17 : decode cJ3_checkIndex_8e157 17 = .ok (.ireturn, 1) := by decide +kernel
/-! String's members over the words' text -/
def SPc (D : va_G) (ca f : Nat → Nat) (n0 : Nat) (As : List Value) : Array Value → State → Prop := fun a U => a = As.toArray ∧ Bas D ca f n0 U
theorem SPc_pre {D : va_G} {ca f : Nat → Nat} {n0 : Nat} {s : State} {H : Heap} {locs : List Loc} {As : List Value} (hB : Bas D ca f n0 s) (hS : va_S (fun q => n0 ≤ q) s.heap H locs) : PreS s H (SPc D ca f n0 As) As :=
  ⟨fun a U g mk q => ⟨q.1, q.2.mv (Vm.Alike.refl U.vm) (fun h => vk_R.same rfl h) (fun w hw h => nw_same (s := U) (U := U.calling g mk a) rfl hw h) (Nat.le_refl _) (fun _ _ _ => rfl)⟩, fun U hU hW => ⟨rfl, hB.mv hW.alike (fun h => vk_R.warm hW h) (fun w hw h => nw_warm hW hw h) (by rw [hU]; exact hS.1) (fun a h1 h2 => by rw [hU]; exact hS.2.1 a h1 h2)⟩⟩
theorem good_w {y : MethodName} {bytes : ByteArray} {ml : Nat} {ret : Option FieldType} {big : List Cond} (hc : Cond.code y bytes ml ret ∈ lw_g) (hb : ∀ w ∈ lw_g, w ∈ big) : GoodIn big (Cond.code y bytes ml ret :: lw_g) := by
  intro w hw
  have h1 : w ∈ lw_g := by
    rcases List.mem_cons.mp hw with rfl | hw
    · exact hc
    · exact hw
  exact ⟨hb w h1, good_of_word (List.mem_filter.mp h1).2⟩
section Str
variable (l : Launch) (D : va_G) (ca f : Nat → Nat) (n0 : Nat)
set_option maxHeartbeats 2000000 in
theorem m_cod : Met l yJ0_coder_7d493 (Cond.code yJ0_coder_7d493 cJ0_coder_7d493 1 (some .byte) :: lw_g) (rmD 1) (SPc D ca f n0 [.ref (f 1)]) (QcRead 0) 0 0 (fun _ => False) := by
  refine Met.ofW (cc := cJ0_coder_7d493) (maxL := 1) (ret := some .byte) (by decide) rfl ?_
  intro p e s m args below meth c s₁ B hml hv
  obtain ⟨rfl, hB⟩ := hv
  have hx := B.exec
  have hb := B.bytes
  have hr := B.returns
  have hlk := B.notSynchronized
  have hts := atoms_spec (ws := Cond.code yJ0_coder_7d493 cJ0_coder_7d493 1 (some .byte) :: lw_g) B.pre
  have hts : ∀ w ∈ lw_g, w.before ([Value.ref (f 1)] : List Value).toArray s = true := fun w h => hts w (List.mem_cons_of_mem _ h)
  have hown : s.vm.findClass "java/lang/String" = some m.cls := findClass_of_methodNamed B.named
  obtain ⟨-, -, -, -, -, ⟨adV, hV⟩, hZ, -⟩ := hB
  have hS : va_S (fun q => n0 ≤ q) s.heap s.heap [] := va_S.rf
  have hl := lv_entry ([.ref (f 1)]) (n := 1) (Nat.le_of_ble_eq_true rfl)
  rw [lg_entry_eq]
  refine va_gets hx hb hZ hS hown (hts _ sf_38) (fun _ h => h) dJ0_coder_7d493_0 ?_
  refine lv_if_eq hx hb dJ0_coder_7d493_3 (tgt := 13) (by decide) (fun h => absurd h (by decide)) (fun _ => ?_)
  refine lv_aload_n hx hb dJ0_coder_7d493_6 rfl (lv_at hl 0 rfl) ?_
  refine vk_getf hx hb (hV.1 0 (by decide)).2.1 hS hown (hts _ sf_15) (fun _ h => h) dJ0_coder_7d493_7 ?_
  refine lv_goto hx hb dJ0_coder_7d493_10 (tgt := 14) (by decide) ?_
  exact W.zret hx hb hr (by decide) (fun t ht hW => ⟨rfl, ht⟩) (fun q h => absurd h List.not_mem_nil) dJ0_coder_7d493_14
set_option maxHeartbeats 2000000 in
theorem m_len : Met l yJ0_length_8abf5 (Cond.code yJ0_length_8abf5 cJ0_length_8abf5 1 (some .int) :: lw_g) (rmD 2) (SPc D ca f n0 [.ref (f 1)]) (QcRead 91) 0 0 (fun _ => False) := by
  refine Met.ofW (cc := cJ0_length_8abf5) (maxL := 1) (ret := some .int) (by decide) rfl ?_
  intro p e s m args below meth c s₁ B hml hv
  obtain ⟨rfl, hB⟩ := hv
  have hx := B.exec
  have hb := B.bytes
  have hr := B.returns
  have hlk := B.notSynchronized
  have hts := atoms_spec (ws := Cond.code yJ0_length_8abf5 cJ0_length_8abf5 1 (some .int) :: lw_g) B.pre
  have hts : ∀ w ∈ lw_g, w.before ([Value.ref (f 1)] : List Value).toArray s = true := fun w h => hts w (List.mem_cons_of_mem _ h)
  have hown : s.vm.findClass "java/lang/String" = some m.cls := findClass_of_methodNamed B.named
  have hB' := hB
  obtain ⟨-, -, -, -, -, ⟨adV, hV⟩, hZ, -, -, hF⟩ := hB'
  have hS : va_S (fun q => n0 ≤ q) s.heap s.heap [] := va_S.rf
  have hl := lv_entry ([Value.ref (f 1)]) (n := 1) (Nat.le_of_ble_eq_true rfl)
  rw [lg_entry_eq]
  refine lv_aload_n hx hb dJ0_length_8abf5_0 rfl (lv_at hl 0 rfl) ?_
  refine vk_getf hx hb (hV.1 0 (by decide)).2.2.1 hS hown (hts _ sf_9) (fun _ h => h) dJ0_length_8abf5_1 ?_
  refine va_tlen hx hb (hV.1 0 (by decide)).2.2.2 hS (v := 91) rfl dJ0_length_8abf5_4 ?_
  refine lv_aload_n hx hb dJ0_length_8abf5_5 rfl (lv_at hl 0 rfl) ?_
  have hp := SPc_pre (As := [.ref (f 1)]) hB hS
  refine W.callR (a := ([Value.ref (f 1)] : List Value).toArray) (W.runV (n := 0) (C := "java/lang/String") (As := []) (b := f 1) (rest := [.int 91]) ⟨hx, hb, hml, hown, hts⟩ (m_cod l D ca f n0) ⟨callB_of 0 hts (good_w sw_cod (fun _ h => h)) rfl rfl rfl (hts _ sn_String) (hts _ sl_cod_335) (by decide +kernel) ⟨by decide, by decide⟩, hts _ si_cod, hts _ ss_cod⟩ ⟨hp.1, vk_recv (i := 0) hV (by decide) hS, hp.2⟩ rfl rfl hl.1 rfl (Nat.le_of_ble_eq_true rfl) dJ0_length_8abf5_6 ⟨by decide, by decide⟩) ?_
  refine lv_ishr hx hb dJ0_length_8abf5_9 ?_
  exact W.iret (v := 91) hx hb hr (fun t ht hW => ⟨rfl, ht⟩) (fun q h => absurd h List.not_mem_nil) dJ0_length_8abf5_10
set_option maxHeartbeats 2000000 in
theorem m_lat : Met l yJ0_isLatin1_aae02 (Cond.code yJ0_isLatin1_aae02 cJ0_isLatin1_aae02 1 (some .boolean) :: lw_g) (rmD 1) (SPc D ca f n0 [.ref (f 1)]) (QcRead 1) 0 0 (fun _ => False) := by
  refine Met.ofW (cc := cJ0_isLatin1_aae02) (maxL := 1) (ret := some .boolean) (by decide) rfl ?_
  intro p e s m args below meth c s₁ B hml hv
  obtain ⟨rfl, hB⟩ := hv
  have hx := B.exec
  have hb := B.bytes
  have hr := B.returns
  have hlk := B.notSynchronized
  have hts := atoms_spec (ws := Cond.code yJ0_isLatin1_aae02 cJ0_isLatin1_aae02 1 (some .boolean) :: lw_g) B.pre
  have hts : ∀ w ∈ lw_g, w.before ([Value.ref (f 1)] : List Value).toArray s = true := fun w h => hts w (List.mem_cons_of_mem _ h)
  have hown : s.vm.findClass "java/lang/String" = some m.cls := findClass_of_methodNamed B.named
  have hB' := hB
  obtain ⟨-, -, -, -, -, ⟨adV, hV⟩, hZ, -, -, hF⟩ := hB'
  have hS : va_S (fun q => n0 ≤ q) s.heap s.heap [] := va_S.rf
  have hl := lv_entry ([Value.ref (f 1)]) (n := 1) (Nat.le_of_ble_eq_true rfl)
  rw [lg_entry_eq]
  refine va_gets hx hb hZ hS hown (hts _ sf_38) (fun _ h => h) dJ0_isLatin1_aae02_0 ?_
  refine lv_if_eq hx hb dJ0_isLatin1_aae02_3 (tgt := 17) (by decide) (fun h => absurd h (by decide)) (fun _ => ?_)
  refine lv_aload_n hx hb dJ0_isLatin1_aae02_6 rfl (lv_at hl 0 rfl) ?_
  refine vk_getf hx hb (hV.1 0 (by decide)).2.1 hS hown (hts _ sf_15) (fun _ h => h) dJ0_isLatin1_aae02_7 ?_
  refine lv_if_ne hx hb dJ0_isLatin1_aae02_10 (tgt := 17) (by decide) (fun h => absurd rfl h) (fun _ => ?_)
  refine lv_iconst (v := 1) hx hb dJ0_isLatin1_aae02_13 (by decide) ?_
  refine lv_goto hx hb dJ0_isLatin1_aae02_14 (tgt := 18) (by decide) ?_
  exact W.zret hx hb hr (by decide) (fun t ht hW => ⟨rfl, ht⟩) (fun q h => absurd h List.not_mem_nil) dJ0_isLatin1_aae02_18
def QcNone : Array Value → State → Outcome → State → Prop := fun _ st o t => o = .returned none ∧ t.heap = st.heap
theorem eq_pre {s : State} {H : Heap} {As : List Value} : PreS s H (fun a _ => a = As.toArray) As := ⟨fun _ _ _ _ q => q, fun _ _ _ => rfl⟩
set_option maxHeartbeats 2000000 in
theorem m_pre (i k : Int32) (v : Value) (hlv : (lg_sl [Value.int i, .int k, v]).length ≤ 3) (h0 : ¬ i < 0) (h1 : i < k) : Met l yJ3_checkIndex_8e157 (Cond.code yJ3_checkIndex_8e157 cJ3_checkIndex_8e157 3 (some .int) :: lw_g) (rmD 1) (fun a _ => a = ([.int i, .int k, v] : List Value).toArray) (QcRead i) 0 0 (fun _ => False) := by
  refine Met.ofW (cc := cJ3_checkIndex_8e157) (maxL := 3) (ret := some .int) (by decide) rfl ?_
  intro p e s m args below meth c s₁ B hml hv
  subst hv
  have hx := B.exec
  have hb := B.bytes
  have hr := B.returns
  have hlk := B.notSynchronized
  have hts := atoms_spec (ws := Cond.code yJ3_checkIndex_8e157 cJ3_checkIndex_8e157 3 (some .int) :: lw_g) B.pre
  have hts : ∀ w ∈ lw_g, w.before ([Value.int i, .int k, v] : List Value).toArray s = true := fun w h => hts w (List.mem_cons_of_mem _ h)
  have hown : s.vm.findClass "jdk/internal/util/Preconditions" = some m.cls := findClass_of_methodNamed B.named
  have hl := lv_entry ([Value.int i, .int k, v]) (n := 3) hlv
  rw [lg_entry_eq]
  have hl0 : lv_has _ 3 [(0, .int i), (1, .int k)] := lv_sub hl [0, 1] rfl
  refine lv_iload_n hx hb dJ3_checkIndex_8e157_0 rfl (lv_at hl0 0 rfl) ?_
  refine lv_if_lt hx hb dJ3_checkIndex_8e157_1 (tgt := 9) (by decide) (fun h => absurd h h0) (fun _ => ?_)
  refine lv_iload_n hx hb dJ3_checkIndex_8e157_4 rfl (lv_at hl0 0 rfl) ?_
  refine lv_iload_n hx hb dJ3_checkIndex_8e157_5 rfl (lv_at hl0 1 rfl) ?_
  refine lv_icmp_lt hx hb dJ3_checkIndex_8e157_6 (tgt := 16) (by decide) (fun _ => ?_) (fun h => absurd h1 h)
  refine lv_iload_n hx hb dJ3_checkIndex_8e157_16 rfl (lv_at hl0 0 rfl) ?_
  exact W.iret (v := i) hx hb hr (fun t ht hW => ⟨rfl, ht⟩) (fun q h => absurd h List.not_mem_nil) dJ3_checkIndex_8e157_17
set_option maxHeartbeats 2000000 in
theorem m_chk (i k : Int32) (h0 : ¬ i < 0) (h1 : i < k) : Met l yJ0_checkIndex_df160 (Cond.code yJ0_checkIndex_df160 cJ0_checkIndex_df160 2 none :: lw_g) (rmD 2) (SPc D ca f n0 [.int i, .int k]) QcNone 0 0 (fun _ => False) := by
  refine Met.ofW (cc := cJ0_checkIndex_df160) (maxL := 2) (ret := none) (by decide) rfl ?_
  intro p e s m args below meth c s₁ B hml hv
  obtain ⟨rfl, hB⟩ := hv
  have hx := B.exec
  have hb := B.bytes
  have hr := B.returns
  have hlk := B.notSynchronized
  have hts := atoms_spec (ws := Cond.code yJ0_checkIndex_df160 cJ0_checkIndex_df160 2 (none) :: lw_g) B.pre
  have hts : ∀ w ∈ lw_g, w.before ([Value.int i, .int k] : List Value).toArray s = true := fun w h => hts w (List.mem_cons_of_mem _ h)
  have hown : s.vm.findClass "java/lang/String" = some m.cls := findClass_of_methodNamed B.named
  have hS : va_S (fun q => n0 ≤ q) s.heap s.heap [] := va_S.rf
  have hl := lv_entry ([Value.int i, .int k]) (n := 2) (Nat.le_of_ble_eq_true rfl)
  rw [lg_entry_eq]
  obtain ⟨-, -, -, -, -, -, -, -, -, hF⟩ := hB
  refine lv_iload_n hx hb dJ0_checkIndex_df160_0 rfl (lv_at hl 0 rfl) ?_
  refine lv_iload_n hx hb dJ0_checkIndex_df160_1 rfl (lv_at hl 1 rfl) ?_
  have key : ∀ v : Value, (lg_sl [Value.int i, .int k, v]).length ≤ 3 → va_Z "jdk/internal/util/Preconditions" "SIOOBE_FORMATTER" "Ljava/util/function/BiFunction;" v (fun q => n0 ≤ q) s s.heap → W p l e (rmD 2) s m ([Value.int i, .int k] : List Value).toArray below meth c s.heap [] 0 0 (MQ below QcNone ([Value.int i, .int k] : List Value).toArray s 0 0 (fun _ => False)) (F0 m 2 (lg_sl [Value.int i, .int k] ++ List.replicate (2 - (lg_sl [Value.int i, .int k]).length) Slot.unset).toArray [.int k, .int i]) := by
    intro v hc hz
    refine va_gets hx hb hz hS hown (hts _ sf_1053) (fun _ h => h) dJ0_checkIndex_df160_2 ?_
    refine W.callR (a := ([Value.int i, .int k, v] : List Value).toArray) (W.runS (n := 3) (As := [.int i, .int k, v]) (rest := []) ⟨hx, hb, hml, hown, hts⟩ (m_pre l i k v hc h0 h1) ⟨callB_of 3 hts (good_w sw_pre (fun _ h => h)) rfl rfl rfl (hts _ sn_Preconditions) (hts _ sl_pre_1059) (by decide +kernel) ⟨by decide, by decide⟩, hts _ st_pre⟩ eq_pre rfl rfl hl.1 rfl (Nat.le_of_ble_eq_true rfl) dJ0_checkIndex_df160_5 ⟨by decide, by decide⟩) ?_
    refine W.eq (g2 := F0 m 8 _ [.int i]) rfl ?_
    refine lv_pop hx hb dJ0_checkIndex_df160_8 rfl ?_
    exact W.vret hx hb hr (fun t ht hW => ⟨rfl, ht⟩) (fun q h => absurd h List.not_mem_nil) dJ0_checkIndex_df160_9
  rcases hF with hF | ⟨t, hF⟩
  · exact key _ (Nat.le_of_ble_eq_true rfl) hF
  · exact key _ (Nat.le_of_ble_eq_true rfl) hF
theorem wB_all : ∀ j, j < 91 → (((wB.getD j 0) &&& 255).toUInt32 % 65536).toInt32 = wB.getD j 0 ∧ narrow .char (.int (wB.getD j 0)) = .int (wB.getD j 0) := by decide +kernel
set_option maxHeartbeats 2000000 in
theorem m_lch (j tv : Nat) (hj : j < 91) : Met l yJ1_charAt_3b067 (Cond.code yJ1_charAt_3b067 cJ1_charAt_3b067 2 (some .char) :: lw_g) (rmD 3) (fun a U => SPc D ca f n0 [.ref tv, .int (nI j)] a U ∧ va_T .byte tv 91 (fun q => .int (wB.getD q 0)) (fun q => n0 ≤ q) U U.heap) (QcRead (wB.getD j 0)) 0 0 (fun _ => False) := by
  refine Met.ofW (cc := cJ1_charAt_3b067) (maxL := 2) (ret := some .char) (by decide) rfl ?_
  intro p e s m args below meth c s₁ B hml hv
  obtain ⟨⟨rfl, hB⟩, hT⟩ := hv
  have hx := B.exec
  have hb := B.bytes
  have hr := B.returns
  have hlk := B.notSynchronized
  have hts := atoms_spec (ws := Cond.code yJ1_charAt_3b067 cJ1_charAt_3b067 2 (some .char) :: lw_g) B.pre
  have hts : ∀ w ∈ lw_g, w.before ([Value.ref tv, .int (nI j)] : List Value).toArray s = true := fun w h => hts w (List.mem_cons_of_mem _ h)
  have hown : s.vm.findClass "java/lang/StringLatin1" = some m.cls := findClass_of_methodNamed B.named
  have hS : va_S (fun q => n0 ≤ q) s.heap s.heap [] := va_S.rf
  have hl := lv_entry ([Value.ref tv, .int (nI j)]) (n := 2) (Nat.le_of_ble_eq_true rfl)
  rw [lg_entry_eq]
  refine lv_iload_n hx hb dJ1_charAt_3b067_0 rfl (lv_at hl 1 rfl) ?_
  refine lv_aload_n hx hb dJ1_charAt_3b067_1 rfl (lv_at hl 0 rfl) ?_
  refine va_tlen hx hb hT hS (v := nI 91) rfl dJ1_charAt_3b067_2 ?_
  have hp := SPc_pre (As := [.int (nI j), .int (nI 91)]) hB hS
  refine W.callX (W.runS (n := 2) (As := [.int (nI j), .int (nI 91)]) (rest := []) ⟨hx, hb, hml, hown, hts⟩ (m_chk l D ca f n0 (nI j) (nI 91) (nI_pos (by omega)) (nI_lt hj (by decide))) ⟨callB_of 2 hts (good_w sw_chk (fun _ h => h)) rfl rfl rfl (hts _ sn_String) (hts _ sl_chk_9) (by decide +kernel) ⟨by decide, by decide⟩, hts _ st_chk⟩ hp rfl rfl hl.1 rfl (Nat.le_of_ble_eq_true rfl) dJ1_charAt_3b067_3 ⟨by decide, by decide⟩) (fun _ h => h.elim) (fun v st₀ t h0 hq => ?_)
  obtain ⟨hq1, hq2⟩ := hq
  cases hq1
  rw [hq2, h0]
  refine lv_aload_n hx hb dJ1_charAt_3b067_6 rfl (lv_at hl 0 rfl) ?_
  refine lv_iload_n hx hb dJ1_charAt_3b067_7 rfl (lv_at hl 1 rfl) ?_
  refine va_tb hx hb hT hS (vp_in_nI hj (by decide)) (v := .int (wB.getD j 0)) (by rw [nI_clamp (by omega)]) dJ1_charAt_3b067_8 ?_
  refine lv_sipush (v := 255) hx hb dJ1_charAt_3b067_9 (by decide) ?_
  refine lv_iand hx hb dJ1_charAt_3b067_12 ?_
  refine lv_i2c (v := wB.getD j 0) hx hb dJ1_charAt_3b067_13 (wB_all j hj).1 ?_
  exact W.zret hx hb hr (wB_all j hj).2 (fun t ht hW => ⟨rfl, ht⟩) (fun q h => absurd h List.not_mem_nil) dJ1_charAt_3b067_14
set_option maxHeartbeats 2000000 in
theorem m_chr (j : Nat) (hj : j < 91) : Met l yJ0_charAt_5068e (Cond.code yJ0_charAt_5068e cJ0_charAt_5068e 2 (some .char) :: lw_g) (rmD 4) (SPc D ca f n0 [.ref (f 1), .int (nI j)]) (QcRead (wB.getD j 0)) 0 0 (fun _ => False) := by
  refine Met.ofW (cc := cJ0_charAt_5068e) (maxL := 2) (ret := some .char) (by decide) rfl ?_
  intro p e s m args below meth c s₁ B hml hv
  obtain ⟨rfl, hB⟩ := hv
  have hx := B.exec
  have hb := B.bytes
  have hr := B.returns
  have hlk := B.notSynchronized
  have hts := atoms_spec (ws := Cond.code yJ0_charAt_5068e cJ0_charAt_5068e 2 (some .char) :: lw_g) B.pre
  have hts : ∀ w ∈ lw_g, w.before ([Value.ref (f 1), .int (nI j)] : List Value).toArray s = true := fun w h => hts w (List.mem_cons_of_mem _ h)
  have hown : s.vm.findClass "java/lang/String" = some m.cls := findClass_of_methodNamed B.named
  have hS : va_S (fun q => n0 ≤ q) s.heap s.heap [] := va_S.rf
  have hl := lv_entry ([Value.ref (f 1), .int (nI j)]) (n := 2) (Nat.le_of_ble_eq_true rfl)
  rw [lg_entry_eq]
  have hB' := hB
  obtain ⟨-, -, -, -, -, ⟨adV, hV⟩, -⟩ := hB'
  refine lv_aload_n hx hb dJ0_charAt_5068e_0 rfl (lv_at hl 0 rfl) ?_
  have hp := SPc_pre (As := [.ref (f 1)]) hB hS
  refine W.callR (a := ([Value.ref (f 1)] : List Value).toArray) (W.runV (n := 0) (C := "java/lang/String") (As := []) (b := f 1) (rest := []) ⟨hx, hb, hml, hown, hts⟩ (m_lat l D ca f n0) ⟨callB_of 0 hts (good_w sw_lat (fun _ h => h)) rfl rfl rfl (hts _ sn_String) (hts _ sl_lat_492) (by decide +kernel) ⟨by decide, by decide⟩, hts _ si_lat, hts _ ss_lat⟩ ⟨hp.1, vk_recv (i := 0) hV (by decide) hS, hp.2⟩ rfl rfl hl.1 rfl (Nat.le_of_ble_eq_true rfl) dJ0_charAt_5068e_1 ⟨by decide, by decide⟩) ?_
  refine W.eq (g2 := F0 m 4 _ [.int 1]) rfl ?_
  refine lv_if_eq hx hb dJ0_charAt_5068e_4 (tgt := 16) (by decide) (fun h => absurd h (by decide)) (fun _ => ?_)
  refine lv_aload_n hx hb dJ0_charAt_5068e_7 rfl (lv_at hl 0 rfl) ?_
  refine vk_getf hx hb (hV.1 0 (by decide)).2.2.1 hS hown (hts _ sf_9) (fun _ h => h) dJ0_charAt_5068e_8 ?_
  refine lv_iload_n hx hb dJ0_charAt_5068e_11 rfl (lv_at hl 1 rfl) ?_
  have hp2 := SPc_pre (As := [.ref (adV 0), .int (nI j)]) hB hS
  have hT := (hV.1 0 (by decide)).2.2.2
  refine W.callR (a := ([Value.ref (adV 0), .int (nI j)] : List Value).toArray) (W.runS (n := 2) (As := [.ref (adV 0), .int (nI j)]) (rest := []) ⟨hx, hb, hml, hown, hts⟩ (m_lch l D ca f n0 j (adV 0) hj) ⟨callB_of 2 hts (good_w sw_lch (fun _ h => h)) rfl rfl rfl (hts _ sn_StringLatin1) (hts _ sl_lch_495) (by decide +kernel) ⟨by decide, by decide⟩, hts _ st_lch⟩ ⟨fun a U g mk q => ⟨hp2.1 a U g mk q.1, q.2.moved (Vm.Alike.refl U.vm)⟩, fun U hU hW => ⟨hp2.2 U hU hW, by rw [hU]; exact hT.moved hW.alike⟩⟩ rfl rfl hl.1 rfl (Nat.le_of_ble_eq_true rfl) dJ0_charAt_5068e_12 ⟨by decide, by decide⟩) ?_
  refine W.eq (g2 := F0 m 15 _ [.int (wB.getD j 0)]) rfl ?_
  exact W.zret hx hb hr (wB_all j hj).2 (fun t ht hW => ⟨rfl, ht⟩) (fun q h => absurd h List.not_mem_nil) dJ0_charAt_5068e_15
end Str

/-! the three rules for wordOf -/
section StrV
variable {R : Room} {M : Mth} {k n pc nx tg : Nat} {ls st rest : List Value} {σ : St} {Q : Option Value → St → Prop}
theorem v_ldcS (hM : M.1 = 10) (hl : lk2 (mtab M) pc = some (.ldc 62, nx, tg)) (hV : V R M k n nx ls (.ref 1 :: st) σ Q) : V R M k n pc ls st σ Q := by
  intro p l e s m args below meth c D ca f n0 Qf C HF H locs lsC hR hS hL
  have C' := C
  obtain ⟨hx, hb, hml, hrt, hown, hts, hlk, hin, hT, hB⟩ := C'
  obtain ⟨hd, hn', -⟩ := tab_ok hT hl
  obtain rfl := hn'.resolve_left (by simp [lnI])
  rw [hM] at hown
  exact va_ldcS hx hb hown hB.2.2.2.2.1 (dec_of hd rfl) (hV p l e s m args below meth c D ca f n0 Qf C HF H locs lsC hR hS hL)
theorem v_slen (hM : M.1 = 10) (hl : lk2 (mtab M) pc = some (.invokevirtual 64, nx, tg)) (hf : 3 ≤ R.frames) (hlo : 8 + (1 + 11) + 120 ≤ R.locals) (hk : k ≤ R.cells) (hn : n ≤ R.slots) (hc : catS rest ≤ 8) (hV : V R M k n nx ls (.int 91 :: rest) σ Q) : V R M k n pc ls (.ref 1 :: rest) σ Q := by
  intro p l e s m args below meth c D ca f n0 Qf C HF H locs lsC hR hS hL
  have C' := C
  obtain ⟨hx, hb, hml, hrt, hown, hts, hlk, hin, hT, hB⟩ := C'
  obtain ⟨hd, hn', -⟩ := tab_ok hT hl
  obtain rfl := hn'.resolve_left (by simp [lnI])
  rw [hM] at hown
  have hp := SPc_pre (As := [.ref (f 1)]) hB hS
  obtain ⟨adV, hSt⟩ := hB.2.2.2.2.2.1
  exact W.callR (a := ([Value.ref (f 1)] : List Value).toArray) (W.runV (n := 0) (C := "java/lang/String") (As := []) (b := f 1) (rest := rest.map (cvv f)) ⟨hx, hb, hml, hown, hts⟩ (m_len l D ca f n0) ⟨callB_of 0 hts (good_w sw_len (fun _ h => h)) rfl rfl rfl (hts _ sn_String) (hts _ sl_len_64) (by decide +kernel) ⟨hf, hlo⟩, hts _ si_len, hts _ ss_len⟩ ⟨hp.1, vk_recv (i := 0) hSt (by decide) hS, hp.2⟩ rfl rfl hL.1 rfl (by rw [catS_map]; show 2 * 0 + _ ≤ _; omega) (dec_of hd rfl) ⟨hk, hn⟩) (hV p l e s m args below meth c D ca f n0 Qf C HF H locs lsC hR hS hL)
theorem v_schr {j : Nat} (hj : j < 91) (hM : M.1 = 10) (hl : lk2 (mtab M) pc = some (.invokevirtual 69, nx, tg)) (hf : 5 ≤ R.frames) (hlo : 8 + (2 + 11) + 240 ≤ R.locals) (hk : k ≤ R.cells) (hn : n ≤ R.slots) (hc : catS rest ≤ 8) (hV : V R M k n nx ls (.int (wB.getD j 0) :: rest) σ Q) : V R M k n pc ls (.int (nI j) :: .ref 1 :: rest) σ Q := by
  intro p l e s m args below meth c D ca f n0 Qf C HF H locs lsC hR hS hL
  have C' := C
  obtain ⟨hx, hb, hml, hrt, hown, hts, hlk, hin, hT, hB⟩ := C'
  obtain ⟨hd, hn', -⟩ := tab_ok hT hl
  obtain rfl := hn'.resolve_left (by simp [lnI])
  rw [hM] at hown
  have hp := SPc_pre (As := [.ref (f 1), .int (nI j)]) hB hS
  obtain ⟨adV, hSt⟩ := hB.2.2.2.2.2.1
  exact W.callR (a := ([Value.ref (f 1), .int (nI j)] : List Value).toArray) (W.runV (n := 1) (C := "java/lang/String") (As := [.int (nI j)]) (b := f 1) (rest := rest.map (cvv f)) ⟨hx, hb, hml, hown, hts⟩ (m_chr l D ca f n0 j hj) ⟨callB_of 1 hts (good_w sw_chr (fun _ h => h)) rfl rfl rfl (hts _ sn_String) (hts _ sl_chr_69) (by decide +kernel) ⟨hf, hlo⟩, hts _ si_chr, hts _ ss_chr⟩ ⟨hp.1, vk_recv (i := 0) hSt (by decide) hS, hp.2⟩ rfl rfl hL.1 rfl (by rw [catS_map]; show 2 * 0 + _ ≤ _; omega) (dec_of hd rfl) ⟨hk, hn⟩) (hV p l e s m args below meth c D ca f n0 Qf C HF H locs lsC hR hS hL)
end StrV
