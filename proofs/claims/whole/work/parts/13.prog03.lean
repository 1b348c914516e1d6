/-! the program, by a program: functions of its methods and that the methods do them -/
set_option maxRecDepth 100000 in
theorem ml_mo_138 : sm_ML "HerOrdersModel" 138 ⟨"HerOrdersModel", "has", "(II)Z"⟩ := Or.inl (List.mem_of_getElem? (i := 1151) (by decide +kernel))
set_option maxRecDepth 100000 in
theorem ml_mo_150 : sm_ML "HerOrdersModel" 150 ⟨"HerOrdersModel", "lastWord", "(I)I"⟩ := Or.inl (List.mem_of_getElem? (i := 1154) (by decide +kernel))
set_option maxRecDepth 100000 in
theorem ml_mo_153 : sm_ML "HerOrdersModel" 153 ⟨"HerOrdersModel", "isAble", "(IIIII)Z"⟩ := Or.inl (List.mem_of_getElem? (i := 1158) (by decide +kernel))
set_option maxRecDepth 100000 in
theorem ml_mo_144 : sm_ML "HerOrdersModel" 144 ⟨"HerOrdersModel", "lastWho", "(I)I"⟩ := Or.inl (List.mem_of_getElem? (i := 1173) (by decide +kernel))
set_option maxRecDepth 100000 in
theorem ml_mo_147 : sm_ML "HerOrdersModel" 147 ⟨"HerOrdersModel", "areNear", "(II)Z"⟩ := Or.inl (List.mem_of_getElem? (i := 1177) (by decide +kernel))
set_option maxRecDepth 100000 in
theorem ml_mo_157 : sm_ML "HerOrdersModel" 157 ⟨"HerOrdersModel", "mayNext", "(III)Z"⟩ := Or.inl (List.mem_of_getElem? (i := 1169) (by decide +kernel))
set_option maxRecDepth 100000 in
theorem ml_mo_166 : sm_ML "HerOrdersModel" 166 ⟨"HerOrdersModel", "whatCan", "(II)I"⟩ := Or.inl (List.mem_of_getElem? (i := 1165) (by decide +kernel))
set_option maxRecDepth 100000 in
theorem ml_mo_169 : sm_ML "HerOrdersModel" 169 ⟨"HerOrdersModel", "isOf", "(II)Z"⟩ := Or.inl (List.mem_of_getElem? (i := 1143) (by decide +kernel))
set_option maxRecDepth 100000 in
theorem ml_mo_172 : sm_ML "HerOrdersModel" 172 ⟨"HerOrdersModel", "borrowed", "(I)I"⟩ := Or.inl (List.mem_of_getElem? (i := 1147) (by decide +kernel))
set_option maxRecDepth 100000 in
theorem ml_mo_175 : sm_ML "HerOrdersModel" 175 ⟨"HerOrdersModel", "othersWhoCan", "(I)I"⟩ := Or.inl (List.mem_of_getElem? (i := 1161) (by decide +kernel))
set_option maxRecDepth 100000 in
theorem ml_mo_178 : sm_ML "HerOrdersModel" 178 ⟨"HerOrdersModel", "bits", "(I)I"⟩ := Or.inl (List.mem_of_getElem? (i := 1181) (by decide +kernel))
set_option maxRecDepth 100000 in
theorem ml_mo_181 : sm_ML "HerOrdersModel" 181 ⟨"HerOrdersModel", "othersIn", "(I)I"⟩ := Or.inl (List.mem_of_getElem? (i := 1184) (by decide +kernel))
set_option maxRecDepth 100000 in
theorem fl_hs_68 : sm_FL "HerOrders$House" 68 0 3 := ⟨RX0, TX0, 4, rfl, by decide, rfl, sm_inX0, Or.inr ⟨"HerOrders", List.mem_of_getElem? (i := 183) (by decide +kernel)⟩⟩
set_option maxRecDepth 100000 in
theorem fl_de_21 : sm_FL "HerOrders$Deeds" 21 0 3 := ⟨RX0, TX0, 4, rfl, by decide, rfl, sm_inX0, Or.inl (List.mem_of_getElem? (i := 182) (by decide +kernel))⟩
set_option maxRecDepth 100000 in
theorem ml_de_25 : sm_ML "HerOrders$Deeds" 25 ⟨"HerOrders", "isWithin", "(II)Z"⟩ := Or.inr ⟨"HerOrders", List.mem_of_getElem? (i := 578) (by decide +kernel)⟩
set_option maxRecDepth 100000 in
theorem fl_de_9 : sm_FL "HerOrders$Deeds" 9 0 0 := ⟨RX0, TX0, 4, rfl, by decide, rfl, sm_inX0, Or.inl (List.mem_of_getElem? (i := 176) (by decide +kernel))⟩
set_option maxRecDepth 100000 in
theorem fl_de_15 : sm_FL "HerOrders$Deeds" 15 0 1 := ⟨RX0, TX0, 4, rfl, by decide, rfl, sm_inX0, Or.inl (List.mem_of_getElem? (i := 178) (by decide +kernel))⟩
set_option maxRecDepth 100000 in
theorem fl_de_18 : sm_FL "HerOrders$Deeds" 18 0 2 := ⟨RX0, TX0, 4, rfl, by decide, rfl, sm_inX0, Or.inl (List.mem_of_getElem? (i := 180) (by decide +kernel))⟩
set_option maxRecDepth 100000 in
theorem fp_de_21 : sm_FP "HerOrders$Deeds" 21 0 3 .int := ⟨RX0, TX0, 4, tyX0, rfl, by decide, rfl, sm_inX0, tyX0_ok, nmX0, rfl, by decide +kernel, Or.inl (List.mem_of_getElem? (i := 182) (by decide +kernel))⟩
set_option maxRecDepth 100000 in
theorem ml_hs_69 : sm_ML "HerOrders$House" 69 ⟨"HerOrders$Deeds", "add", "(III)V"⟩ := Or.inr ⟨"HerOrders", List.mem_of_getElem? (i := 574) (by decide +kernel)⟩
set_option maxRecDepth 100000 in
theorem ml_ho_152 : sm_ML "HerOrders" 152 ⟨"HerOrders$House", "can", "(II)Z"⟩ := Or.inr ⟨"HerOrders", List.mem_of_getElem? (i := 565) (by decide +kernel)⟩
set_option maxRecDepth 100000 in
theorem ml_ho_155 : sm_ML "HerOrders" 155 ⟨"HerOrders$House", "isFull", "()Z"⟩ := Or.inr ⟨"HerOrders", List.mem_of_getElem? (i := 566) (by decide +kernel)⟩
set_option maxRecDepth 100000 in
theorem ml_ho_158 : sm_ML "HerOrders" 158 ⟨"HerOrders$House", "enact", "(III)V"⟩ := Or.inr ⟨"HerOrders", List.mem_of_getElem? (i := 570) (by decide +kernel)⟩
set_option maxRecDepth 100000 in
theorem fl_ho_162 : sm_FL "HerOrders" 162 1 11 := ⟨RX1, TX1, 13, rfl, by decide, rfl, sm_inX1, Or.inr ⟨"HerOrders", List.mem_of_getElem? (i := 227) (by decide +kernel)⟩⟩
set_option maxRecDepth 100000 in
theorem ml_mo_184 : sm_ML "HerOrdersModel" 184 ⟨"HerOrdersModel", "isWord", "(I)Z"⟩ := Or.inl (List.mem_of_getElem? (i := 1192) (by decide +kernel))
set_option maxRecDepth 100000 in
theorem ml_mo_187 : sm_ML "HerOrdersModel" 187 ⟨"HerOrdersModel", "keepPast", "()V"⟩ := Or.inl (List.mem_of_getElem? (i := 1195) (by decide +kernel))
set_option maxRecDepth 100000 in
theorem ml_mo_190 : sm_ML "HerOrdersModel" 190 ⟨"HerOrdersModel", "says", "(III)V"⟩ := Or.inl (List.mem_of_getElem? (i := 1199) (by decide +kernel))
set_option maxRecDepth 100000 in
theorem ml_mo_194 : sm_ML "HerOrdersModel" 194 ⟨"HerOrdersModel", "doEnd", "()I"⟩ := Or.inl (List.mem_of_getElem? (i := 1207) (by decide +kernel))
abbrev mi_mo_isOf : sm_MI := (⟨"HerOrdersModel", "isOf", "(II)Z"⟩, prog_9_method_40_code, 4, (some .boolean), 1)
set_option maxRecDepth 100000 in
theorem mf_mo_isOf : sm_MF mi_mo_isOf 2 := ⟨List.mem_of_getElem? (i := 1146) (by decide +kernel), List.mem_of_getElem? (i := 132) (by decide +kernel), ⟨by decide, by decide⟩, by decide +kernel⟩
set_option maxRecDepth 100000 in
theorem mv_mo_isOf : sm_MFV mi_mo_isOf := ⟨List.mem_of_getElem? (i := 1145) (by decide +kernel), List.mem_of_getElem? (i := 85) (by decide +kernel)⟩
set_option maxRecDepth 100000 in
theorem ii_mo_isOf_0 : sm_D prog_9_method_40_code 0 1 1 (.aload_n 0) := ⟨by decide +kernel, rfl⟩
set_option maxRecDepth 100000 in
theorem ii_mo_isOf_1 : sm_D prog_9_method_40_code 1 3 4 (.getfield 13) := ⟨by decide +kernel, rfl⟩
set_option maxRecDepth 100000 in
theorem ii_mo_isOf_4 : sm_D prog_9_method_40_code 4 1 5 (.iload_n 1) := ⟨by decide +kernel, rfl⟩
set_option maxRecDepth 100000 in
theorem ii_mo_isOf_5 : sm_D prog_9_method_40_code 5 1 6 (.iaload) := ⟨by decide +kernel, rfl⟩
set_option maxRecDepth 100000 in
theorem ii_mo_isOf_6 : sm_D prog_9_method_40_code 6 1 7 (.istore_n 3) := ⟨by decide +kernel, rfl⟩
set_option maxRecDepth 100000 in
theorem ii_mo_isOf_7 : sm_D prog_9_method_40_code 7 1 8 (.iload_n 3) := ⟨by decide +kernel, rfl⟩
set_option maxRecDepth 100000 in
theorem ii_mo_isOf_8 : sm_D prog_9_method_40_code 8 1 9 (.iload_n 2) := ⟨by decide +kernel, rfl⟩
set_option maxRecDepth 100000 in
theorem ii_mo_isOf_9 : sm_D prog_9_method_40_code 9 3 12 (.if_icmp .eq 23) := ⟨by decide +kernel, rfl⟩
set_option maxRecDepth 100000 in
theorem ii_mo_isOf_12 : sm_D prog_9_method_40_code 12 1 13 (.iload_n 2) := ⟨by decide +kernel, rfl⟩
set_option maxRecDepth 100000 in
theorem ii_mo_isOf_13 : sm_D prog_9_method_40_code 13 1 14 (.iconst 1) := ⟨by decide +kernel, rfl⟩
set_option maxRecDepth 100000 in
theorem ii_mo_isOf_14 : sm_D prog_9_method_40_code 14 3 17 (.if_icmp .ne 8) := ⟨by decide +kernel, rfl⟩
set_option maxRecDepth 100000 in
theorem ii_mo_isOf_17 : sm_D prog_9_method_40_code 17 1 18 (.iload_n 3) := ⟨by decide +kernel, rfl⟩
set_option maxRecDepth 100000 in
theorem ii_mo_isOf_18 : sm_D prog_9_method_40_code 18 1 19 (.iconst 5) := ⟨by decide +kernel, rfl⟩
set_option maxRecDepth 100000 in
theorem ii_mo_isOf_19 : sm_D prog_9_method_40_code 19 3 22 (.if_icmp .eq 13) := ⟨by decide +kernel, rfl⟩
set_option maxRecDepth 100000 in
theorem ii_mo_isOf_22 : sm_D prog_9_method_40_code 22 1 23 (.iload_n 2) := ⟨by decide +kernel, rfl⟩
set_option maxRecDepth 100000 in
theorem ii_mo_isOf_23 : sm_D prog_9_method_40_code 23 1 24 (.iconst 3) := ⟨by decide +kernel, rfl⟩
set_option maxRecDepth 100000 in
theorem ii_mo_isOf_24 : sm_D prog_9_method_40_code 24 3 27 (.if_icmp .ne 12) := ⟨by decide +kernel, rfl⟩
set_option maxRecDepth 100000 in
theorem ii_mo_isOf_27 : sm_D prog_9_method_40_code 27 1 28 (.iload_n 3) := ⟨by decide +kernel, rfl⟩
set_option maxRecDepth 100000 in
theorem ii_mo_isOf_28 : sm_D prog_9_method_40_code 28 1 29 (.iconst 4) := ⟨by decide +kernel, rfl⟩
set_option maxRecDepth 100000 in
theorem ii_mo_isOf_29 : sm_D prog_9_method_40_code 29 3 32 (.if_icmp .ne 7) := ⟨by decide +kernel, rfl⟩
set_option maxRecDepth 100000 in
theorem ii_mo_isOf_32 : sm_D prog_9_method_40_code 32 1 33 (.iconst 1) := ⟨by decide +kernel, rfl⟩
set_option maxRecDepth 100000 in
theorem ii_mo_isOf_33 : sm_D prog_9_method_40_code 33 3 36 (.goto 4) := ⟨by decide +kernel, rfl⟩
set_option maxRecDepth 100000 in
theorem ii_mo_isOf_36 : sm_D prog_9_method_40_code 36 1 37 (.iconst 0) := ⟨by decide +kernel, rfl⟩
set_option maxRecDepth 100000 in
theorem ii_mo_isOf_37 : sm_D prog_9_method_40_code 37 1 38 (.ireturn) := ⟨by decide +kernel, rfl⟩
noncomputable def ff_mo_isOf_22  (a2 : Int32) (a3 : Int32) (w : sm_Mem) : sm_R := (if a2 = (3 : Int32) then (if a3 = (4 : Int32) then (some (.int (1 : Int32), w)) else (some (.int (0 : Int32), w))) else (some (.int (0 : Int32), w)))
set_option maxHeartbeats 4000000 in
set_option maxRecDepth 100000 in
theorem ss_mo_isOf_22 {E : Nat × (Nat → Int32)}  (a2 : Int32) (a3 : Int32) (w : sm_Mem) : sm_Sim E (mi_mo_isOf) 22 [none, none, some (.int a2), some (.int a3)] [] w (ff_mo_isOf_22  a2 a3 w) := by
  unfold ff_mo_isOf_22
  refine sm_iload_n ii_mo_isOf_22 rfl ?_
  refine sm_iconst (3 : Int32) ii_mo_isOf_23 (by decide) ?_
  refine sm_icmp_ne 36 ii_mo_isOf_24 (by decide) ?_ ?_
  · refine sm_iload_n ii_mo_isOf_27 rfl ?_
    refine sm_iconst (4 : Int32) ii_mo_isOf_28 (by decide) ?_
    refine sm_icmp_ne 36 ii_mo_isOf_29 (by decide) ?_ ?_
    · refine sm_iconst (1 : Int32) ii_mo_isOf_32 (by decide) ?_
      refine sm_goto 37 ii_mo_isOf_33 (by decide) ?_
      exact sm_zret1 ii_mo_isOf_37 rfl (by decide)
    · refine sm_iconst (0 : Int32) ii_mo_isOf_36 (by decide) ?_
      exact sm_zret1 ii_mo_isOf_37 rfl (by decide)
  · refine sm_iconst (0 : Int32) ii_mo_isOf_36 (by decide) ?_
    exact sm_zret1 ii_mo_isOf_37 rfl (by decide)
noncomputable def ff_mo_isOf  (a1 : Int32) (a2 : Int32) (w : sm_Mem) : sm_R := (Option.bind (sm_rd w 64 7 a1) fun x1 => (if x1 = a2 then (some (.int (1 : Int32), w)) else (if a2 = (1 : Int32) then (if x1 = (5 : Int32) then (some (.int (1 : Int32), w)) else ff_mo_isOf_22 (a2) (x1) w) else ff_mo_isOf_22 (a2) (x1) w)))
set_option maxHeartbeats 4000000 in
set_option maxRecDepth 100000 in
theorem ss_mo_isOf_0 {E : Nat × (Nat → Int32)}  (a1 : Int32) (a2 : Int32) (w : sm_Mem) : sm_Sim E (mi_mo_isOf) 0 [some (.ref 62), some (.int a1), some (.int a2), none] [] w (ff_mo_isOf  a1 a2 w) := by
  unfold ff_mo_isOf
  refine sm_aload_n ii_mo_isOf_0 rfl ?_
  refine sm_getR 64 ii_mo_isOf_1 fl_mo_13 (k := 62) rfl ?_
  refine sm_iload_n ii_mo_isOf_4 rfl ?_
  refine sm_iald ii_mo_isOf_5 (k := 64) rfl (fun x1 => ?_)
  refine sm_istore_n [some (.ref 62), some (.int a1), some (.int a2), some (.int x1)] ii_mo_isOf_6 rfl rfl ?_
  refine sm_iload_n ii_mo_isOf_7 rfl ?_
  refine sm_iload_n ii_mo_isOf_8 rfl ?_
  refine sm_icmp_eq 32 ii_mo_isOf_9 (by decide) ?_ ?_
  · refine sm_iconst (1 : Int32) ii_mo_isOf_32 (by decide) ?_
    refine sm_goto 37 ii_mo_isOf_33 (by decide) ?_
    exact sm_zret1 ii_mo_isOf_37 rfl (by decide)
  · refine sm_iload_n ii_mo_isOf_12 rfl ?_
    refine sm_iconst (1 : Int32) ii_mo_isOf_13 (by decide) ?_
    refine sm_icmp_ne 22 ii_mo_isOf_14 (by decide) ?_ ?_
    · refine sm_iload_n ii_mo_isOf_17 rfl ?_
      refine sm_iconst (5 : Int32) ii_mo_isOf_18 (by decide) ?_
      refine sm_icmp_eq 32 ii_mo_isOf_19 (by decide) ?_ ?_
      · refine sm_iconst (1 : Int32) ii_mo_isOf_32 (by decide) ?_
        refine sm_goto 37 ii_mo_isOf_33 (by decide) ?_
        exact sm_zret1 ii_mo_isOf_37 rfl (by decide)
      · refine sm_msk [false, false, true, true] [none, none, some (.int a2), some (.int x1)] rfl ?_
        exact ss_mo_isOf_22 (a2) (x1) w
    · refine sm_msk [false, false, true, true] [none, none, some (.int a2), some (.int x1)] rfl ?_
      exact ss_mo_isOf_22 (a2) (x1) w
set_option maxHeartbeats 4000000 in
set_option maxRecDepth 100000 in
theorem mc_mo_isOf (a1 : Int32) (a2 : Int32) (w : sm_Mem) : sm_MC mi_mo_isOf [.ref 62, .int a1, .int a2] w (ff_mo_isOf a1 a2 w) := sm_MC_of (0, fun _ => 0) (by decide +kernel) (by decide) rfl (Nat.le_of_ble_eq_true rfl) (ss_mo_isOf_0 a1 a2 w)
abbrev mi_mo_has : sm_MI := (⟨"HerOrdersModel", "has", "(II)Z"⟩, prog_9_method_4_code, 2, (some .boolean), 1)
set_option maxRecDepth 100000 in
theorem mf_mo_has : sm_MF mi_mo_has 2 := ⟨List.mem_of_getElem? (i := 1153) (by decide +kernel), List.mem_of_getElem? (i := 132) (by decide +kernel), ⟨by decide, by decide⟩, by decide +kernel⟩
set_option maxRecDepth 100000 in
theorem mv_mo_has : sm_MFS mi_mo_has := List.mem_of_getElem? (i := 1152) (by decide +kernel)
set_option maxRecDepth 100000 in
theorem ii_mo_has_0 : sm_D prog_9_method_4_code 0 1 1 (.iload_n 0) := ⟨by decide +kernel, rfl⟩
set_option maxRecDepth 100000 in
theorem ii_mo_has_1 : sm_D prog_9_method_4_code 1 1 2 (.iload_n 1) := ⟨by decide +kernel, rfl⟩
set_option maxRecDepth 100000 in
theorem ii_mo_has_2 : sm_D prog_9_method_4_code 2 1 3 (.ishr) := ⟨by decide +kernel, rfl⟩
set_option maxRecDepth 100000 in
theorem ii_mo_has_3 : sm_D prog_9_method_4_code 3 1 4 (.iconst 1) := ⟨by decide +kernel, rfl⟩
set_option maxRecDepth 100000 in
theorem ii_mo_has_4 : sm_D prog_9_method_4_code 4 1 5 (.iand) := ⟨by decide +kernel, rfl⟩
set_option maxRecDepth 100000 in
theorem ii_mo_has_5 : sm_D prog_9_method_4_code 5 1 6 (.iconst 1) := ⟨by decide +kernel, rfl⟩
set_option maxRecDepth 100000 in
theorem ii_mo_has_6 : sm_D prog_9_method_4_code 6 3 9 (.if_icmp .ne 7) := ⟨by decide +kernel, rfl⟩
set_option maxRecDepth 100000 in
theorem ii_mo_has_9 : sm_D prog_9_method_4_code 9 1 10 (.iconst 1) := ⟨by decide +kernel, rfl⟩
set_option maxRecDepth 100000 in
theorem ii_mo_has_10 : sm_D prog_9_method_4_code 10 3 13 (.goto 4) := ⟨by decide +kernel, rfl⟩
set_option maxRecDepth 100000 in
theorem ii_mo_has_13 : sm_D prog_9_method_4_code 13 1 14 (.iconst 0) := ⟨by decide +kernel, rfl⟩
set_option maxRecDepth 100000 in
theorem ii_mo_has_14 : sm_D prog_9_method_4_code 14 1 15 (.ireturn) := ⟨by decide +kernel, rfl⟩
noncomputable def ff_mo_has  (a0 : Int32) (a1 : Int32) (w : sm_Mem) : sm_R := (if ((a0 >>> (a1 &&& (31 : Int32))) &&& (1 : Int32)) = (1 : Int32) then (some (.int (1 : Int32), w)) else (some (.int (0 : Int32), w)))
set_option maxHeartbeats 4000000 in
set_option maxRecDepth 100000 in
theorem ss_mo_has_0 {E : Nat × (Nat → Int32)}  (a0 : Int32) (a1 : Int32) (w : sm_Mem) : sm_Sim E (mi_mo_has) 0 [some (.int a0), some (.int a1)] [] w (ff_mo_has  a0 a1 w) := by
  unfold ff_mo_has
  refine sm_iload_n ii_mo_has_0 rfl ?_
  refine sm_iload_n ii_mo_has_1 rfl ?_
  refine sm_ishr ii_mo_has_2 ?_
  refine sm_iconst (1 : Int32) ii_mo_has_3 (by decide) ?_
  refine sm_iand ii_mo_has_4 ?_
  refine sm_iconst (1 : Int32) ii_mo_has_5 (by decide) ?_
  refine sm_icmp_ne 13 ii_mo_has_6 (by decide) ?_ ?_
  · refine sm_iconst (1 : Int32) ii_mo_has_9 (by decide) ?_
    refine sm_goto 14 ii_mo_has_10 (by decide) ?_
    exact sm_zret1 ii_mo_has_14 rfl (by decide)
  · refine sm_iconst (0 : Int32) ii_mo_has_13 (by decide) ?_
    exact sm_zret1 ii_mo_has_14 rfl (by decide)
set_option maxHeartbeats 4000000 in
set_option maxRecDepth 100000 in
theorem mc_mo_has (a0 : Int32) (a1 : Int32) (w : sm_Mem) : sm_MC mi_mo_has [.int a0, .int a1] w (ff_mo_has a0 a1 w) := sm_MC_of (0, fun _ => 0) (by decide +kernel) (by decide) rfl (Nat.le_of_ble_eq_true rfl) (ss_mo_has_0 a0 a1 w)
abbrev mi_mo_lastWord : sm_MI := (⟨"HerOrdersModel", "lastWord", "(I)I"⟩, prog_9_method_32_code, 2, (some .int), 1)
set_option maxRecDepth 100000 in
theorem mf_mo_lastWord : sm_MF mi_mo_lastWord 1 := ⟨List.mem_of_getElem? (i := 1157) (by decide +kernel), List.mem_of_getElem? (i := 132) (by decide +kernel), ⟨by decide, by decide⟩, by decide +kernel⟩
set_option maxRecDepth 100000 in
theorem mv_mo_lastWord : sm_MFV mi_mo_lastWord := ⟨List.mem_of_getElem? (i := 1156) (by decide +kernel), List.mem_of_getElem? (i := 87) (by decide +kernel)⟩
set_option maxRecDepth 100000 in
theorem ii_mo_lastWord_0 : sm_D prog_9_method_32_code 0 1 1 (.aload_n 0) := ⟨by decide +kernel, rfl⟩
set_option maxRecDepth 100000 in
theorem ii_mo_lastWord_1 : sm_D prog_9_method_32_code 1 3 4 (.getfield 7) := ⟨by decide +kernel, rfl⟩
set_option maxRecDepth 100000 in
theorem ii_mo_lastWord_4 : sm_D prog_9_method_32_code 4 1 5 (.iload_n 1) := ⟨by decide +kernel, rfl⟩
set_option maxRecDepth 100000 in
theorem ii_mo_lastWord_5 : sm_D prog_9_method_32_code 5 1 6 (.iconst 2) := ⟨by decide +kernel, rfl⟩
set_option maxRecDepth 100000 in
theorem ii_mo_lastWord_6 : sm_D prog_9_method_32_code 6 1 7 (.iadd) := ⟨by decide +kernel, rfl⟩
set_option maxRecDepth 100000 in
theorem ii_mo_lastWord_7 : sm_D prog_9_method_32_code 7 1 8 (.iaload) := ⟨by decide +kernel, rfl⟩
set_option maxRecDepth 100000 in
theorem ii_mo_lastWord_8 : sm_D prog_9_method_32_code 8 3 11 (.ifCond .ne 8) := ⟨by decide +kernel, rfl⟩
set_option maxRecDepth 100000 in
theorem ii_mo_lastWord_11 : sm_D prog_9_method_32_code 11 2 13 (.bipush (-9)) := ⟨by decide +kernel, rfl⟩
set_option maxRecDepth 100000 in
theorem ii_mo_lastWord_13 : sm_D prog_9_method_32_code 13 3 16 (.goto 22) := ⟨by decide +kernel, rfl⟩
set_option maxRecDepth 100000 in
theorem ii_mo_lastWord_16 : sm_D prog_9_method_32_code 16 1 17 (.aload_n 0) := ⟨by decide +kernel, rfl⟩
set_option maxRecDepth 100000 in
theorem ii_mo_lastWord_17 : sm_D prog_9_method_32_code 17 3 20 (.getfield 7) := ⟨by decide +kernel, rfl⟩
set_option maxRecDepth 100000 in
theorem ii_mo_lastWord_20 : sm_D prog_9_method_32_code 20 1 21 (.iload_n 1) := ⟨by decide +kernel, rfl⟩
set_option maxRecDepth 100000 in
theorem ii_mo_lastWord_21 : sm_D prog_9_method_32_code 21 1 22 (.iconst 4) := ⟨by decide +kernel, rfl⟩
set_option maxRecDepth 100000 in
theorem ii_mo_lastWord_22 : sm_D prog_9_method_32_code 22 1 23 (.iadd) := ⟨by decide +kernel, rfl⟩
set_option maxRecDepth 100000 in
theorem ii_mo_lastWord_23 : sm_D prog_9_method_32_code 23 1 24 (.aload_n 0) := ⟨by decide +kernel, rfl⟩
set_option maxRecDepth 100000 in
theorem ii_mo_lastWord_24 : sm_D prog_9_method_32_code 24 3 27 (.getfield 7) := ⟨by decide +kernel, rfl⟩
set_option maxRecDepth 100000 in
theorem ii_mo_lastWord_27 : sm_D prog_9_method_32_code 27 1 28 (.iload_n 1) := ⟨by decide +kernel, rfl⟩
set_option maxRecDepth 100000 in
theorem ii_mo_lastWord_28 : sm_D prog_9_method_32_code 28 1 29 (.iconst 2) := ⟨by decide +kernel, rfl⟩
set_option maxRecDepth 100000 in
theorem ii_mo_lastWord_29 : sm_D prog_9_method_32_code 29 1 30 (.iadd) := ⟨by decide +kernel, rfl⟩
set_option maxRecDepth 100000 in
theorem ii_mo_lastWord_30 : sm_D prog_9_method_32_code 30 1 31 (.iaload) := ⟨by decide +kernel, rfl⟩
set_option maxRecDepth 100000 in
theorem ii_mo_lastWord_31 : sm_D prog_9_method_32_code 31 1 32 (.iadd) := ⟨by decide +kernel, rfl⟩
set_option maxRecDepth 100000 in
theorem ii_mo_lastWord_32 : sm_D prog_9_method_32_code 32 1 33 (.iconst 1) := ⟨by decide +kernel, rfl⟩
set_option maxRecDepth 100000 in
theorem ii_mo_lastWord_33 : sm_D prog_9_method_32_code 33 1 34 (.isub) := ⟨by decide +kernel, rfl⟩
set_option maxRecDepth 100000 in
theorem ii_mo_lastWord_34 : sm_D prog_9_method_32_code 34 1 35 (.iaload) := ⟨by decide +kernel, rfl⟩
set_option maxRecDepth 100000 in
theorem ii_mo_lastWord_35 : sm_D prog_9_method_32_code 35 1 36 (.ireturn) := ⟨by decide +kernel, rfl⟩
noncomputable def ff_mo_lastWord  (a1 : Int32) (w : sm_Mem) : sm_R := (Option.bind (sm_rd w 63 5184 (a1 + (2 : Int32))) fun x1 => (if x1 = (0 : Int32) then (some (.int (-9 : Int32), w)) else (Option.bind (sm_rd w 63 5184 (a1 + (2 : Int32))) fun x2 => (Option.bind (sm_rd w 63 5184 (((a1 + (4 : Int32)) + x2) - (1 : Int32))) fun x3 => (some (.int x3, w))))))
set_option maxHeartbeats 4000000 in
set_option maxRecDepth 100000 in
theorem ss_mo_lastWord_0 {E : Nat × (Nat → Int32)}  (a1 : Int32) (w : sm_Mem) : sm_Sim E (mi_mo_lastWord) 0 [some (.ref 62), some (.int a1)] [] w (ff_mo_lastWord  a1 w) := by
  unfold ff_mo_lastWord
  refine sm_aload_n ii_mo_lastWord_0 rfl ?_
  refine sm_getR 63 ii_mo_lastWord_1 fl_mo_7 (k := 62) rfl ?_
  refine sm_iload_n ii_mo_lastWord_4 rfl ?_
  refine sm_iconst (2 : Int32) ii_mo_lastWord_5 (by decide) ?_
  refine sm_iadd ii_mo_lastWord_6 ?_
  refine sm_iald ii_mo_lastWord_7 (k := 63) rfl (fun x1 => ?_)
  refine sm_if_ne 16 ii_mo_lastWord_8 (by decide) ?_ ?_
  · refine sm_bipush (-9 : Int32) ii_mo_lastWord_11 (by decide) ?_
    refine sm_goto 35 ii_mo_lastWord_13 (by decide) ?_
    exact sm_iret ii_mo_lastWord_35 rfl
  · refine sm_aload_n ii_mo_lastWord_16 rfl ?_
    refine sm_getR 63 ii_mo_lastWord_17 fl_mo_7 (k := 62) rfl ?_
    refine sm_iload_n ii_mo_lastWord_20 rfl ?_
    refine sm_iconst (4 : Int32) ii_mo_lastWord_21 (by decide) ?_
    refine sm_iadd ii_mo_lastWord_22 ?_
    refine sm_aload_n ii_mo_lastWord_23 rfl ?_
    refine sm_getR 63 ii_mo_lastWord_24 fl_mo_7 (k := 62) rfl ?_
    refine sm_iload_n ii_mo_lastWord_27 rfl ?_
    refine sm_iconst (2 : Int32) ii_mo_lastWord_28 (by decide) ?_
    refine sm_iadd ii_mo_lastWord_29 ?_
    refine sm_iald ii_mo_lastWord_30 (k := 63) rfl (fun x2 => ?_)
    refine sm_iadd ii_mo_lastWord_31 ?_
    refine sm_iconst (1 : Int32) ii_mo_lastWord_32 (by decide) ?_
    refine sm_isub ii_mo_lastWord_33 ?_
    refine sm_iald ii_mo_lastWord_34 (k := 63) rfl (fun x3 => ?_)
    exact sm_iret ii_mo_lastWord_35 rfl
set_option maxHeartbeats 4000000 in
set_option maxRecDepth 100000 in
theorem mc_mo_lastWord (a1 : Int32) (w : sm_Mem) : sm_MC mi_mo_lastWord [.ref 62, .int a1] w (ff_mo_lastWord a1 w) := sm_MC_of (0, fun _ => 0) (by decide +kernel) (by decide) rfl (Nat.le_of_ble_eq_true rfl) (ss_mo_lastWord_0 a1 w)
abbrev mi_mo_isAble : sm_MI := (⟨"HerOrdersModel", "isAble", "(IIIII)Z"⟩, prog_9_method_31_code, 6, (some .boolean), 2)
set_option maxRecDepth 100000 in
theorem mf_mo_isAble : sm_MF mi_mo_isAble 5 := ⟨List.mem_of_getElem? (i := 1160) (by decide +kernel), List.mem_of_getElem? (i := 132) (by decide +kernel), ⟨by decide, by decide⟩, by decide +kernel⟩
set_option maxRecDepth 100000 in
theorem mv_mo_isAble : sm_MFS mi_mo_isAble := List.mem_of_getElem? (i := 1159) (by decide +kernel)
set_option maxRecDepth 100000 in
theorem ii_mo_isAble_0 : sm_D prog_9_method_31_code 0 1 1 (.iload_n 1) := ⟨by decide +kernel, rfl⟩
set_option maxRecDepth 100000 in
theorem ii_mo_isAble_1 : sm_D prog_9_method_31_code 1 1 2 (.iload_n 3) := ⟨by decide +kernel, rfl⟩
set_option maxRecDepth 100000 in
theorem ii_mo_isAble_2 : sm_D prog_9_method_31_code 2 3 5 (.invokestatic 138) := ⟨by decide +kernel, rfl⟩
set_option maxRecDepth 100000 in
theorem ii_mo_isAble_5 : sm_D prog_9_method_31_code 5 2 7 (.istore 5) := ⟨by decide +kernel, rfl⟩
set_option maxRecDepth 100000 in
theorem ii_mo_isAble_7 : sm_D prog_9_method_31_code 7 1 8 (.iload_n 0) := ⟨by decide +kernel, rfl⟩
set_option maxRecDepth 100000 in
theorem ii_mo_isAble_8 : sm_D prog_9_method_31_code 8 36 44 (.tableswitch 143 1 5 #[36, 84, 102, 119, 52]) := ⟨by decide +kernel, rfl⟩
set_option maxRecDepth 100000 in
theorem ii_mo_isAble_44 : sm_D prog_9_method_31_code 44 2 46 (.iload 5) := ⟨by decide +kernel, rfl⟩
set_option maxRecDepth 100000 in
theorem ii_mo_isAble_46 : sm_D prog_9_method_31_code 46 3 49 (.ifCond .ne 8) := ⟨by decide +kernel, rfl⟩
set_option maxRecDepth 100000 in
theorem ii_mo_isAble_49 : sm_D prog_9_method_31_code 49 1 50 (.iload_n 3) := ⟨by decide +kernel, rfl⟩
set_option maxRecDepth 100000 in
theorem ii_mo_isAble_50 : sm_D prog_9_method_31_code 50 1 51 (.iload_n 2) := ⟨by decide +kernel, rfl⟩
set_option maxRecDepth 100000 in
theorem ii_mo_isAble_51 : sm_D prog_9_method_31_code 51 3 54 (.if_icmp .ne 7) := ⟨by decide +kernel, rfl⟩
set_option maxRecDepth 100000 in
theorem ii_mo_isAble_54 : sm_D prog_9_method_31_code 54 1 55 (.iconst 1) := ⟨by decide +kernel, rfl⟩
set_option maxRecDepth 100000 in
theorem ii_mo_isAble_55 : sm_D prog_9_method_31_code 55 3 58 (.goto 4) := ⟨by decide +kernel, rfl⟩
set_option maxRecDepth 100000 in
theorem ii_mo_isAble_58 : sm_D prog_9_method_31_code 58 1 59 (.iconst 0) := ⟨by decide +kernel, rfl⟩
set_option maxRecDepth 100000 in
theorem ii_mo_isAble_59 : sm_D prog_9_method_31_code 59 1 60 (.ireturn) := ⟨by decide +kernel, rfl⟩
set_option maxRecDepth 100000 in
theorem ii_mo_isAble_60 : sm_D prog_9_method_31_code 60 2 62 (.iload 5) := ⟨by decide +kernel, rfl⟩
set_option maxRecDepth 100000 in
theorem ii_mo_isAble_62 : sm_D prog_9_method_31_code 62 3 65 (.ifCond .ne 24) := ⟨by decide +kernel, rfl⟩
set_option maxRecDepth 100000 in
theorem ii_mo_isAble_65 : sm_D prog_9_method_31_code 65 1 66 (.iload_n 3) := ⟨by decide +kernel, rfl⟩
set_option maxRecDepth 100000 in
theorem ii_mo_isAble_66 : sm_D prog_9_method_31_code 66 1 67 (.iload_n 2) := ⟨by decide +kernel, rfl⟩
set_option maxRecDepth 100000 in
theorem ii_mo_isAble_67 : sm_D prog_9_method_31_code 67 3 70 (.if_icmp .eq 19) := ⟨by decide +kernel, rfl⟩
set_option maxRecDepth 100000 in
theorem ii_mo_isAble_70 : sm_D prog_9_method_31_code 70 1 71 (.iload_n 2) := ⟨by decide +kernel, rfl⟩
set_option maxRecDepth 100000 in
theorem ii_mo_isAble_71 : sm_D prog_9_method_31_code 71 2 73 (.bipush (-9)) := ⟨by decide +kernel, rfl⟩
set_option maxRecDepth 100000 in
theorem ii_mo_isAble_73 : sm_D prog_9_method_31_code 73 3 76 (.if_icmp .eq 17) := ⟨by decide +kernel, rfl⟩
set_option maxRecDepth 100000 in
theorem ii_mo_isAble_76 : sm_D prog_9_method_31_code 76 1 77 (.iload_n 3) := ⟨by decide +kernel, rfl⟩
set_option maxRecDepth 100000 in
theorem ii_mo_isAble_77 : sm_D prog_9_method_31_code 77 1 78 (.iload_n 2) := ⟨by decide +kernel, rfl⟩
set_option maxRecDepth 100000 in
theorem ii_mo_isAble_78 : sm_D prog_9_method_31_code 78 1 79 (.iconst 1) := ⟨by decide +kernel, rfl⟩
set_option maxRecDepth 100000 in
theorem ii_mo_isAble_79 : sm_D prog_9_method_31_code 79 1 80 (.iadd) := ⟨by decide +kernel, rfl⟩
set_option maxRecDepth 100000 in
theorem ii_mo_isAble_80 : sm_D prog_9_method_31_code 80 2 82 (.bipush 6) := ⟨by decide +kernel, rfl⟩
set_option maxRecDepth 100000 in
theorem ii_mo_isAble_82 : sm_D prog_9_method_31_code 82 1 83 (.irem) := ⟨by decide +kernel, rfl⟩
set_option maxRecDepth 100000 in
theorem ii_mo_isAble_83 : sm_D prog_9_method_31_code 83 3 86 (.if_icmp .ne 7) := ⟨by decide +kernel, rfl⟩
set_option maxRecDepth 100000 in
theorem ii_mo_isAble_86 : sm_D prog_9_method_31_code 86 1 87 (.iconst 1) := ⟨by decide +kernel, rfl⟩
set_option maxRecDepth 100000 in
theorem ii_mo_isAble_87 : sm_D prog_9_method_31_code 87 3 90 (.goto 4) := ⟨by decide +kernel, rfl⟩
set_option maxRecDepth 100000 in
theorem ii_mo_isAble_90 : sm_D prog_9_method_31_code 90 1 91 (.iconst 0) := ⟨by decide +kernel, rfl⟩
set_option maxRecDepth 100000 in
theorem ii_mo_isAble_91 : sm_D prog_9_method_31_code 91 1 92 (.ireturn) := ⟨by decide +kernel, rfl⟩
set_option maxRecDepth 100000 in
theorem ii_mo_isAble_92 : sm_D prog_9_method_31_code 92 2 94 (.iload 5) := ⟨by decide +kernel, rfl⟩
set_option maxRecDepth 100000 in
theorem ii_mo_isAble_94 : sm_D prog_9_method_31_code 94 3 97 (.ifCond .eq 14) := ⟨by decide +kernel, rfl⟩
set_option maxRecDepth 100000 in
theorem ii_mo_isAble_97 : sm_D prog_9_method_31_code 97 2 99 (.iload 4) := ⟨by decide +kernel, rfl⟩
set_option maxRecDepth 100000 in
theorem ii_mo_isAble_99 : sm_D prog_9_method_31_code 99 1 100 (.iconst 2) := ⟨by decide +kernel, rfl⟩
set_option maxRecDepth 100000 in
theorem ii_mo_isAble_100 : sm_D prog_9_method_31_code 100 1 101 (.irem) := ⟨by decide +kernel, rfl⟩
set_option maxRecDepth 100000 in
theorem ii_mo_isAble_101 : sm_D prog_9_method_31_code 101 3 104 (.ifCond .ne 7) := ⟨by decide +kernel, rfl⟩
set_option maxRecDepth 100000 in
theorem ii_mo_isAble_104 : sm_D prog_9_method_31_code 104 1 105 (.iconst 1) := ⟨by decide +kernel, rfl⟩
set_option maxRecDepth 100000 in
theorem ii_mo_isAble_105 : sm_D prog_9_method_31_code 105 3 108 (.goto 4) := ⟨by decide +kernel, rfl⟩
set_option maxRecDepth 100000 in
theorem ii_mo_isAble_108 : sm_D prog_9_method_31_code 108 1 109 (.iconst 0) := ⟨by decide +kernel, rfl⟩
set_option maxRecDepth 100000 in
theorem ii_mo_isAble_109 : sm_D prog_9_method_31_code 109 1 110 (.ireturn) := ⟨by decide +kernel, rfl⟩
set_option maxRecDepth 100000 in
theorem ii_mo_isAble_110 : sm_D prog_9_method_31_code 110 2 112 (.iload 5) := ⟨by decide +kernel, rfl⟩
set_option maxRecDepth 100000 in
theorem ii_mo_isAble_112 : sm_D prog_9_method_31_code 112 3 115 (.ifCond .eq 13) := ⟨by decide +kernel, rfl⟩
set_option maxRecDepth 100000 in
theorem ii_mo_isAble_115 : sm_D prog_9_method_31_code 115 1 116 (.iload_n 2) := ⟨by decide +kernel, rfl⟩
set_option maxRecDepth 100000 in
theorem ii_mo_isAble_116 : sm_D prog_9_method_31_code 116 2 118 (.bipush (-9)) := ⟨by decide +kernel, rfl⟩
set_option maxRecDepth 100000 in
theorem ii_mo_isAble_118 : sm_D prog_9_method_31_code 118 3 121 (.if_icmp .eq 7) := ⟨by decide +kernel, rfl⟩
set_option maxRecDepth 100000 in
theorem ii_mo_isAble_121 : sm_D prog_9_method_31_code 121 1 122 (.iconst 1) := ⟨by decide +kernel, rfl⟩
set_option maxRecDepth 100000 in
theorem ii_mo_isAble_122 : sm_D prog_9_method_31_code 122 3 125 (.goto 4) := ⟨by decide +kernel, rfl⟩
set_option maxRecDepth 100000 in
theorem ii_mo_isAble_125 : sm_D prog_9_method_31_code 125 1 126 (.iconst 0) := ⟨by decide +kernel, rfl⟩
set_option maxRecDepth 100000 in
theorem ii_mo_isAble_126 : sm_D prog_9_method_31_code 126 1 127 (.ireturn) := ⟨by decide +kernel, rfl⟩
set_option maxRecDepth 100000 in
theorem ii_mo_isAble_127 : sm_D prog_9_method_31_code 127 2 129 (.iload 5) := ⟨by decide +kernel, rfl⟩
set_option maxRecDepth 100000 in
theorem ii_mo_isAble_129 : sm_D prog_9_method_31_code 129 3 132 (.ifCond .eq 20) := ⟨by decide +kernel, rfl⟩
set_option maxRecDepth 100000 in
theorem ii_mo_isAble_132 : sm_D prog_9_method_31_code 132 1 133 (.iload_n 2) := ⟨by decide +kernel, rfl⟩
set_option maxRecDepth 100000 in
theorem ii_mo_isAble_133 : sm_D prog_9_method_31_code 133 2 135 (.bipush (-9)) := ⟨by decide +kernel, rfl⟩
set_option maxRecDepth 100000 in
theorem ii_mo_isAble_135 : sm_D prog_9_method_31_code 135 3 138 (.if_icmp .eq 14) := ⟨by decide +kernel, rfl⟩
set_option maxRecDepth 100000 in
theorem ii_mo_isAble_138 : sm_D prog_9_method_31_code 138 1 139 (.iload_n 3) := ⟨by decide +kernel, rfl⟩
set_option maxRecDepth 100000 in
theorem ii_mo_isAble_139 : sm_D prog_9_method_31_code 139 1 140 (.iconst 2) := ⟨by decide +kernel, rfl⟩
set_option maxRecDepth 100000 in
theorem ii_mo_isAble_140 : sm_D prog_9_method_31_code 140 1 141 (.irem) := ⟨by decide +kernel, rfl⟩
set_option maxRecDepth 100000 in
theorem ii_mo_isAble_141 : sm_D prog_9_method_31_code 141 1 142 (.iconst 1) := ⟨by decide +kernel, rfl⟩
set_option maxRecDepth 100000 in
theorem ii_mo_isAble_142 : sm_D prog_9_method_31_code 142 3 145 (.if_icmp .ne 7) := ⟨by decide +kernel, rfl⟩
set_option maxRecDepth 100000 in
theorem ii_mo_isAble_145 : sm_D prog_9_method_31_code 145 1 146 (.iconst 1) := ⟨by decide +kernel, rfl⟩
set_option maxRecDepth 100000 in
theorem ii_mo_isAble_146 : sm_D prog_9_method_31_code 146 3 149 (.goto 4) := ⟨by decide +kernel, rfl⟩
set_option maxRecDepth 100000 in
theorem ii_mo_isAble_149 : sm_D prog_9_method_31_code 149 1 150 (.iconst 0) := ⟨by decide +kernel, rfl⟩
set_option maxRecDepth 100000 in
theorem ii_mo_isAble_150 : sm_D prog_9_method_31_code 150 1 151 (.ireturn) := ⟨by decide +kernel, rfl⟩
set_option maxRecDepth 100000 in
theorem ii_mo_isAble_151 : sm_D prog_9_method_31_code 151 2 153 (.iload 5) := ⟨by decide +kernel, rfl⟩
set_option maxRecDepth 100000 in
theorem ii_mo_isAble_153 : sm_D prog_9_method_31_code 153 1 154 (.ireturn) := ⟨by decide +kernel, rfl⟩
noncomputable def ff_mo_isAble  (a0 : Int32) (a1 : Int32) (a2 : Int32) (a3 : Int32) (a4 : Int32) (w : sm_Mem) : sm_R := (sm_cI (ff_mo_has (a1) (a3) w) fun x1 w2 => (sm_sw a0 (1) [((if x1 = (0 : Int32) then (if a3 = a2 then (some (.int (1 : Int32), w2)) else (some (.int (0 : Int32), w2))) else (some (.int (1 : Int32), w2)))), ((if x1 = (0 : Int32) then (some (.int (0 : Int32), w2)) else (if (2 : Int32) = (0 : Int32) then none else (if (a4 - a4 / (2 : Int32) * (2 : Int32)) = (0 : Int32) then (some (.int (1 : Int32), w2)) else (some (.int (0 : Int32), w2)))))), ((if x1 = (0 : Int32) then (some (.int (0 : Int32), w2)) else (if a2 = (-9 : Int32) then (some (.int (0 : Int32), w2)) else (some (.int (1 : Int32), w2))))), ((if x1 = (0 : Int32) then (some (.int (0 : Int32), w2)) else (if a2 = (-9 : Int32) then (some (.int (0 : Int32), w2)) else (if (2 : Int32) = (0 : Int32) then none else (if (a3 - a3 / (2 : Int32) * (2 : Int32)) = (1 : Int32) then (some (.int (1 : Int32), w2)) else (some (.int (0 : Int32), w2))))))), ((if x1 = (0 : Int32) then (if a3 = a2 then (some (.int (1 : Int32), w2)) else (if a2 = (-9 : Int32) then (some (.int (0 : Int32), w2)) else (if (6 : Int32) = (0 : Int32) then none else (if a3 = ((a2 + (1 : Int32)) - (a2 + (1 : Int32)) / (6 : Int32) * (6 : Int32)) then (some (.int (1 : Int32), w2)) else (some (.int (0 : Int32), w2)))))) else (some (.int (1 : Int32), w2))))] ((sm_rz x1 w2))))
set_option maxHeartbeats 4000000 in
set_option maxRecDepth 100000 in
theorem ss_mo_isAble_0 {E : Nat × (Nat → Int32)}  (a0 : Int32) (a1 : Int32) (a2 : Int32) (a3 : Int32) (a4 : Int32) (w : sm_Mem) : sm_Sim E (mi_mo_isAble) 0 [some (.int a0), some (.int a1), some (.int a2), some (.int a3), some (.int a4), none] [] w (ff_mo_isAble  a0 a1 a2 a3 a4 w) := by
  unfold ff_mo_isAble
  refine sm_iload_n ii_mo_isAble_0 rfl ?_
  refine sm_iload_n ii_mo_isAble_1 rfl ?_
  refine sm_csI [.int a1, .int a3] [] rfl ii_mo_isAble_2 ml_mo_138 (mf_mo_has) (mv_mo_has) (Nat.le_of_ble_eq_true rfl) rfl rfl rfl (mc_mo_has (a1) (a3) w) (fun x1 w2 => ?_)
  refine sm_istore [some (.int a0), some (.int a1), some (.int a2), some (.int a3), some (.int a4), some (.int x1)] ii_mo_isAble_5 rfl rfl ?_
  refine sm_iload_n ii_mo_isAble_7 rfl ?_
  refine sm_table [44, 92, 110, 127, 60] 151 ii_mo_isAble_8 rfl rfl rfl ⟨?_, ?_, ?_, ?_, ?_, trivial⟩ ?_
  · refine sm_iload ii_mo_isAble_44 rfl ?_
    refine sm_if_ne 54 ii_mo_isAble_46 (by decide) ?_ ?_
    · refine sm_iload_n ii_mo_isAble_49 rfl ?_
      refine sm_iload_n ii_mo_isAble_50 rfl ?_
      refine sm_icmp_ne 58 ii_mo_isAble_51 (by decide) ?_ ?_
      · refine sm_iconst (1 : Int32) ii_mo_isAble_54 (by decide) ?_
        refine sm_goto 59 ii_mo_isAble_55 (by decide) ?_
        exact sm_zret1 ii_mo_isAble_59 rfl (by decide)
      · refine sm_iconst (0 : Int32) ii_mo_isAble_58 (by decide) ?_
        exact sm_zret1 ii_mo_isAble_59 rfl (by decide)
    · refine sm_iconst (1 : Int32) ii_mo_isAble_54 (by decide) ?_
      refine sm_goto 59 ii_mo_isAble_55 (by decide) ?_
      exact sm_zret1 ii_mo_isAble_59 rfl (by decide)
  · refine sm_iload ii_mo_isAble_92 rfl ?_
    refine sm_if_eq 108 ii_mo_isAble_94 (by decide) ?_ ?_
    · refine sm_iconst (0 : Int32) ii_mo_isAble_108 (by decide) ?_
      exact sm_zret1 ii_mo_isAble_109 rfl (by decide)
    · refine sm_iload ii_mo_isAble_97 rfl ?_
      refine sm_iconst (2 : Int32) ii_mo_isAble_99 (by decide) ?_
      refine sm_irem ii_mo_isAble_100 ?_
      refine sm_if_ne 108 ii_mo_isAble_101 (by decide) ?_ ?_
      · refine sm_iconst (1 : Int32) ii_mo_isAble_104 (by decide) ?_
        refine sm_goto 109 ii_mo_isAble_105 (by decide) ?_
        exact sm_zret1 ii_mo_isAble_109 rfl (by decide)
      · refine sm_iconst (0 : Int32) ii_mo_isAble_108 (by decide) ?_
        exact sm_zret1 ii_mo_isAble_109 rfl (by decide)
  · refine sm_iload ii_mo_isAble_110 rfl ?_
    refine sm_if_eq 125 ii_mo_isAble_112 (by decide) ?_ ?_
    · refine sm_iconst (0 : Int32) ii_mo_isAble_125 (by decide) ?_
      exact sm_zret1 ii_mo_isAble_126 rfl (by decide)
    · refine sm_iload_n ii_mo_isAble_115 rfl ?_
      refine sm_bipush (-9 : Int32) ii_mo_isAble_116 (by decide) ?_
      refine sm_icmp_eq 125 ii_mo_isAble_118 (by decide) ?_ ?_
      · refine sm_iconst (0 : Int32) ii_mo_isAble_125 (by decide) ?_
        exact sm_zret1 ii_mo_isAble_126 rfl (by decide)
      · refine sm_iconst (1 : Int32) ii_mo_isAble_121 (by decide) ?_
        refine sm_goto 126 ii_mo_isAble_122 (by decide) ?_
        exact sm_zret1 ii_mo_isAble_126 rfl (by decide)
  · refine sm_iload ii_mo_isAble_127 rfl ?_
    refine sm_if_eq 149 ii_mo_isAble_129 (by decide) ?_ ?_
    · refine sm_iconst (0 : Int32) ii_mo_isAble_149 (by decide) ?_
      exact sm_zret1 ii_mo_isAble_150 rfl (by decide)
    · refine sm_iload_n ii_mo_isAble_132 rfl ?_
      refine sm_bipush (-9 : Int32) ii_mo_isAble_133 (by decide) ?_
      refine sm_icmp_eq 149 ii_mo_isAble_135 (by decide) ?_ ?_
      · refine sm_iconst (0 : Int32) ii_mo_isAble_149 (by decide) ?_
        exact sm_zret1 ii_mo_isAble_150 rfl (by decide)
      · refine sm_iload_n ii_mo_isAble_138 rfl ?_
        refine sm_iconst (2 : Int32) ii_mo_isAble_139 (by decide) ?_
        refine sm_irem ii_mo_isAble_140 ?_
        refine sm_iconst (1 : Int32) ii_mo_isAble_141 (by decide) ?_
        refine sm_icmp_ne 149 ii_mo_isAble_142 (by decide) ?_ ?_
        · refine sm_iconst (1 : Int32) ii_mo_isAble_145 (by decide) ?_
          refine sm_goto 150 ii_mo_isAble_146 (by decide) ?_
          exact sm_zret1 ii_mo_isAble_150 rfl (by decide)
        · refine sm_iconst (0 : Int32) ii_mo_isAble_149 (by decide) ?_
          exact sm_zret1 ii_mo_isAble_150 rfl (by decide)
  · refine sm_iload ii_mo_isAble_60 rfl ?_
    refine sm_if_ne 86 ii_mo_isAble_62 (by decide) ?_ ?_
    · refine sm_iload_n ii_mo_isAble_65 rfl ?_
      refine sm_iload_n ii_mo_isAble_66 rfl ?_
      refine sm_icmp_eq 86 ii_mo_isAble_67 (by decide) ?_ ?_
      · refine sm_iconst (1 : Int32) ii_mo_isAble_86 (by decide) ?_
        refine sm_goto 91 ii_mo_isAble_87 (by decide) ?_
        exact sm_zret1 ii_mo_isAble_91 rfl (by decide)
      · refine sm_iload_n ii_mo_isAble_70 rfl ?_
        refine sm_bipush (-9 : Int32) ii_mo_isAble_71 (by decide) ?_
        refine sm_icmp_eq 90 ii_mo_isAble_73 (by decide) ?_ ?_
        · refine sm_iconst (0 : Int32) ii_mo_isAble_90 (by decide) ?_
          exact sm_zret1 ii_mo_isAble_91 rfl (by decide)
        · refine sm_iload_n ii_mo_isAble_76 rfl ?_
          refine sm_iload_n ii_mo_isAble_77 rfl ?_
          refine sm_iconst (1 : Int32) ii_mo_isAble_78 (by decide) ?_
          refine sm_iadd ii_mo_isAble_79 ?_
          refine sm_bipush (6 : Int32) ii_mo_isAble_80 (by decide) ?_
          refine sm_irem ii_mo_isAble_82 ?_
          refine sm_icmp_ne 90 ii_mo_isAble_83 (by decide) ?_ ?_
          · refine sm_iconst (1 : Int32) ii_mo_isAble_86 (by decide) ?_
            refine sm_goto 91 ii_mo_isAble_87 (by decide) ?_
            exact sm_zret1 ii_mo_isAble_91 rfl (by decide)
          · refine sm_iconst (0 : Int32) ii_mo_isAble_90 (by decide) ?_
            exact sm_zret1 ii_mo_isAble_91 rfl (by decide)
    · refine sm_iconst (1 : Int32) ii_mo_isAble_86 (by decide) ?_
      refine sm_goto 91 ii_mo_isAble_87 (by decide) ?_
      exact sm_zret1 ii_mo_isAble_91 rfl (by decide)
  · refine sm_iload ii_mo_isAble_151 rfl ?_
    exact sm_zret ii_mo_isAble_153 rfl
set_option maxHeartbeats 4000000 in
set_option maxRecDepth 100000 in
theorem mc_mo_isAble (a0 : Int32) (a1 : Int32) (a2 : Int32) (a3 : Int32) (a4 : Int32) (w : sm_Mem) : sm_MC mi_mo_isAble [.int a0, .int a1, .int a2, .int a3, .int a4] w (ff_mo_isAble a0 a1 a2 a3 a4 w) := sm_MC_of (0, fun _ => 0) (by decide +kernel) (by decide) rfl (Nat.le_of_ble_eq_true rfl) (ss_mo_isAble_0 a0 a1 a2 a3 a4 w)
abbrev mi_mo_borrowed : sm_MI := (⟨"HerOrdersModel", "borrowed", "(I)I"⟩, prog_9_method_41_code, 4, (some .int), 3)
set_option maxRecDepth 100000 in
theorem mf_mo_borrowed : sm_MF mi_mo_borrowed 1 := ⟨List.mem_of_getElem? (i := 1150) (by decide +kernel), List.mem_of_getElem? (i := 132) (by decide +kernel), ⟨by decide, by decide⟩, by decide +kernel⟩
set_option maxRecDepth 100000 in
theorem mv_mo_borrowed : sm_MFV mi_mo_borrowed := ⟨List.mem_of_getElem? (i := 1149) (by decide +kernel), List.mem_of_getElem? (i := 86) (by decide +kernel)⟩
set_option maxRecDepth 100000 in
theorem ii_mo_borrowed_0 : sm_D prog_9_method_41_code 0 1 1 (.iconst 0) := ⟨by decide +kernel, rfl⟩
set_option maxRecDepth 100000 in
theorem ii_mo_borrowed_1 : sm_D prog_9_method_41_code 1 1 2 (.istore_n 2) := ⟨by decide +kernel, rfl⟩
set_option maxRecDepth 100000 in
theorem ii_mo_borrowed_2 : sm_D prog_9_method_41_code 2 1 3 (.iconst 0) := ⟨by decide +kernel, rfl⟩
set_option maxRecDepth 100000 in
theorem ii_mo_borrowed_3 : sm_D prog_9_method_41_code 3 1 4 (.istore_n 3) := ⟨by decide +kernel, rfl⟩
set_option maxRecDepth 100000 in
theorem ii_mo_borrowed_4 : sm_D prog_9_method_41_code 4 1 5 (.iload_n 3) := ⟨by decide +kernel, rfl⟩
set_option maxRecDepth 100000 in
theorem ii_mo_borrowed_5 : sm_D prog_9_method_41_code 5 2 7 (.bipush 6) := ⟨by decide +kernel, rfl⟩
set_option maxRecDepth 100000 in
theorem ii_mo_borrowed_7 : sm_D prog_9_method_41_code 7 3 10 (.if_icmp .ge 60) := ⟨by decide +kernel, rfl⟩
set_option maxRecDepth 100000 in
theorem ii_mo_borrowed_10 : sm_D prog_9_method_41_code 10 1 11 (.iload_n 2) := ⟨by decide +kernel, rfl⟩
set_option maxRecDepth 100000 in
theorem ii_mo_borrowed_11 : sm_D prog_9_method_41_code 11 1 12 (.aload_n 0) := ⟨by decide +kernel, rfl⟩
set_option maxRecDepth 100000 in
theorem ii_mo_borrowed_12 : sm_D prog_9_method_41_code 12 3 15 (.getfield 16) := ⟨by decide +kernel, rfl⟩
set_option maxRecDepth 100000 in
theorem ii_mo_borrowed_15 : sm_D prog_9_method_41_code 15 1 16 (.iload_n 1) := ⟨by decide +kernel, rfl⟩
set_option maxRecDepth 100000 in
theorem ii_mo_borrowed_16 : sm_D prog_9_method_41_code 16 1 17 (.iaload) := ⟨by decide +kernel, rfl⟩
set_option maxRecDepth 100000 in
theorem ii_mo_borrowed_17 : sm_D prog_9_method_41_code 17 1 18 (.iload_n 3) := ⟨by decide +kernel, rfl⟩
set_option maxRecDepth 100000 in
theorem ii_mo_borrowed_18 : sm_D prog_9_method_41_code 18 3 21 (.invokestatic 138) := ⟨by decide +kernel, rfl⟩
set_option maxRecDepth 100000 in
theorem ii_mo_borrowed_21 : sm_D prog_9_method_41_code 21 3 24 (.ifCond .ne 37) := ⟨by decide +kernel, rfl⟩
set_option maxRecDepth 100000 in
theorem ii_mo_borrowed_24 : sm_D prog_9_method_41_code 24 1 25 (.aload_n 0) := ⟨by decide +kernel, rfl⟩
set_option maxRecDepth 100000 in
theorem ii_mo_borrowed_25 : sm_D prog_9_method_41_code 25 3 28 (.getfield 13) := ⟨by decide +kernel, rfl⟩
set_option maxRecDepth 100000 in
theorem ii_mo_borrowed_28 : sm_D prog_9_method_41_code 28 1 29 (.iload_n 1) := ⟨by decide +kernel, rfl⟩
set_option maxRecDepth 100000 in
theorem ii_mo_borrowed_29 : sm_D prog_9_method_41_code 29 1 30 (.iaload) := ⟨by decide +kernel, rfl⟩
set_option maxRecDepth 100000 in
theorem ii_mo_borrowed_30 : sm_D prog_9_method_41_code 30 1 31 (.aload_n 0) := ⟨by decide +kernel, rfl⟩
set_option maxRecDepth 100000 in
theorem ii_mo_borrowed_31 : sm_D prog_9_method_41_code 31 3 34 (.getfield 16) := ⟨by decide +kernel, rfl⟩
set_option maxRecDepth 100000 in
theorem ii_mo_borrowed_34 : sm_D prog_9_method_41_code 34 1 35 (.iload_n 1) := ⟨by decide +kernel, rfl⟩
set_option maxRecDepth 100000 in
theorem ii_mo_borrowed_35 : sm_D prog_9_method_41_code 35 1 36 (.iaload) := ⟨by decide +kernel, rfl⟩
set_option maxRecDepth 100000 in
theorem ii_mo_borrowed_36 : sm_D prog_9_method_41_code 36 1 37 (.aload_n 0) := ⟨by decide +kernel, rfl⟩
set_option maxRecDepth 100000 in
theorem ii_mo_borrowed_37 : sm_D prog_9_method_41_code 37 1 38 (.iconst 0) := ⟨by decide +kernel, rfl⟩
set_option maxRecDepth 100000 in
theorem ii_mo_borrowed_38 : sm_D prog_9_method_41_code 38 3 41 (.invokevirtual 150) := ⟨by decide +kernel, rfl⟩
set_option maxRecDepth 100000 in
theorem ii_mo_borrowed_41 : sm_D prog_9_method_41_code 41 1 42 (.iload_n 3) := ⟨by decide +kernel, rfl⟩
set_option maxRecDepth 100000 in
theorem ii_mo_borrowed_42 : sm_D prog_9_method_41_code 42 1 43 (.aload_n 0) := ⟨by decide +kernel, rfl⟩
set_option maxRecDepth 100000 in
theorem ii_mo_borrowed_43 : sm_D prog_9_method_41_code 43 3 46 (.getfield 7) := ⟨by decide +kernel, rfl⟩
set_option maxRecDepth 100000 in
theorem ii_mo_borrowed_46 : sm_D prog_9_method_41_code 46 1 47 (.iconst 1) := ⟨by decide +kernel, rfl⟩
set_option maxRecDepth 100000 in
theorem ii_mo_borrowed_47 : sm_D prog_9_method_41_code 47 1 48 (.iaload) := ⟨by decide +kernel, rfl⟩
set_option maxRecDepth 100000 in
theorem ii_mo_borrowed_48 : sm_D prog_9_method_41_code 48 3 51 (.invokestatic 153) := ⟨by decide +kernel, rfl⟩
set_option maxRecDepth 100000 in
theorem ii_mo_borrowed_51 : sm_D prog_9_method_41_code 51 3 54 (.ifCond .eq 7) := ⟨by decide +kernel, rfl⟩
set_option maxRecDepth 100000 in
theorem ii_mo_borrowed_54 : sm_D prog_9_method_41_code 54 1 55 (.iconst 1) := ⟨by decide +kernel, rfl⟩
set_option maxRecDepth 100000 in
theorem ii_mo_borrowed_55 : sm_D prog_9_method_41_code 55 3 58 (.goto 4) := ⟨by decide +kernel, rfl⟩
set_option maxRecDepth 100000 in
theorem ii_mo_borrowed_58 : sm_D prog_9_method_41_code 58 1 59 (.iconst 0) := ⟨by decide +kernel, rfl⟩
set_option maxRecDepth 100000 in
theorem ii_mo_borrowed_59 : sm_D prog_9_method_41_code 59 1 60 (.iadd) := ⟨by decide +kernel, rfl⟩
set_option maxRecDepth 100000 in
theorem ii_mo_borrowed_60 : sm_D prog_9_method_41_code 60 1 61 (.istore_n 2) := ⟨by decide +kernel, rfl⟩
set_option maxRecDepth 100000 in
theorem ii_mo_borrowed_61 : sm_D prog_9_method_41_code 61 3 64 (.iinc 3 1) := ⟨by decide +kernel, rfl⟩
set_option maxRecDepth 100000 in
theorem ii_mo_borrowed_64 : sm_D prog_9_method_41_code 64 3 67 (.goto (-60)) := ⟨by decide +kernel, rfl⟩
set_option maxRecDepth 100000 in
theorem ii_mo_borrowed_67 : sm_D prog_9_method_41_code 67 1 68 (.iload_n 2) := ⟨by decide +kernel, rfl⟩
set_option maxRecDepth 100000 in
theorem ii_mo_borrowed_68 : sm_D prog_9_method_41_code 68 1 69 (.ireturn) := ⟨by decide +kernel, rfl⟩
noncomputable def ff_mo_borrowed_59 (self4 : Int32 → Int32 → Int32 → sm_Mem → sm_R) (a1 : Int32) (a3 : Int32) (b0 : Int32) (b1 : Int32) (w : sm_Mem) : sm_R := self4 (a1) ((b0 + b1)) ((a3 + (1 : Int32))) w
set_option maxHeartbeats 4000000 in
set_option maxRecDepth 100000 in
theorem ss_mo_borrowed_59 {E : Nat × (Nat → Int32)} (self4 : Int32 → Int32 → Int32 → sm_Mem → sm_R) (hself4 : ∀ (a1 : Int32) (a2 : Int32) (a3 : Int32) (w : sm_Mem), sm_Sim E (mi_mo_borrowed) 4 [some (.ref 62), some (.int a1), some (.int a2), some (.int a3)] [] w (self4 a1 a2 a3 w)) (a1 : Int32) (a3 : Int32) (b0 : Int32) (b1 : Int32) (w : sm_Mem) : sm_Sim E (mi_mo_borrowed) 59 [some (.ref 62), some (.int a1), none, some (.int a3)] [.int b1, .int b0] w (ff_mo_borrowed_59 self4 a1 a3 b0 b1 w) := by
  unfold ff_mo_borrowed_59
  refine sm_iadd ii_mo_borrowed_59 ?_
  refine sm_istore_n [some (.ref 62), some (.int a1), some (.int (b0 + b1)), some (.int a3)] ii_mo_borrowed_60 rfl rfl ?_
  refine sm_iinc (a3 + (1 : Int32)) [some (.ref 62), some (.int a1), some (.int (b0 + b1)), some (.int (a3 + (1 : Int32)))] ii_mo_borrowed_61 rfl rfl rfl rfl ?_
  refine sm_goto 4 ii_mo_borrowed_64 (by decide) ?_
  exact hself4 (a1) ((b0 + b1)) ((a3 + (1 : Int32))) w
noncomputable def ff_mo_borrowed_58 (self4 : Int32 → Int32 → Int32 → sm_Mem → sm_R) (a1 : Int32) (a3 : Int32) (b0 : Int32) (w : sm_Mem) : sm_R := ff_mo_borrowed_59 self4 (a1) (a3) (b0) ((0 : Int32)) w
set_option maxHeartbeats 4000000 in
set_option maxRecDepth 100000 in
theorem ss_mo_borrowed_58 {E : Nat × (Nat → Int32)} (self4 : Int32 → Int32 → Int32 → sm_Mem → sm_R) (hself4 : ∀ (a1 : Int32) (a2 : Int32) (a3 : Int32) (w : sm_Mem), sm_Sim E (mi_mo_borrowed) 4 [some (.ref 62), some (.int a1), some (.int a2), some (.int a3)] [] w (self4 a1 a2 a3 w)) (a1 : Int32) (a3 : Int32) (b0 : Int32) (w : sm_Mem) : sm_Sim E (mi_mo_borrowed) 58 [some (.ref 62), some (.int a1), none, some (.int a3)] [.int b0] w (ff_mo_borrowed_58 self4 a1 a3 b0 w) := by
  unfold ff_mo_borrowed_58
  refine sm_iconst (0 : Int32) ii_mo_borrowed_58 (by decide) ?_
  exact ss_mo_borrowed_59 self4 hself4 (a1) (a3) (b0) ((0 : Int32)) w
noncomputable def ff_mo_borrowed_4_b  (self4 : Int32 → Int32 → Int32 → sm_Mem → sm_R) (a1 : Int32) (a2 : Int32) (a3 : Int32) (w : sm_Mem) : sm_R := (if (6 : Int32) ≤ a3 then (some (.int a2, w)) else (Option.bind (sm_rd w 65 7 a1) fun x1 => (sm_cI (ff_mo_has (x1) (a3) w) fun x2 w3 => (if x2 = (0 : Int32) then (Option.bind (sm_rd w3 64 7 a1) fun x4 => (Option.bind (sm_rd w3 65 7 a1) fun x5 => (sm_cI (ff_mo_lastWord ((0 : Int32)) w3) fun x6 w7 => (Option.bind (sm_rd w7 63 5184 (1 : Int32)) fun x8 => (sm_cI (ff_mo_isAble (x4) (x5) (x6) (a3) (x8) w7) fun x9 w10 => (if x9 = (0 : Int32) then ff_mo_borrowed_58 self4 (a1) (a3) (a2) w10 else ff_mo_borrowed_59 self4 (a1) (a3) (a2) ((1 : Int32)) w10)))))) else ff_mo_borrowed_58 self4 (a1) (a3) (a2) w3))))
noncomputable def ff_mo_borrowed_4_f  : Nat → Int32 → Int32 → Int32 → sm_Mem → sm_R
  | 0, _, _, _, _ => none
  | n + 1, a1, a2, a3, w => ff_mo_borrowed_4_b  (ff_mo_borrowed_4_f  n) a1 a2 a3 w
noncomputable def ff_mo_borrowed_4  (a1 : Int32) (a2 : Int32) (a3 : Int32) (w : sm_Mem) : sm_R := ff_mo_borrowed_4_f  sm_N a1 a2 a3 w
set_option maxHeartbeats 4000000 in
set_option maxRecDepth 100000 in
theorem ss_mo_borrowed_4_b {E : Nat × (Nat → Int32)}  (self4 : Int32 → Int32 → Int32 → sm_Mem → sm_R) (hself4 : ∀ (a1 : Int32) (a2 : Int32) (a3 : Int32) (w : sm_Mem), sm_Sim E (mi_mo_borrowed) 4 [some (.ref 62), some (.int a1), some (.int a2), some (.int a3)] [] w (self4 a1 a2 a3 w)) (a1 : Int32) (a2 : Int32) (a3 : Int32) (w : sm_Mem) : sm_Sim E (mi_mo_borrowed) 4 [some (.ref 62), some (.int a1), some (.int a2), some (.int a3)] [] w (ff_mo_borrowed_4_b  self4 a1 a2 a3 w) := by
  unfold ff_mo_borrowed_4_b
  refine sm_iload_n ii_mo_borrowed_4 rfl ?_
  refine sm_bipush (6 : Int32) ii_mo_borrowed_5 (by decide) ?_
  refine sm_icmp_ge 67 ii_mo_borrowed_7 (by decide) ?_ ?_
  · refine sm_iload_n ii_mo_borrowed_67 rfl ?_
    exact sm_iret ii_mo_borrowed_68 rfl
  · refine sm_iload_n ii_mo_borrowed_10 rfl ?_
    refine sm_aload_n ii_mo_borrowed_11 rfl ?_
    refine sm_getR 65 ii_mo_borrowed_12 fl_mo_16 (k := 62) rfl ?_
    refine sm_iload_n ii_mo_borrowed_15 rfl ?_
    refine sm_iald ii_mo_borrowed_16 (k := 65) rfl (fun x1 => ?_)
    refine sm_iload_n ii_mo_borrowed_17 rfl ?_
    refine sm_csI [.int x1, .int a3] [.int a2] rfl ii_mo_borrowed_18 ml_mo_138 (mf_mo_has) (mv_mo_has) (Nat.le_of_ble_eq_true rfl) rfl rfl rfl (mc_mo_has (x1) (a3) w) (fun x2 w3 => ?_)
    refine sm_if_ne 58 ii_mo_borrowed_21 (by decide) ?_ ?_
    · refine sm_aload_n ii_mo_borrowed_24 rfl ?_
      refine sm_getR 64 ii_mo_borrowed_25 fl_mo_13 (k := 62) rfl ?_
      refine sm_iload_n ii_mo_borrowed_28 rfl ?_
      refine sm_iald ii_mo_borrowed_29 (k := 64) rfl (fun x4 => ?_)
      refine sm_aload_n ii_mo_borrowed_30 rfl ?_
      refine sm_getR 65 ii_mo_borrowed_31 fl_mo_16 (k := 62) rfl ?_
      refine sm_iload_n ii_mo_borrowed_34 rfl ?_
      refine sm_iald ii_mo_borrowed_35 (k := 65) rfl (fun x5 => ?_)
      refine sm_aload_n ii_mo_borrowed_36 rfl ?_
      refine sm_iconst (0 : Int32) ii_mo_borrowed_37 (by decide) ?_
      refine sm_cvI [.int (0 : Int32)] [.int x5, .int x4, .int a2] rfl ii_mo_borrowed_38 ml_mo_150 (mf_mo_lastWord) (mv_mo_lastWord) (Nat.le_of_ble_eq_true rfl) rfl 7 rfl rfl rfl rfl (mc_mo_lastWord ((0 : Int32)) w3) (fun x6 w7 => ?_)
      refine sm_iload_n ii_mo_borrowed_41 rfl ?_
      refine sm_aload_n ii_mo_borrowed_42 rfl ?_
      refine sm_getR 63 ii_mo_borrowed_43 fl_mo_7 (k := 62) rfl ?_
      refine sm_iconst (1 : Int32) ii_mo_borrowed_46 (by decide) ?_
      refine sm_iald ii_mo_borrowed_47 (k := 63) rfl (fun x8 => ?_)
      refine sm_csI [.int x4, .int x5, .int x6, .int a3, .int x8] [.int a2] rfl ii_mo_borrowed_48 ml_mo_153 (mf_mo_isAble) (mv_mo_isAble) (Nat.le_of_ble_eq_true rfl) rfl rfl rfl (mc_mo_isAble (x4) (x5) (x6) (a3) (x8) w7) (fun x9 w10 => ?_)
      refine sm_if_eq 58 ii_mo_borrowed_51 (by decide) ?_ ?_
      · refine sm_msk [true, true, false, true] [some (.ref 62), some (.int a1), none, some (.int a3)] rfl ?_
        exact ss_mo_borrowed_58 self4 hself4 (a1) (a3) (a2) w10
      · refine sm_iconst (1 : Int32) ii_mo_borrowed_54 (by decide) ?_
        refine sm_goto 59 ii_mo_borrowed_55 (by decide) ?_
        refine sm_msk [true, true, false, true] [some (.ref 62), some (.int a1), none, some (.int a3)] rfl ?_
        exact ss_mo_borrowed_59 self4 hself4 (a1) (a3) (a2) ((1 : Int32)) w10
    · refine sm_msk [true, true, false, true] [some (.ref 62), some (.int a1), none, some (.int a3)] rfl ?_
      exact ss_mo_borrowed_58 self4 hself4 (a1) (a3) (a2) w3
set_option maxHeartbeats 4000000 in
set_option maxRecDepth 100000 in
theorem ss_mo_borrowed_4_f {E : Nat × (Nat → Int32)}  : ∀ (n : Nat) (a1 : Int32) (a2 : Int32) (a3 : Int32) (w : sm_Mem), sm_Sim E (mi_mo_borrowed) 4 [some (.ref 62), some (.int a1), some (.int a2), some (.int a3)] [] w (ff_mo_borrowed_4_f  n a1 a2 a3 w)
  | 0, _, _, _, _ => fun _ _ h => by cases h
  | n + 1, a1, a2, a3, w => ss_mo_borrowed_4_b  _ (ss_mo_borrowed_4_f  n) a1 a2 a3 w
set_option maxHeartbeats 4000000 in
set_option maxRecDepth 100000 in
theorem ss_mo_borrowed_4 {E : Nat × (Nat → Int32)}  (a1 : Int32) (a2 : Int32) (a3 : Int32) (w : sm_Mem) : sm_Sim E (mi_mo_borrowed) 4 [some (.ref 62), some (.int a1), some (.int a2), some (.int a3)] [] w (ff_mo_borrowed_4  a1 a2 a3 w) := ss_mo_borrowed_4_f  sm_N a1 a2 a3 w
noncomputable def ff_mo_borrowed  (a1 : Int32) (w : sm_Mem) : sm_R := ff_mo_borrowed_4 (a1) ((0 : Int32)) ((0 : Int32)) w
set_option maxHeartbeats 4000000 in
set_option maxRecDepth 100000 in
theorem ss_mo_borrowed_0 {E : Nat × (Nat → Int32)}  (a1 : Int32) (w : sm_Mem) : sm_Sim E (mi_mo_borrowed) 0 [some (.ref 62), some (.int a1), none, none] [] w (ff_mo_borrowed  a1 w) := by
  unfold ff_mo_borrowed
  refine sm_iconst (0 : Int32) ii_mo_borrowed_0 (by decide) ?_
  refine sm_istore_n [some (.ref 62), some (.int a1), some (.int (0 : Int32)), none] ii_mo_borrowed_1 rfl rfl ?_
  refine sm_iconst (0 : Int32) ii_mo_borrowed_2 (by decide) ?_
  refine sm_istore_n [some (.ref 62), some (.int a1), some (.int (0 : Int32)), some (.int (0 : Int32))] ii_mo_borrowed_3 rfl rfl ?_
  exact ss_mo_borrowed_4 (a1) ((0 : Int32)) ((0 : Int32)) w
set_option maxHeartbeats 4000000 in
set_option maxRecDepth 100000 in
theorem mc_mo_borrowed (a1 : Int32) (w : sm_Mem) : sm_MC mi_mo_borrowed [.ref 62, .int a1] w (ff_mo_borrowed a1 w) := sm_MC_of (0, fun _ => 0) (by decide +kernel) (by decide) rfl (Nat.le_of_ble_eq_true rfl) (ss_mo_borrowed_0 a1 w)
abbrev mi_mo_lastWho : sm_MI := (⟨"HerOrdersModel", "lastWho", "(I)I"⟩, prog_9_method_33_code, 2, (some .int), 1)
set_option maxRecDepth 100000 in
theorem mf_mo_lastWho : sm_MF mi_mo_lastWho 1 := ⟨List.mem_of_getElem? (i := 1176) (by decide +kernel), List.mem_of_getElem? (i := 132) (by decide +kernel), ⟨by decide, by decide⟩, by decide +kernel⟩
set_option maxRecDepth 100000 in
theorem mv_mo_lastWho : sm_MFV mi_mo_lastWho := ⟨List.mem_of_getElem? (i := 1175) (by decide +kernel), List.mem_of_getElem? (i := 91) (by decide +kernel)⟩
set_option maxRecDepth 100000 in
theorem ii_mo_lastWho_0 : sm_D prog_9_method_33_code 0 1 1 (.aload_n 0) := ⟨by decide +kernel, rfl⟩
set_option maxRecDepth 100000 in
theorem ii_mo_lastWho_1 : sm_D prog_9_method_33_code 1 3 4 (.getfield 7) := ⟨by decide +kernel, rfl⟩
set_option maxRecDepth 100000 in
theorem ii_mo_lastWho_4 : sm_D prog_9_method_33_code 4 1 5 (.iload_n 1) := ⟨by decide +kernel, rfl⟩
set_option maxRecDepth 100000 in
theorem ii_mo_lastWho_5 : sm_D prog_9_method_33_code 5 1 6 (.iconst 2) := ⟨by decide +kernel, rfl⟩
set_option maxRecDepth 100000 in
theorem ii_mo_lastWho_6 : sm_D prog_9_method_33_code 6 1 7 (.iadd) := ⟨by decide +kernel, rfl⟩
set_option maxRecDepth 100000 in
theorem ii_mo_lastWho_7 : sm_D prog_9_method_33_code 7 1 8 (.iaload) := ⟨by decide +kernel, rfl⟩
set_option maxRecDepth 100000 in
theorem ii_mo_lastWho_8 : sm_D prog_9_method_33_code 8 3 11 (.ifCond .ne 8) := ⟨by decide +kernel, rfl⟩
set_option maxRecDepth 100000 in
theorem ii_mo_lastWho_11 : sm_D prog_9_method_33_code 11 2 13 (.bipush (-9)) := ⟨by decide +kernel, rfl⟩
set_option maxRecDepth 100000 in
theorem ii_mo_lastWho_13 : sm_D prog_9_method_33_code 13 3 16 (.goto 23) := ⟨by decide +kernel, rfl⟩
set_option maxRecDepth 100000 in
theorem ii_mo_lastWho_16 : sm_D prog_9_method_33_code 16 1 17 (.aload_n 0) := ⟨by decide +kernel, rfl⟩
set_option maxRecDepth 100000 in
theorem ii_mo_lastWho_17 : sm_D prog_9_method_33_code 17 3 20 (.getfield 7) := ⟨by decide +kernel, rfl⟩
set_option maxRecDepth 100000 in
theorem ii_mo_lastWho_20 : sm_D prog_9_method_33_code 20 1 21 (.iload_n 1) := ⟨by decide +kernel, rfl⟩
set_option maxRecDepth 100000 in
theorem ii_mo_lastWho_21 : sm_D prog_9_method_33_code 21 2 23 (.bipush 12) := ⟨by decide +kernel, rfl⟩
set_option maxRecDepth 100000 in
theorem ii_mo_lastWho_23 : sm_D prog_9_method_33_code 23 1 24 (.iadd) := ⟨by decide +kernel, rfl⟩
set_option maxRecDepth 100000 in
theorem ii_mo_lastWho_24 : sm_D prog_9_method_33_code 24 1 25 (.aload_n 0) := ⟨by decide +kernel, rfl⟩
set_option maxRecDepth 100000 in
theorem ii_mo_lastWho_25 : sm_D prog_9_method_33_code 25 3 28 (.getfield 7) := ⟨by decide +kernel, rfl⟩
set_option maxRecDepth 100000 in
theorem ii_mo_lastWho_28 : sm_D prog_9_method_33_code 28 1 29 (.iload_n 1) := ⟨by decide +kernel, rfl⟩
set_option maxRecDepth 100000 in
theorem ii_mo_lastWho_29 : sm_D prog_9_method_33_code 29 1 30 (.iconst 2) := ⟨by decide +kernel, rfl⟩
set_option maxRecDepth 100000 in
theorem ii_mo_lastWho_30 : sm_D prog_9_method_33_code 30 1 31 (.iadd) := ⟨by decide +kernel, rfl⟩
set_option maxRecDepth 100000 in
theorem ii_mo_lastWho_31 : sm_D prog_9_method_33_code 31 1 32 (.iaload) := ⟨by decide +kernel, rfl⟩
set_option maxRecDepth 100000 in
theorem ii_mo_lastWho_32 : sm_D prog_9_method_33_code 32 1 33 (.iadd) := ⟨by decide +kernel, rfl⟩
set_option maxRecDepth 100000 in
theorem ii_mo_lastWho_33 : sm_D prog_9_method_33_code 33 1 34 (.iconst 1) := ⟨by decide +kernel, rfl⟩
set_option maxRecDepth 100000 in
theorem ii_mo_lastWho_34 : sm_D prog_9_method_33_code 34 1 35 (.isub) := ⟨by decide +kernel, rfl⟩
set_option maxRecDepth 100000 in
theorem ii_mo_lastWho_35 : sm_D prog_9_method_33_code 35 1 36 (.iaload) := ⟨by decide +kernel, rfl⟩
set_option maxRecDepth 100000 in
theorem ii_mo_lastWho_36 : sm_D prog_9_method_33_code 36 1 37 (.ireturn) := ⟨by decide +kernel, rfl⟩
noncomputable def ff_mo_lastWho  (a1 : Int32) (w : sm_Mem) : sm_R := (Option.bind (sm_rd w 63 5184 (a1 + (2 : Int32))) fun x1 => (if x1 = (0 : Int32) then (some (.int (-9 : Int32), w)) else (Option.bind (sm_rd w 63 5184 (a1 + (2 : Int32))) fun x2 => (Option.bind (sm_rd w 63 5184 (((a1 + (12 : Int32)) + x2) - (1 : Int32))) fun x3 => (some (.int x3, w))))))
set_option maxHeartbeats 4000000 in
set_option maxRecDepth 100000 in
theorem ss_mo_lastWho_0 {E : Nat × (Nat → Int32)}  (a1 : Int32) (w : sm_Mem) : sm_Sim E (mi_mo_lastWho) 0 [some (.ref 62), some (.int a1)] [] w (ff_mo_lastWho  a1 w) := by
  unfold ff_mo_lastWho
  refine sm_aload_n ii_mo_lastWho_0 rfl ?_
  refine sm_getR 63 ii_mo_lastWho_1 fl_mo_7 (k := 62) rfl ?_
  refine sm_iload_n ii_mo_lastWho_4 rfl ?_
  refine sm_iconst (2 : Int32) ii_mo_lastWho_5 (by decide) ?_
  refine sm_iadd ii_mo_lastWho_6 ?_
  refine sm_iald ii_mo_lastWho_7 (k := 63) rfl (fun x1 => ?_)
  refine sm_if_ne 16 ii_mo_lastWho_8 (by decide) ?_ ?_
  · refine sm_bipush (-9 : Int32) ii_mo_lastWho_11 (by decide) ?_
    refine sm_goto 36 ii_mo_lastWho_13 (by decide) ?_
    exact sm_iret ii_mo_lastWho_36 rfl
  · refine sm_aload_n ii_mo_lastWho_16 rfl ?_
    refine sm_getR 63 ii_mo_lastWho_17 fl_mo_7 (k := 62) rfl ?_
    refine sm_iload_n ii_mo_lastWho_20 rfl ?_
    refine sm_bipush (12 : Int32) ii_mo_lastWho_21 (by decide) ?_
    refine sm_iadd ii_mo_lastWho_23 ?_
    refine sm_aload_n ii_mo_lastWho_24 rfl ?_
    refine sm_getR 63 ii_mo_lastWho_25 fl_mo_7 (k := 62) rfl ?_
    refine sm_iload_n ii_mo_lastWho_28 rfl ?_
    refine sm_iconst (2 : Int32) ii_mo_lastWho_29 (by decide) ?_
    refine sm_iadd ii_mo_lastWho_30 ?_
    refine sm_iald ii_mo_lastWho_31 (k := 63) rfl (fun x2 => ?_)
    refine sm_iadd ii_mo_lastWho_32 ?_
    refine sm_iconst (1 : Int32) ii_mo_lastWho_33 (by decide) ?_
    refine sm_isub ii_mo_lastWho_34 ?_
    refine sm_iald ii_mo_lastWho_35 (k := 63) rfl (fun x3 => ?_)
    exact sm_iret ii_mo_lastWho_36 rfl
set_option maxHeartbeats 4000000 in
set_option maxRecDepth 100000 in
theorem mc_mo_lastWho (a1 : Int32) (w : sm_Mem) : sm_MC mi_mo_lastWho [.ref 62, .int a1] w (ff_mo_lastWho a1 w) := sm_MC_of (0, fun _ => 0) (by decide +kernel) (by decide) rfl (Nat.le_of_ble_eq_true rfl) (ss_mo_lastWho_0 a1 w)
abbrev mi_mo_areNear : sm_MI := (⟨"HerOrdersModel", "areNear", "(II)Z"⟩, prog_9_method_34_code, 2, (some .boolean), 2)
set_option maxRecDepth 100000 in
theorem mf_mo_areNear : sm_MF mi_mo_areNear 2 := ⟨List.mem_of_getElem? (i := 1179) (by decide +kernel), List.mem_of_getElem? (i := 132) (by decide +kernel), ⟨by decide, by decide⟩, by decide +kernel⟩
set_option maxRecDepth 100000 in
theorem mv_mo_areNear : sm_MFS mi_mo_areNear := List.mem_of_getElem? (i := 1178) (by decide +kernel)
set_option maxRecDepth 100000 in
theorem ii_mo_areNear_0 : sm_D prog_9_method_34_code 0 1 1 (.iload_n 0) := ⟨by decide +kernel, rfl⟩
set_option maxRecDepth 100000 in
theorem ii_mo_areNear_1 : sm_D prog_9_method_34_code 1 1 2 (.iload_n 1) := ⟨by decide +kernel, rfl⟩
set_option maxRecDepth 100000 in
theorem ii_mo_areNear_2 : sm_D prog_9_method_34_code 2 1 3 (.isub) := ⟨by decide +kernel, rfl⟩
set_option maxRecDepth 100000 in
theorem ii_mo_areNear_3 : sm_D prog_9_method_34_code 3 1 4 (.i2l) := ⟨by decide +kernel, rfl⟩
set_option maxRecDepth 100000 in
theorem ii_mo_areNear_4 : sm_D prog_9_method_34_code 4 3 7 (.ldc2_w 142) := ⟨by decide +kernel, rfl⟩
set_option maxRecDepth 100000 in
theorem ii_mo_areNear_7 : sm_D prog_9_method_34_code 7 1 8 (.lconst 1) := ⟨by decide +kernel, rfl⟩
set_option maxRecDepth 100000 in
theorem ii_mo_areNear_8 : sm_D prog_9_method_34_code 8 3 11 (.invokestatic 71) := ⟨by decide +kernel, rfl⟩
set_option maxRecDepth 100000 in
theorem ii_mo_areNear_11 : sm_D prog_9_method_34_code 11 1 12 (.ireturn) := ⟨by decide +kernel, rfl⟩
noncomputable def ff_mo_areNear  (a0 : Int32) (a1 : Int32) (w : sm_Mem) : sm_R := (sm_cI (ff_mo_in ((Int32.toInt64 (a0 - a1))) ((-1 : Int64)) ((1 : Int64)) w) fun x1 w2 => (sm_rz x1 w2))
set_option maxHeartbeats 4000000 in
set_option maxRecDepth 100000 in
theorem ss_mo_areNear_0 {E : Nat × (Nat → Int32)}  (a0 : Int32) (a1 : Int32) (w : sm_Mem) : sm_Sim E (mi_mo_areNear) 0 [some (.int a0), some (.int a1)] [] w (ff_mo_areNear  a0 a1 w) := by
  unfold ff_mo_areNear
  refine sm_iload_n ii_mo_areNear_0 rfl ?_
  refine sm_iload_n ii_mo_areNear_1 rfl ?_
  refine sm_isub ii_mo_areNear_2 ?_
  refine sm_i2l ii_mo_areNear_3 ?_
  refine sm_ldc2 (-1 : Int64) ii_mo_areNear_4 (List.mem_of_getElem? (i := 1180) (by decide +kernel)) ?_
  refine sm_lconst (1 : Int64) ii_mo_areNear_7 (by decide) ?_
  refine sm_csI [.long (Int32.toInt64 (a0 - a1)), .long (-1 : Int64), .long (1 : Int64)] [] rfl ii_mo_areNear_8 ml_mo_71 (mf_mo_in) (mv_mo_in) (Nat.le_of_ble_eq_true rfl) rfl rfl rfl (mc_mo_in ((Int32.toInt64 (a0 - a1))) ((-1 : Int64)) ((1 : Int64)) w) (fun x1 w2 => ?_)
  exact sm_zret ii_mo_areNear_11 rfl
set_option maxHeartbeats 4000000 in
set_option maxRecDepth 100000 in
theorem mc_mo_areNear (a0 : Int32) (a1 : Int32) (w : sm_Mem) : sm_MC mi_mo_areNear [.int a0, .int a1] w (ff_mo_areNear a0 a1 w) := sm_MC_of (0, fun _ => 0) (by decide +kernel) (by decide) rfl (Nat.le_of_ble_eq_true rfl) (ss_mo_areNear_0 a0 a1 w)
abbrev mi_mo_mayNext : sm_MI := (⟨"HerOrdersModel", "mayNext", "(III)Z"⟩, prog_9_method_35_code, 5, (some .boolean), 3)
set_option maxRecDepth 100000 in
theorem mf_mo_mayNext : sm_MF mi_mo_mayNext 3 := ⟨List.mem_of_getElem? (i := 1172) (by decide +kernel), List.mem_of_getElem? (i := 132) (by decide +kernel), ⟨by decide, by decide⟩, by decide +kernel⟩
set_option maxRecDepth 100000 in
theorem mv_mo_mayNext : sm_MFV mi_mo_mayNext := ⟨List.mem_of_getElem? (i := 1171) (by decide +kernel), List.mem_of_getElem? (i := 90) (by decide +kernel)⟩
set_option maxRecDepth 100000 in
theorem ii_mo_mayNext_0 : sm_D prog_9_method_35_code 0 1 1 (.aload_n 0) := ⟨by decide +kernel, rfl⟩
set_option maxRecDepth 100000 in
theorem ii_mo_mayNext_1 : sm_D prog_9_method_35_code 1 1 2 (.iload_n 1) := ⟨by decide +kernel, rfl⟩
set_option maxRecDepth 100000 in
theorem ii_mo_mayNext_2 : sm_D prog_9_method_35_code 2 3 5 (.invokevirtual 144) := ⟨by decide +kernel, rfl⟩
set_option maxRecDepth 100000 in
theorem ii_mo_mayNext_5 : sm_D prog_9_method_35_code 5 2 7 (.istore 4) := ⟨by decide +kernel, rfl⟩
set_option maxRecDepth 100000 in
theorem ii_mo_mayNext_7 : sm_D prog_9_method_35_code 7 1 8 (.aload_n 0) := ⟨by decide +kernel, rfl⟩
set_option maxRecDepth 100000 in
theorem ii_mo_mayNext_8 : sm_D prog_9_method_35_code 8 3 11 (.getfield 7) := ⟨by decide +kernel, rfl⟩
set_option maxRecDepth 100000 in
theorem ii_mo_mayNext_11 : sm_D prog_9_method_35_code 11 1 12 (.iload_n 1) := ⟨by decide +kernel, rfl⟩
set_option maxRecDepth 100000 in
theorem ii_mo_mayNext_12 : sm_D prog_9_method_35_code 12 1 13 (.iconst 2) := ⟨by decide +kernel, rfl⟩
set_option maxRecDepth 100000 in
theorem ii_mo_mayNext_13 : sm_D prog_9_method_35_code 13 1 14 (.iadd) := ⟨by decide +kernel, rfl⟩
set_option maxRecDepth 100000 in
theorem ii_mo_mayNext_14 : sm_D prog_9_method_35_code 14 1 15 (.iaload) := ⟨by decide +kernel, rfl⟩
set_option maxRecDepth 100000 in
theorem ii_mo_mayNext_15 : sm_D prog_9_method_35_code 15 2 17 (.bipush 8) := ⟨by decide +kernel, rfl⟩
set_option maxRecDepth 100000 in
theorem ii_mo_mayNext_17 : sm_D prog_9_method_35_code 17 3 20 (.if_icmp .eq 23) := ⟨by decide +kernel, rfl⟩
set_option maxRecDepth 100000 in
theorem ii_mo_mayNext_20 : sm_D prog_9_method_35_code 20 1 21 (.aload_n 0) := ⟨by decide +kernel, rfl⟩
set_option maxRecDepth 100000 in
theorem ii_mo_mayNext_21 : sm_D prog_9_method_35_code 21 3 24 (.getfield 7) := ⟨by decide +kernel, rfl⟩
set_option maxRecDepth 100000 in
theorem ii_mo_mayNext_24 : sm_D prog_9_method_35_code 24 1 25 (.iload_n 1) := ⟨by decide +kernel, rfl⟩
set_option maxRecDepth 100000 in
theorem ii_mo_mayNext_25 : sm_D prog_9_method_35_code 25 2 27 (.bipush 26) := ⟨by decide +kernel, rfl⟩
set_option maxRecDepth 100000 in
theorem ii_mo_mayNext_27 : sm_D prog_9_method_35_code 27 1 28 (.iadd) := ⟨by decide +kernel, rfl⟩
set_option maxRecDepth 100000 in
theorem ii_mo_mayNext_28 : sm_D prog_9_method_35_code 28 1 29 (.iload_n 2) := ⟨by decide +kernel, rfl⟩
set_option maxRecDepth 100000 in
theorem ii_mo_mayNext_29 : sm_D prog_9_method_35_code 29 1 30 (.iadd) := ⟨by decide +kernel, rfl⟩
set_option maxRecDepth 100000 in
theorem ii_mo_mayNext_30 : sm_D prog_9_method_35_code 30 1 31 (.iaload) := ⟨by decide +kernel, rfl⟩
set_option maxRecDepth 100000 in
theorem ii_mo_mayNext_31 : sm_D prog_9_method_35_code 31 3 34 (.ifCond .eq 9) := ⟨by decide +kernel, rfl⟩
set_option maxRecDepth 100000 in
theorem ii_mo_mayNext_34 : sm_D prog_9_method_35_code 34 2 36 (.iload 4) := ⟨by decide +kernel, rfl⟩
set_option maxRecDepth 100000 in
theorem ii_mo_mayNext_36 : sm_D prog_9_method_35_code 36 1 37 (.iload_n 2) := ⟨by decide +kernel, rfl⟩
set_option maxRecDepth 100000 in
theorem ii_mo_mayNext_37 : sm_D prog_9_method_35_code 37 3 40 (.if_icmp .ne 5) := ⟨by decide +kernel, rfl⟩
set_option maxRecDepth 100000 in
theorem ii_mo_mayNext_40 : sm_D prog_9_method_35_code 40 1 41 (.iconst 0) := ⟨by decide +kernel, rfl⟩
set_option maxRecDepth 100000 in
theorem ii_mo_mayNext_41 : sm_D prog_9_method_35_code 41 1 42 (.ireturn) := ⟨by decide +kernel, rfl⟩
set_option maxRecDepth 100000 in
theorem ii_mo_mayNext_42 : sm_D prog_9_method_35_code 42 2 44 (.iload 4) := ⟨by decide +kernel, rfl⟩
set_option maxRecDepth 100000 in
theorem ii_mo_mayNext_44 : sm_D prog_9_method_35_code 44 2 46 (.bipush (-9)) := ⟨by decide +kernel, rfl⟩
set_option maxRecDepth 100000 in
theorem ii_mo_mayNext_46 : sm_D prog_9_method_35_code 46 3 49 (.if_icmp .eq 32) := ⟨by decide +kernel, rfl⟩
set_option maxRecDepth 100000 in
theorem ii_mo_mayNext_49 : sm_D prog_9_method_35_code 49 1 50 (.aload_n 0) := ⟨by decide +kernel, rfl⟩
set_option maxRecDepth 100000 in
theorem ii_mo_mayNext_50 : sm_D prog_9_method_35_code 50 3 53 (.getfield 7) := ⟨by decide +kernel, rfl⟩
set_option maxRecDepth 100000 in
theorem ii_mo_mayNext_53 : sm_D prog_9_method_35_code 53 1 54 (.iload_n 1) := ⟨by decide +kernel, rfl⟩
set_option maxRecDepth 100000 in
theorem ii_mo_mayNext_54 : sm_D prog_9_method_35_code 54 2 56 (.bipush 20) := ⟨by decide +kernel, rfl⟩
set_option maxRecDepth 100000 in
theorem ii_mo_mayNext_56 : sm_D prog_9_method_35_code 56 1 57 (.iadd) := ⟨by decide +kernel, rfl⟩
set_option maxRecDepth 100000 in
theorem ii_mo_mayNext_57 : sm_D prog_9_method_35_code 57 1 58 (.iload_n 2) := ⟨by decide +kernel, rfl⟩
set_option maxRecDepth 100000 in
theorem ii_mo_mayNext_58 : sm_D prog_9_method_35_code 58 1 59 (.iadd) := ⟨by decide +kernel, rfl⟩
set_option maxRecDepth 100000 in
theorem ii_mo_mayNext_59 : sm_D prog_9_method_35_code 59 1 60 (.iaload) := ⟨by decide +kernel, rfl⟩
set_option maxRecDepth 100000 in
theorem ii_mo_mayNext_60 : sm_D prog_9_method_35_code 60 1 61 (.aload_n 0) := ⟨by decide +kernel, rfl⟩
set_option maxRecDepth 100000 in
theorem ii_mo_mayNext_61 : sm_D prog_9_method_35_code 61 3 64 (.getfield 7) := ⟨by decide +kernel, rfl⟩
set_option maxRecDepth 100000 in
theorem ii_mo_mayNext_64 : sm_D prog_9_method_35_code 64 1 65 (.iload_n 1) := ⟨by decide +kernel, rfl⟩
set_option maxRecDepth 100000 in
theorem ii_mo_mayNext_65 : sm_D prog_9_method_35_code 65 2 67 (.bipush 20) := ⟨by decide +kernel, rfl⟩
set_option maxRecDepth 100000 in
theorem ii_mo_mayNext_67 : sm_D prog_9_method_35_code 67 1 68 (.iadd) := ⟨by decide +kernel, rfl⟩
set_option maxRecDepth 100000 in
theorem ii_mo_mayNext_68 : sm_D prog_9_method_35_code 68 2 70 (.iload 4) := ⟨by decide +kernel, rfl⟩
set_option maxRecDepth 100000 in
theorem ii_mo_mayNext_70 : sm_D prog_9_method_35_code 70 1 71 (.iadd) := ⟨by decide +kernel, rfl⟩
set_option maxRecDepth 100000 in
theorem ii_mo_mayNext_71 : sm_D prog_9_method_35_code 71 1 72 (.iaload) := ⟨by decide +kernel, rfl⟩
set_option maxRecDepth 100000 in
theorem ii_mo_mayNext_72 : sm_D prog_9_method_35_code 72 3 75 (.invokestatic 147) := ⟨by decide +kernel, rfl⟩
set_option maxRecDepth 100000 in
theorem ii_mo_mayNext_75 : sm_D prog_9_method_35_code 75 3 78 (.ifCond .eq 39) := ⟨by decide +kernel, rfl⟩
set_option maxRecDepth 100000 in
theorem ii_mo_mayNext_78 : sm_D prog_9_method_35_code 78 1 79 (.aload_n 0) := ⟨by decide +kernel, rfl⟩
set_option maxRecDepth 100000 in
theorem ii_mo_mayNext_79 : sm_D prog_9_method_35_code 79 3 82 (.getfield 13) := ⟨by decide +kernel, rfl⟩
set_option maxRecDepth 100000 in
theorem ii_mo_mayNext_82 : sm_D prog_9_method_35_code 82 1 83 (.iload_n 2) := ⟨by decide +kernel, rfl⟩
set_option maxRecDepth 100000 in
theorem ii_mo_mayNext_83 : sm_D prog_9_method_35_code 83 1 84 (.iaload) := ⟨by decide +kernel, rfl⟩
set_option maxRecDepth 100000 in
theorem ii_mo_mayNext_84 : sm_D prog_9_method_35_code 84 1 85 (.aload_n 0) := ⟨by decide +kernel, rfl⟩
set_option maxRecDepth 100000 in
theorem ii_mo_mayNext_85 : sm_D prog_9_method_35_code 85 3 88 (.getfield 16) := ⟨by decide +kernel, rfl⟩
set_option maxRecDepth 100000 in
theorem ii_mo_mayNext_88 : sm_D prog_9_method_35_code 88 1 89 (.iload_n 2) := ⟨by decide +kernel, rfl⟩
set_option maxRecDepth 100000 in
theorem ii_mo_mayNext_89 : sm_D prog_9_method_35_code 89 1 90 (.iaload) := ⟨by decide +kernel, rfl⟩
set_option maxRecDepth 100000 in
theorem ii_mo_mayNext_90 : sm_D prog_9_method_35_code 90 1 91 (.aload_n 0) := ⟨by decide +kernel, rfl⟩
set_option maxRecDepth 100000 in
theorem ii_mo_mayNext_91 : sm_D prog_9_method_35_code 91 1 92 (.iload_n 1) := ⟨by decide +kernel, rfl⟩
set_option maxRecDepth 100000 in
theorem ii_mo_mayNext_92 : sm_D prog_9_method_35_code 92 3 95 (.invokevirtual 150) := ⟨by decide +kernel, rfl⟩
set_option maxRecDepth 100000 in
theorem ii_mo_mayNext_95 : sm_D prog_9_method_35_code 95 1 96 (.iload_n 3) := ⟨by decide +kernel, rfl⟩
set_option maxRecDepth 100000 in
theorem ii_mo_mayNext_96 : sm_D prog_9_method_35_code 96 1 97 (.aload_n 0) := ⟨by decide +kernel, rfl⟩
set_option maxRecDepth 100000 in
theorem ii_mo_mayNext_97 : sm_D prog_9_method_35_code 97 3 100 (.getfield 7) := ⟨by decide +kernel, rfl⟩
set_option maxRecDepth 100000 in
theorem ii_mo_mayNext_100 : sm_D prog_9_method_35_code 100 1 101 (.iload_n 1) := ⟨by decide +kernel, rfl⟩
set_option maxRecDepth 100000 in
theorem ii_mo_mayNext_101 : sm_D prog_9_method_35_code 101 1 102 (.iconst 1) := ⟨by decide +kernel, rfl⟩
set_option maxRecDepth 100000 in
theorem ii_mo_mayNext_102 : sm_D prog_9_method_35_code 102 1 103 (.iadd) := ⟨by decide +kernel, rfl⟩
set_option maxRecDepth 100000 in
theorem ii_mo_mayNext_103 : sm_D prog_9_method_35_code 103 1 104 (.iaload) := ⟨by decide +kernel, rfl⟩
set_option maxRecDepth 100000 in
theorem ii_mo_mayNext_104 : sm_D prog_9_method_35_code 104 3 107 (.invokestatic 153) := ⟨by decide +kernel, rfl⟩
set_option maxRecDepth 100000 in
theorem ii_mo_mayNext_107 : sm_D prog_9_method_35_code 107 3 110 (.ifCond .eq 7) := ⟨by decide +kernel, rfl⟩
set_option maxRecDepth 100000 in
theorem ii_mo_mayNext_110 : sm_D prog_9_method_35_code 110 1 111 (.iconst 1) := ⟨by decide +kernel, rfl⟩
set_option maxRecDepth 100000 in
theorem ii_mo_mayNext_111 : sm_D prog_9_method_35_code 111 3 114 (.goto 4) := ⟨by decide +kernel, rfl⟩
set_option maxRecDepth 100000 in
theorem ii_mo_mayNext_114 : sm_D prog_9_method_35_code 114 1 115 (.iconst 0) := ⟨by decide +kernel, rfl⟩
set_option maxRecDepth 100000 in
theorem ii_mo_mayNext_115 : sm_D prog_9_method_35_code 115 1 116 (.ireturn) := ⟨by decide +kernel, rfl⟩
noncomputable def ff_mo_mayNext_78  (a1 : Int32) (a2 : Int32) (a3 : Int32) (w : sm_Mem) : sm_R := (Option.bind (sm_rd w 64 7 a2) fun x1 => (Option.bind (sm_rd w 65 7 a2) fun x2 => (sm_cI (ff_mo_lastWord (a1) w) fun x3 w4 => (Option.bind (sm_rd w4 63 5184 (a1 + (1 : Int32))) fun x5 => (sm_cI (ff_mo_isAble (x1) (x2) (x3) (a3) (x5) w4) fun x6 w7 => (if x6 = (0 : Int32) then (some (.int (0 : Int32), w7)) else (some (.int (1 : Int32), w7))))))))
set_option maxHeartbeats 4000000 in
set_option maxRecDepth 100000 in
theorem ss_mo_mayNext_78 {E : Nat × (Nat → Int32)}  (a1 : Int32) (a2 : Int32) (a3 : Int32) (w : sm_Mem) : sm_Sim E (mi_mo_mayNext) 78 [some (.ref 62), some (.int a1), some (.int a2), some (.int a3), none] [] w (ff_mo_mayNext_78  a1 a2 a3 w) := by
  unfold ff_mo_mayNext_78
  refine sm_aload_n ii_mo_mayNext_78 rfl ?_
  refine sm_getR 64 ii_mo_mayNext_79 fl_mo_13 (k := 62) rfl ?_
  refine sm_iload_n ii_mo_mayNext_82 rfl ?_
  refine sm_iald ii_mo_mayNext_83 (k := 64) rfl (fun x1 => ?_)
  refine sm_aload_n ii_mo_mayNext_84 rfl ?_
  refine sm_getR 65 ii_mo_mayNext_85 fl_mo_16 (k := 62) rfl ?_
  refine sm_iload_n ii_mo_mayNext_88 rfl ?_
  refine sm_iald ii_mo_mayNext_89 (k := 65) rfl (fun x2 => ?_)
  refine sm_aload_n ii_mo_mayNext_90 rfl ?_
  refine sm_iload_n ii_mo_mayNext_91 rfl ?_
  refine sm_cvI [.int a1] [.int x2, .int x1] rfl ii_mo_mayNext_92 ml_mo_150 (mf_mo_lastWord) (mv_mo_lastWord) (Nat.le_of_ble_eq_true rfl) rfl 7 rfl rfl rfl rfl (mc_mo_lastWord (a1) w) (fun x3 w4 => ?_)
  refine sm_iload_n ii_mo_mayNext_95 rfl ?_
  refine sm_aload_n ii_mo_mayNext_96 rfl ?_
  refine sm_getR 63 ii_mo_mayNext_97 fl_mo_7 (k := 62) rfl ?_
  refine sm_iload_n ii_mo_mayNext_100 rfl ?_
  refine sm_iconst (1 : Int32) ii_mo_mayNext_101 (by decide) ?_
  refine sm_iadd ii_mo_mayNext_102 ?_
  refine sm_iald ii_mo_mayNext_103 (k := 63) rfl (fun x5 => ?_)
  refine sm_csI [.int x1, .int x2, .int x3, .int a3, .int x5] [] rfl ii_mo_mayNext_104 ml_mo_153 (mf_mo_isAble) (mv_mo_isAble) (Nat.le_of_ble_eq_true rfl) rfl rfl rfl (mc_mo_isAble (x1) (x2) (x3) (a3) (x5) w4) (fun x6 w7 => ?_)
  refine sm_if_eq 114 ii_mo_mayNext_107 (by decide) ?_ ?_
  · refine sm_iconst (0 : Int32) ii_mo_mayNext_114 (by decide) ?_
    exact sm_zret1 ii_mo_mayNext_115 rfl (by decide)
  · refine sm_iconst (1 : Int32) ii_mo_mayNext_110 (by decide) ?_
    refine sm_goto 115 ii_mo_mayNext_111 (by decide) ?_
    exact sm_zret1 ii_mo_mayNext_115 rfl (by decide)
noncomputable def ff_mo_mayNext  (a1 : Int32) (a2 : Int32) (a3 : Int32) (w : sm_Mem) : sm_R := (sm_cI (ff_mo_lastWho (a1) w) fun x8 w9 => (Option.bind (sm_rd w9 63 5184 (a1 + (2 : Int32))) fun x10 => (if x10 = (8 : Int32) then (some (.int (0 : Int32), w9)) else (Option.bind (sm_rd w9 63 5184 ((a1 + (26 : Int32)) + a2)) fun x11 => (if x11 = (0 : Int32) then (some (.int (0 : Int32), w9)) else (if x8 = a2 then (some (.int (0 : Int32), w9)) else (if x8 = (-9 : Int32) then ff_mo_mayNext_78 (a1) (a2) (a3) w9 else (Option.bind (sm_rd w9 63 5184 ((a1 + (20 : Int32)) + a2)) fun x12 => (Option.bind (sm_rd w9 63 5184 ((a1 + (20 : Int32)) + x8)) fun x13 => (sm_cI (ff_mo_areNear (x12) (x13) w9) fun x14 w15 => (if x14 = (0 : Int32) then (some (.int (0 : Int32), w15)) else ff_mo_mayNext_78 (a1) (a2) (a3) w15)))))))))))
set_option maxHeartbeats 4000000 in
set_option maxRecDepth 100000 in
theorem ss_mo_mayNext_0 {E : Nat × (Nat → Int32)}  (a1 : Int32) (a2 : Int32) (a3 : Int32) (w : sm_Mem) : sm_Sim E (mi_mo_mayNext) 0 [some (.ref 62), some (.int a1), some (.int a2), some (.int a3), none] [] w (ff_mo_mayNext  a1 a2 a3 w) := by
  unfold ff_mo_mayNext
  refine sm_aload_n ii_mo_mayNext_0 rfl ?_
  refine sm_iload_n ii_mo_mayNext_1 rfl ?_
  refine sm_cvI [.int a1] [] rfl ii_mo_mayNext_2 ml_mo_144 (mf_mo_lastWho) (mv_mo_lastWho) (Nat.le_of_ble_eq_true rfl) rfl 7 rfl rfl rfl rfl (mc_mo_lastWho (a1) w) (fun x8 w9 => ?_)
  refine sm_istore [some (.ref 62), some (.int a1), some (.int a2), some (.int a3), some (.int x8)] ii_mo_mayNext_5 rfl rfl ?_
  refine sm_aload_n ii_mo_mayNext_7 rfl ?_
  refine sm_getR 63 ii_mo_mayNext_8 fl_mo_7 (k := 62) rfl ?_
  refine sm_iload_n ii_mo_mayNext_11 rfl ?_
  refine sm_iconst (2 : Int32) ii_mo_mayNext_12 (by decide) ?_
  refine sm_iadd ii_mo_mayNext_13 ?_
  refine sm_iald ii_mo_mayNext_14 (k := 63) rfl (fun x10 => ?_)
  refine sm_bipush (8 : Int32) ii_mo_mayNext_15 (by decide) ?_
  refine sm_icmp_eq 40 ii_mo_mayNext_17 (by decide) ?_ ?_
  · refine sm_iconst (0 : Int32) ii_mo_mayNext_40 (by decide) ?_
    exact sm_zret1 ii_mo_mayNext_41 rfl (by decide)
  · refine sm_aload_n ii_mo_mayNext_20 rfl ?_
    refine sm_getR 63 ii_mo_mayNext_21 fl_mo_7 (k := 62) rfl ?_
    refine sm_iload_n ii_mo_mayNext_24 rfl ?_
    refine sm_bipush (26 : Int32) ii_mo_mayNext_25 (by decide) ?_
    refine sm_iadd ii_mo_mayNext_27 ?_
    refine sm_iload_n ii_mo_mayNext_28 rfl ?_
    refine sm_iadd ii_mo_mayNext_29 ?_
    refine sm_iald ii_mo_mayNext_30 (k := 63) rfl (fun x11 => ?_)
    refine sm_if_eq 40 ii_mo_mayNext_31 (by decide) ?_ ?_
    · refine sm_iconst (0 : Int32) ii_mo_mayNext_40 (by decide) ?_
      exact sm_zret1 ii_mo_mayNext_41 rfl (by decide)
    · refine sm_iload ii_mo_mayNext_34 rfl ?_
      refine sm_iload_n ii_mo_mayNext_36 rfl ?_
      refine sm_icmp_ne 42 ii_mo_mayNext_37 (by decide) ?_ ?_
      · refine sm_iconst (0 : Int32) ii_mo_mayNext_40 (by decide) ?_
        exact sm_zret1 ii_mo_mayNext_41 rfl (by decide)
      · refine sm_iload ii_mo_mayNext_42 rfl ?_
        refine sm_bipush (-9 : Int32) ii_mo_mayNext_44 (by decide) ?_
        refine sm_icmp_eq 78 ii_mo_mayNext_46 (by decide) ?_ ?_
        · refine sm_msk [true, true, true, true, false] [some (.ref 62), some (.int a1), some (.int a2), some (.int a3), none] rfl ?_
          exact ss_mo_mayNext_78 (a1) (a2) (a3) w9
        · refine sm_aload_n ii_mo_mayNext_49 rfl ?_
          refine sm_getR 63 ii_mo_mayNext_50 fl_mo_7 (k := 62) rfl ?_
          refine sm_iload_n ii_mo_mayNext_53 rfl ?_
          refine sm_bipush (20 : Int32) ii_mo_mayNext_54 (by decide) ?_
          refine sm_iadd ii_mo_mayNext_56 ?_
          refine sm_iload_n ii_mo_mayNext_57 rfl ?_
          refine sm_iadd ii_mo_mayNext_58 ?_
          refine sm_iald ii_mo_mayNext_59 (k := 63) rfl (fun x12 => ?_)
          refine sm_aload_n ii_mo_mayNext_60 rfl ?_
          refine sm_getR 63 ii_mo_mayNext_61 fl_mo_7 (k := 62) rfl ?_
          refine sm_iload_n ii_mo_mayNext_64 rfl ?_
          refine sm_bipush (20 : Int32) ii_mo_mayNext_65 (by decide) ?_
          refine sm_iadd ii_mo_mayNext_67 ?_
          refine sm_iload ii_mo_mayNext_68 rfl ?_
          refine sm_iadd ii_mo_mayNext_70 ?_
          refine sm_iald ii_mo_mayNext_71 (k := 63) rfl (fun x13 => ?_)
          refine sm_csI [.int x12, .int x13] [] rfl ii_mo_mayNext_72 ml_mo_147 (mf_mo_areNear) (mv_mo_areNear) (Nat.le_of_ble_eq_true rfl) rfl rfl rfl (mc_mo_areNear (x12) (x13) w9) (fun x14 w15 => ?_)
          refine sm_if_eq 114 ii_mo_mayNext_75 (by decide) ?_ ?_
          · refine sm_iconst (0 : Int32) ii_mo_mayNext_114 (by decide) ?_
            exact sm_zret1 ii_mo_mayNext_115 rfl (by decide)
          · refine sm_msk [true, true, true, true, false] [some (.ref 62), some (.int a1), some (.int a2), some (.int a3), none] rfl ?_
            exact ss_mo_mayNext_78 (a1) (a2) (a3) w15
set_option maxHeartbeats 4000000 in
set_option maxRecDepth 100000 in
theorem mc_mo_mayNext (a1 : Int32) (a2 : Int32) (a3 : Int32) (w : sm_Mem) : sm_MC mi_mo_mayNext [.ref 62, .int a1, .int a2, .int a3] w (ff_mo_mayNext a1 a2 a3 w) := sm_MC_of (0, fun _ => 0) (by decide +kernel) (by decide) rfl (Nat.le_of_ble_eq_true rfl) (ss_mo_mayNext_0 a1 a2 a3 w)
abbrev mi_mo_whatCan : sm_MI := (⟨"HerOrdersModel", "whatCan", "(II)I"⟩, prog_9_method_37_code, 5, (some .int), 4)
set_option maxRecDepth 100000 in
theorem mf_mo_whatCan : sm_MF mi_mo_whatCan 2 := ⟨List.mem_of_getElem? (i := 1168) (by decide +kernel), List.mem_of_getElem? (i := 132) (by decide +kernel), ⟨by decide, by decide⟩, by decide +kernel⟩
set_option maxRecDepth 100000 in
theorem mv_mo_whatCan : sm_MFV mi_mo_whatCan := ⟨List.mem_of_getElem? (i := 1167) (by decide +kernel), List.mem_of_getElem? (i := 89) (by decide +kernel)⟩
set_option maxRecDepth 100000 in
theorem ii_mo_whatCan_0 : sm_D prog_9_method_37_code 0 1 1 (.iconst 0) := ⟨by decide +kernel, rfl⟩
set_option maxRecDepth 100000 in
theorem ii_mo_whatCan_1 : sm_D prog_9_method_37_code 1 1 2 (.istore_n 3) := ⟨by decide +kernel, rfl⟩
set_option maxRecDepth 100000 in
theorem ii_mo_whatCan_2 : sm_D prog_9_method_37_code 2 1 3 (.iconst 0) := ⟨by decide +kernel, rfl⟩
set_option maxRecDepth 100000 in
theorem ii_mo_whatCan_3 : sm_D prog_9_method_37_code 3 2 5 (.istore 4) := ⟨by decide +kernel, rfl⟩
set_option maxRecDepth 100000 in
theorem ii_mo_whatCan_5 : sm_D prog_9_method_37_code 5 2 7 (.iload 4) := ⟨by decide +kernel, rfl⟩
set_option maxRecDepth 100000 in
theorem ii_mo_whatCan_7 : sm_D prog_9_method_37_code 7 2 9 (.bipush 6) := ⟨by decide +kernel, rfl⟩
set_option maxRecDepth 100000 in
theorem ii_mo_whatCan_9 : sm_D prog_9_method_37_code 9 3 12 (.if_icmp .ge 31) := ⟨by decide +kernel, rfl⟩
set_option maxRecDepth 100000 in
theorem ii_mo_whatCan_12 : sm_D prog_9_method_37_code 12 1 13 (.iload_n 3) := ⟨by decide +kernel, rfl⟩
set_option maxRecDepth 100000 in
theorem ii_mo_whatCan_13 : sm_D prog_9_method_37_code 13 1 14 (.aload_n 0) := ⟨by decide +kernel, rfl⟩
set_option maxRecDepth 100000 in
theorem ii_mo_whatCan_14 : sm_D prog_9_method_37_code 14 1 15 (.iload_n 1) := ⟨by decide +kernel, rfl⟩
set_option maxRecDepth 100000 in
theorem ii_mo_whatCan_15 : sm_D prog_9_method_37_code 15 1 16 (.iload_n 2) := ⟨by decide +kernel, rfl⟩
set_option maxRecDepth 100000 in
theorem ii_mo_whatCan_16 : sm_D prog_9_method_37_code 16 2 18 (.iload 4) := ⟨by decide +kernel, rfl⟩
set_option maxRecDepth 100000 in
theorem ii_mo_whatCan_18 : sm_D prog_9_method_37_code 18 3 21 (.invokevirtual 157) := ⟨by decide +kernel, rfl⟩
set_option maxRecDepth 100000 in
theorem ii_mo_whatCan_21 : sm_D prog_9_method_37_code 21 3 24 (.ifCond .eq 10) := ⟨by decide +kernel, rfl⟩
set_option maxRecDepth 100000 in
theorem ii_mo_whatCan_24 : sm_D prog_9_method_37_code 24 1 25 (.iconst 1) := ⟨by decide +kernel, rfl⟩
set_option maxRecDepth 100000 in
theorem ii_mo_whatCan_25 : sm_D prog_9_method_37_code 25 2 27 (.iload 4) := ⟨by decide +kernel, rfl⟩
set_option maxRecDepth 100000 in
theorem ii_mo_whatCan_27 : sm_D prog_9_method_37_code 27 1 28 (.ishl) := ⟨by decide +kernel, rfl⟩
set_option maxRecDepth 100000 in
theorem ii_mo_whatCan_28 : sm_D prog_9_method_37_code 28 3 31 (.goto 4) := ⟨by decide +kernel, rfl⟩
set_option maxRecDepth 100000 in
theorem ii_mo_whatCan_31 : sm_D prog_9_method_37_code 31 1 32 (.iconst 0) := ⟨by decide +kernel, rfl⟩
set_option maxRecDepth 100000 in
theorem ii_mo_whatCan_32 : sm_D prog_9_method_37_code 32 1 33 (.ior) := ⟨by decide +kernel, rfl⟩
set_option maxRecDepth 100000 in
theorem ii_mo_whatCan_33 : sm_D prog_9_method_37_code 33 1 34 (.istore_n 3) := ⟨by decide +kernel, rfl⟩
set_option maxRecDepth 100000 in
theorem ii_mo_whatCan_34 : sm_D prog_9_method_37_code 34 3 37 (.iinc 4 1) := ⟨by decide +kernel, rfl⟩
set_option maxRecDepth 100000 in
theorem ii_mo_whatCan_37 : sm_D prog_9_method_37_code 37 3 40 (.goto (-32)) := ⟨by decide +kernel, rfl⟩
set_option maxRecDepth 100000 in
theorem ii_mo_whatCan_40 : sm_D prog_9_method_37_code 40 1 41 (.iload_n 3) := ⟨by decide +kernel, rfl⟩
set_option maxRecDepth 100000 in
theorem ii_mo_whatCan_41 : sm_D prog_9_method_37_code 41 1 42 (.ireturn) := ⟨by decide +kernel, rfl⟩
noncomputable def ff_mo_whatCan_32 (self5 : Int32 → Int32 → Int32 → Int32 → sm_Mem → sm_R) (a1 : Int32) (a2 : Int32) (a4 : Int32) (b0 : Int32) (b1 : Int32) (w : sm_Mem) : sm_R := self5 (a1) (a2) ((b0 ||| b1)) ((a4 + (1 : Int32))) w
set_option maxHeartbeats 4000000 in
set_option maxRecDepth 100000 in
theorem ss_mo_whatCan_32 {E : Nat × (Nat → Int32)} (self5 : Int32 → Int32 → Int32 → Int32 → sm_Mem → sm_R) (hself5 : ∀ (a1 : Int32) (a2 : Int32) (a3 : Int32) (a4 : Int32) (w : sm_Mem), sm_Sim E (mi_mo_whatCan) 5 [some (.ref 62), some (.int a1), some (.int a2), some (.int a3), some (.int a4)] [] w (self5 a1 a2 a3 a4 w)) (a1 : Int32) (a2 : Int32) (a4 : Int32) (b0 : Int32) (b1 : Int32) (w : sm_Mem) : sm_Sim E (mi_mo_whatCan) 32 [some (.ref 62), some (.int a1), some (.int a2), none, some (.int a4)] [.int b1, .int b0] w (ff_mo_whatCan_32 self5 a1 a2 a4 b0 b1 w) := by
  unfold ff_mo_whatCan_32
  refine sm_ior ii_mo_whatCan_32 ?_
  refine sm_istore_n [some (.ref 62), some (.int a1), some (.int a2), some (.int (b0 ||| b1)), some (.int a4)] ii_mo_whatCan_33 rfl rfl ?_
  refine sm_iinc (a4 + (1 : Int32)) [some (.ref 62), some (.int a1), some (.int a2), some (.int (b0 ||| b1)), some (.int (a4 + (1 : Int32)))] ii_mo_whatCan_34 rfl rfl rfl rfl ?_
  refine sm_goto 5 ii_mo_whatCan_37 (by decide) ?_
  exact hself5 (a1) (a2) ((b0 ||| b1)) ((a4 + (1 : Int32))) w
noncomputable def ff_mo_whatCan_5_b  (self5 : Int32 → Int32 → Int32 → Int32 → sm_Mem → sm_R) (a1 : Int32) (a2 : Int32) (a3 : Int32) (a4 : Int32) (w : sm_Mem) : sm_R := (if (6 : Int32) ≤ a4 then (some (.int a3, w)) else (sm_cI (ff_mo_mayNext (a1) (a2) (a4) w) fun x1 w2 => (if x1 = (0 : Int32) then ff_mo_whatCan_32 self5 (a1) (a2) (a4) (a3) ((0 : Int32)) w2 else ff_mo_whatCan_32 self5 (a1) (a2) (a4) (a3) (((1 : Int32) <<< (a4 &&& (31 : Int32)))) w2)))
noncomputable def ff_mo_whatCan_5_f  : Nat → Int32 → Int32 → Int32 → Int32 → sm_Mem → sm_R
  | 0, _, _, _, _, _ => none
  | n + 1, a1, a2, a3, a4, w => ff_mo_whatCan_5_b  (ff_mo_whatCan_5_f  n) a1 a2 a3 a4 w
noncomputable def ff_mo_whatCan_5  (a1 : Int32) (a2 : Int32) (a3 : Int32) (a4 : Int32) (w : sm_Mem) : sm_R := ff_mo_whatCan_5_f  sm_N a1 a2 a3 a4 w
set_option maxHeartbeats 4000000 in
set_option maxRecDepth 100000 in
theorem ss_mo_whatCan_5_b {E : Nat × (Nat → Int32)}  (self5 : Int32 → Int32 → Int32 → Int32 → sm_Mem → sm_R) (hself5 : ∀ (a1 : Int32) (a2 : Int32) (a3 : Int32) (a4 : Int32) (w : sm_Mem), sm_Sim E (mi_mo_whatCan) 5 [some (.ref 62), some (.int a1), some (.int a2), some (.int a3), some (.int a4)] [] w (self5 a1 a2 a3 a4 w)) (a1 : Int32) (a2 : Int32) (a3 : Int32) (a4 : Int32) (w : sm_Mem) : sm_Sim E (mi_mo_whatCan) 5 [some (.ref 62), some (.int a1), some (.int a2), some (.int a3), some (.int a4)] [] w (ff_mo_whatCan_5_b  self5 a1 a2 a3 a4 w) := by
  unfold ff_mo_whatCan_5_b
  refine sm_iload ii_mo_whatCan_5 rfl ?_
  refine sm_bipush (6 : Int32) ii_mo_whatCan_7 (by decide) ?_
  refine sm_icmp_ge 40 ii_mo_whatCan_9 (by decide) ?_ ?_
  · refine sm_iload_n ii_mo_whatCan_40 rfl ?_
    exact sm_iret ii_mo_whatCan_41 rfl
  · refine sm_iload_n ii_mo_whatCan_12 rfl ?_
    refine sm_aload_n ii_mo_whatCan_13 rfl ?_
    refine sm_iload_n ii_mo_whatCan_14 rfl ?_
    refine sm_iload_n ii_mo_whatCan_15 rfl ?_
    refine sm_iload ii_mo_whatCan_16 rfl ?_
    refine sm_cvI [.int a1, .int a2, .int a4] [.int a3] rfl ii_mo_whatCan_18 ml_mo_157 (mf_mo_mayNext) (mv_mo_mayNext) (Nat.le_of_ble_eq_true rfl) rfl 7 rfl rfl rfl rfl (mc_mo_mayNext (a1) (a2) (a4) w) (fun x1 w2 => ?_)
    refine sm_if_eq 31 ii_mo_whatCan_21 (by decide) ?_ ?_
    · refine sm_iconst (0 : Int32) ii_mo_whatCan_31 (by decide) ?_
      refine sm_msk [true, true, true, false, true] [some (.ref 62), some (.int a1), some (.int a2), none, some (.int a4)] rfl ?_
      exact ss_mo_whatCan_32 self5 hself5 (a1) (a2) (a4) (a3) ((0 : Int32)) w2
    · refine sm_iconst (1 : Int32) ii_mo_whatCan_24 (by decide) ?_
      refine sm_iload ii_mo_whatCan_25 rfl ?_
      refine sm_ishl ii_mo_whatCan_27 ?_
      refine sm_goto 32 ii_mo_whatCan_28 (by decide) ?_
      refine sm_msk [true, true, true, false, true] [some (.ref 62), some (.int a1), some (.int a2), none, some (.int a4)] rfl ?_
      exact ss_mo_whatCan_32 self5 hself5 (a1) (a2) (a4) (a3) (((1 : Int32) <<< (a4 &&& (31 : Int32)))) w2
set_option maxHeartbeats 4000000 in
set_option maxRecDepth 100000 in
theorem ss_mo_whatCan_5_f {E : Nat × (Nat → Int32)}  : ∀ (n : Nat) (a1 : Int32) (a2 : Int32) (a3 : Int32) (a4 : Int32) (w : sm_Mem), sm_Sim E (mi_mo_whatCan) 5 [some (.ref 62), some (.int a1), some (.int a2), some (.int a3), some (.int a4)] [] w (ff_mo_whatCan_5_f  n a1 a2 a3 a4 w)
  | 0, _, _, _, _, _ => fun _ _ h => by cases h
  | n + 1, a1, a2, a3, a4, w => ss_mo_whatCan_5_b  _ (ss_mo_whatCan_5_f  n) a1 a2 a3 a4 w
set_option maxHeartbeats 4000000 in
set_option maxRecDepth 100000 in
theorem ss_mo_whatCan_5 {E : Nat × (Nat → Int32)}  (a1 : Int32) (a2 : Int32) (a3 : Int32) (a4 : Int32) (w : sm_Mem) : sm_Sim E (mi_mo_whatCan) 5 [some (.ref 62), some (.int a1), some (.int a2), some (.int a3), some (.int a4)] [] w (ff_mo_whatCan_5  a1 a2 a3 a4 w) := ss_mo_whatCan_5_f  sm_N a1 a2 a3 a4 w
noncomputable def ff_mo_whatCan  (a1 : Int32) (a2 : Int32) (w : sm_Mem) : sm_R := ff_mo_whatCan_5 (a1) (a2) ((0 : Int32)) ((0 : Int32)) w
set_option maxHeartbeats 4000000 in
set_option maxRecDepth 100000 in
theorem ss_mo_whatCan_0 {E : Nat × (Nat → Int32)}  (a1 : Int32) (a2 : Int32) (w : sm_Mem) : sm_Sim E (mi_mo_whatCan) 0 [some (.ref 62), some (.int a1), some (.int a2), none, none] [] w (ff_mo_whatCan  a1 a2 w) := by
  unfold ff_mo_whatCan
  refine sm_iconst (0 : Int32) ii_mo_whatCan_0 (by decide) ?_
  refine sm_istore_n [some (.ref 62), some (.int a1), some (.int a2), some (.int (0 : Int32)), none] ii_mo_whatCan_1 rfl rfl ?_
  refine sm_iconst (0 : Int32) ii_mo_whatCan_2 (by decide) ?_
  refine sm_istore [some (.ref 62), some (.int a1), some (.int a2), some (.int (0 : Int32)), some (.int (0 : Int32))] ii_mo_whatCan_3 rfl rfl ?_
  exact ss_mo_whatCan_5 (a1) (a2) ((0 : Int32)) ((0 : Int32)) w
set_option maxHeartbeats 4000000 in
set_option maxRecDepth 100000 in
theorem mc_mo_whatCan (a1 : Int32) (a2 : Int32) (w : sm_Mem) : sm_MC mi_mo_whatCan [.ref 62, .int a1, .int a2] w (ff_mo_whatCan a1 a2 w) := sm_MC_of (0, fun _ => 0) (by decide +kernel) (by decide) rfl (Nat.le_of_ble_eq_true rfl) (ss_mo_whatCan_0 a1 a2 w)
abbrev mi_mo_othersWhoCan : sm_MI := (⟨"HerOrdersModel", "othersWhoCan", "(I)I"⟩, prog_9_method_42_code, 4, (some .int), 5)
set_option maxRecDepth 100000 in
theorem mf_mo_othersWhoCan : sm_MF mi_mo_othersWhoCan 1 := ⟨List.mem_of_getElem? (i := 1164) (by decide +kernel), List.mem_of_getElem? (i := 132) (by decide +kernel), ⟨by decide, by decide⟩, by decide +kernel⟩
set_option maxRecDepth 100000 in
theorem mv_mo_othersWhoCan : sm_MFV mi_mo_othersWhoCan := ⟨List.mem_of_getElem? (i := 1163) (by decide +kernel), List.mem_of_getElem? (i := 88) (by decide +kernel)⟩
set_option maxRecDepth 100000 in
theorem ii_mo_othersWhoCan_0 : sm_D prog_9_method_42_code 0 1 1 (.iconst 0) := ⟨by decide +kernel, rfl⟩
set_option maxRecDepth 100000 in
theorem ii_mo_othersWhoCan_1 : sm_D prog_9_method_42_code 1 1 2 (.istore_n 2) := ⟨by decide +kernel, rfl⟩
set_option maxRecDepth 100000 in
theorem ii_mo_othersWhoCan_2 : sm_D prog_9_method_42_code 2 1 3 (.iconst 0) := ⟨by decide +kernel, rfl⟩
set_option maxRecDepth 100000 in
theorem ii_mo_othersWhoCan_3 : sm_D prog_9_method_42_code 3 1 4 (.istore_n 3) := ⟨by decide +kernel, rfl⟩
set_option maxRecDepth 100000 in
theorem ii_mo_othersWhoCan_4 : sm_D prog_9_method_42_code 4 1 5 (.iload_n 3) := ⟨by decide +kernel, rfl⟩
set_option maxRecDepth 100000 in
theorem ii_mo_othersWhoCan_5 : sm_D prog_9_method_42_code 5 1 6 (.aload_n 0) := ⟨by decide +kernel, rfl⟩
set_option maxRecDepth 100000 in
theorem ii_mo_othersWhoCan_6 : sm_D prog_9_method_42_code 6 3 9 (.getfield 135) := ⟨by decide +kernel, rfl⟩
set_option maxRecDepth 100000 in
theorem ii_mo_othersWhoCan_9 : sm_D prog_9_method_42_code 9 3 12 (.if_icmp .ge 31) := ⟨by decide +kernel, rfl⟩
set_option maxRecDepth 100000 in
theorem ii_mo_othersWhoCan_12 : sm_D prog_9_method_42_code 12 1 13 (.iload_n 2) := ⟨by decide +kernel, rfl⟩
set_option maxRecDepth 100000 in
theorem ii_mo_othersWhoCan_13 : sm_D prog_9_method_42_code 13 1 14 (.iload_n 3) := ⟨by decide +kernel, rfl⟩
set_option maxRecDepth 100000 in
theorem ii_mo_othersWhoCan_14 : sm_D prog_9_method_42_code 14 1 15 (.iload_n 1) := ⟨by decide +kernel, rfl⟩
set_option maxRecDepth 100000 in
theorem ii_mo_othersWhoCan_15 : sm_D prog_9_method_42_code 15 3 18 (.if_icmp .eq 16) := ⟨by decide +kernel, rfl⟩
set_option maxRecDepth 100000 in
theorem ii_mo_othersWhoCan_18 : sm_D prog_9_method_42_code 18 1 19 (.aload_n 0) := ⟨by decide +kernel, rfl⟩
set_option maxRecDepth 100000 in
theorem ii_mo_othersWhoCan_19 : sm_D prog_9_method_42_code 19 1 20 (.iconst 0) := ⟨by decide +kernel, rfl⟩
set_option maxRecDepth 100000 in
theorem ii_mo_othersWhoCan_20 : sm_D prog_9_method_42_code 20 1 21 (.iload_n 3) := ⟨by decide +kernel, rfl⟩
set_option maxRecDepth 100000 in
theorem ii_mo_othersWhoCan_21 : sm_D prog_9_method_42_code 21 3 24 (.invokevirtual 166) := ⟨by decide +kernel, rfl⟩
set_option maxRecDepth 100000 in
theorem ii_mo_othersWhoCan_24 : sm_D prog_9_method_42_code 24 3 27 (.ifCond .eq 7) := ⟨by decide +kernel, rfl⟩
set_option maxRecDepth 100000 in
theorem ii_mo_othersWhoCan_27 : sm_D prog_9_method_42_code 27 1 28 (.iconst 1) := ⟨by decide +kernel, rfl⟩
set_option maxRecDepth 100000 in
theorem ii_mo_othersWhoCan_28 : sm_D prog_9_method_42_code 28 3 31 (.goto 4) := ⟨by decide +kernel, rfl⟩
set_option maxRecDepth 100000 in
theorem ii_mo_othersWhoCan_31 : sm_D prog_9_method_42_code 31 1 32 (.iconst 0) := ⟨by decide +kernel, rfl⟩
set_option maxRecDepth 100000 in
theorem ii_mo_othersWhoCan_32 : sm_D prog_9_method_42_code 32 1 33 (.iadd) := ⟨by decide +kernel, rfl⟩
set_option maxRecDepth 100000 in
theorem ii_mo_othersWhoCan_33 : sm_D prog_9_method_42_code 33 1 34 (.istore_n 2) := ⟨by decide +kernel, rfl⟩
set_option maxRecDepth 100000 in
theorem ii_mo_othersWhoCan_34 : sm_D prog_9_method_42_code 34 3 37 (.iinc 3 1) := ⟨by decide +kernel, rfl⟩
set_option maxRecDepth 100000 in
theorem ii_mo_othersWhoCan_37 : sm_D prog_9_method_42_code 37 3 40 (.goto (-33)) := ⟨by decide +kernel, rfl⟩
set_option maxRecDepth 100000 in
theorem ii_mo_othersWhoCan_40 : sm_D prog_9_method_42_code 40 1 41 (.iload_n 2) := ⟨by decide +kernel, rfl⟩
set_option maxRecDepth 100000 in
theorem ii_mo_othersWhoCan_41 : sm_D prog_9_method_42_code 41 1 42 (.ireturn) := ⟨by decide +kernel, rfl⟩
noncomputable def ff_mo_othersWhoCan_32 (self4 : Int32 → Int32 → Int32 → sm_Mem → sm_R) (a1 : Int32) (a3 : Int32) (b0 : Int32) (b1 : Int32) (w : sm_Mem) : sm_R := self4 (a1) ((b0 + b1)) ((a3 + (1 : Int32))) w
set_option maxHeartbeats 4000000 in
set_option maxRecDepth 100000 in
theorem ss_mo_othersWhoCan_32 {E : Nat × (Nat → Int32)} (self4 : Int32 → Int32 → Int32 → sm_Mem → sm_R) (hself4 : ∀ (a1 : Int32) (a2 : Int32) (a3 : Int32) (w : sm_Mem), sm_Sim E (mi_mo_othersWhoCan) 4 [some (.ref 62), some (.int a1), some (.int a2), some (.int a3)] [] w (self4 a1 a2 a3 w)) (a1 : Int32) (a3 : Int32) (b0 : Int32) (b1 : Int32) (w : sm_Mem) : sm_Sim E (mi_mo_othersWhoCan) 32 [some (.ref 62), some (.int a1), none, some (.int a3)] [.int b1, .int b0] w (ff_mo_othersWhoCan_32 self4 a1 a3 b0 b1 w) := by
  unfold ff_mo_othersWhoCan_32
  refine sm_iadd ii_mo_othersWhoCan_32 ?_
  refine sm_istore_n [some (.ref 62), some (.int a1), some (.int (b0 + b1)), some (.int a3)] ii_mo_othersWhoCan_33 rfl rfl ?_
  refine sm_iinc (a3 + (1 : Int32)) [some (.ref 62), some (.int a1), some (.int (b0 + b1)), some (.int (a3 + (1 : Int32)))] ii_mo_othersWhoCan_34 rfl rfl rfl rfl ?_
  refine sm_goto 4 ii_mo_othersWhoCan_37 (by decide) ?_
  exact hself4 (a1) ((b0 + b1)) ((a3 + (1 : Int32))) w
noncomputable def ff_mo_othersWhoCan_31 (self4 : Int32 → Int32 → Int32 → sm_Mem → sm_R) (a1 : Int32) (a3 : Int32) (b0 : Int32) (w : sm_Mem) : sm_R := ff_mo_othersWhoCan_32 self4 (a1) (a3) (b0) ((0 : Int32)) w
set_option maxHeartbeats 4000000 in
set_option maxRecDepth 100000 in
theorem ss_mo_othersWhoCan_31 {E : Nat × (Nat → Int32)} (self4 : Int32 → Int32 → Int32 → sm_Mem → sm_R) (hself4 : ∀ (a1 : Int32) (a2 : Int32) (a3 : Int32) (w : sm_Mem), sm_Sim E (mi_mo_othersWhoCan) 4 [some (.ref 62), some (.int a1), some (.int a2), some (.int a3)] [] w (self4 a1 a2 a3 w)) (a1 : Int32) (a3 : Int32) (b0 : Int32) (w : sm_Mem) : sm_Sim E (mi_mo_othersWhoCan) 31 [some (.ref 62), some (.int a1), none, some (.int a3)] [.int b0] w (ff_mo_othersWhoCan_31 self4 a1 a3 b0 w) := by
  unfold ff_mo_othersWhoCan_31
  refine sm_iconst (0 : Int32) ii_mo_othersWhoCan_31 (by decide) ?_
  exact ss_mo_othersWhoCan_32 self4 hself4 (a1) (a3) (b0) ((0 : Int32)) w
noncomputable def ff_mo_othersWhoCan_4_b  (self4 : Int32 → Int32 → Int32 → sm_Mem → sm_R) (a1 : Int32) (a2 : Int32) (a3 : Int32) (w : sm_Mem) : sm_R := (if (w.1 62 1) ≤ a3 then (some (.int a2, w)) else (if a3 = a1 then ff_mo_othersWhoCan_31 self4 (a1) (a3) (a2) w else (sm_cI (ff_mo_whatCan ((0 : Int32)) (a3) w) fun x1 w2 => (if x1 = (0 : Int32) then ff_mo_othersWhoCan_31 self4 (a1) (a3) (a2) w2 else ff_mo_othersWhoCan_32 self4 (a1) (a3) (a2) ((1 : Int32)) w2))))
noncomputable def ff_mo_othersWhoCan_4_f  : Nat → Int32 → Int32 → Int32 → sm_Mem → sm_R
  | 0, _, _, _, _ => none
  | n + 1, a1, a2, a3, w => ff_mo_othersWhoCan_4_b  (ff_mo_othersWhoCan_4_f  n) a1 a2 a3 w
noncomputable def ff_mo_othersWhoCan_4  (a1 : Int32) (a2 : Int32) (a3 : Int32) (w : sm_Mem) : sm_R := ff_mo_othersWhoCan_4_f  sm_N a1 a2 a3 w
set_option maxHeartbeats 4000000 in
set_option maxRecDepth 100000 in
theorem ss_mo_othersWhoCan_4_b {E : Nat × (Nat → Int32)}  (self4 : Int32 → Int32 → Int32 → sm_Mem → sm_R) (hself4 : ∀ (a1 : Int32) (a2 : Int32) (a3 : Int32) (w : sm_Mem), sm_Sim E (mi_mo_othersWhoCan) 4 [some (.ref 62), some (.int a1), some (.int a2), some (.int a3)] [] w (self4 a1 a2 a3 w)) (a1 : Int32) (a2 : Int32) (a3 : Int32) (w : sm_Mem) : sm_Sim E (mi_mo_othersWhoCan) 4 [some (.ref 62), some (.int a1), some (.int a2), some (.int a3)] [] w (ff_mo_othersWhoCan_4_b  self4 a1 a2 a3 w) := by
  unfold ff_mo_othersWhoCan_4_b
  refine sm_iload_n ii_mo_othersWhoCan_4 rfl ?_
  refine sm_aload_n ii_mo_othersWhoCan_5 rfl ?_
  refine sm_getI ii_mo_othersWhoCan_6 fl_mo_135 (k := 62) rfl ?_
  refine sm_icmp_ge 40 ii_mo_othersWhoCan_9 (by decide) ?_ ?_
  · refine sm_iload_n ii_mo_othersWhoCan_40 rfl ?_
    exact sm_iret ii_mo_othersWhoCan_41 rfl
  · refine sm_iload_n ii_mo_othersWhoCan_12 rfl ?_
    refine sm_iload_n ii_mo_othersWhoCan_13 rfl ?_
    refine sm_iload_n ii_mo_othersWhoCan_14 rfl ?_
    refine sm_icmp_eq 31 ii_mo_othersWhoCan_15 (by decide) ?_ ?_
    · refine sm_msk [true, true, false, true] [some (.ref 62), some (.int a1), none, some (.int a3)] rfl ?_
      exact ss_mo_othersWhoCan_31 self4 hself4 (a1) (a3) (a2) w
    · refine sm_aload_n ii_mo_othersWhoCan_18 rfl ?_
      refine sm_iconst (0 : Int32) ii_mo_othersWhoCan_19 (by decide) ?_
      refine sm_iload_n ii_mo_othersWhoCan_20 rfl ?_
      refine sm_cvI [.int (0 : Int32), .int a3] [.int a2] rfl ii_mo_othersWhoCan_21 ml_mo_166 (mf_mo_whatCan) (mv_mo_whatCan) (Nat.le_of_ble_eq_true rfl) rfl 7 rfl rfl rfl rfl (mc_mo_whatCan ((0 : Int32)) (a3) w) (fun x1 w2 => ?_)
      refine sm_if_eq 31 ii_mo_othersWhoCan_24 (by decide) ?_ ?_
      · refine sm_msk [true, true, false, true] [some (.ref 62), some (.int a1), none, some (.int a3)] rfl ?_
        exact ss_mo_othersWhoCan_31 self4 hself4 (a1) (a3) (a2) w2
      · refine sm_iconst (1 : Int32) ii_mo_othersWhoCan_27 (by decide) ?_
        refine sm_goto 32 ii_mo_othersWhoCan_28 (by decide) ?_
        refine sm_msk [true, true, false, true] [some (.ref 62), some (.int a1), none, some (.int a3)] rfl ?_
        exact ss_mo_othersWhoCan_32 self4 hself4 (a1) (a3) (a2) ((1 : Int32)) w2
set_option maxHeartbeats 4000000 in
set_option maxRecDepth 100000 in
theorem ss_mo_othersWhoCan_4_f {E : Nat × (Nat → Int32)}  : ∀ (n : Nat) (a1 : Int32) (a2 : Int32) (a3 : Int32) (w : sm_Mem), sm_Sim E (mi_mo_othersWhoCan) 4 [some (.ref 62), some (.int a1), some (.int a2), some (.int a3)] [] w (ff_mo_othersWhoCan_4_f  n a1 a2 a3 w)
  | 0, _, _, _, _ => fun _ _ h => by cases h
  | n + 1, a1, a2, a3, w => ss_mo_othersWhoCan_4_b  _ (ss_mo_othersWhoCan_4_f  n) a1 a2 a3 w
set_option maxHeartbeats 4000000 in
set_option maxRecDepth 100000 in
theorem ss_mo_othersWhoCan_4 {E : Nat × (Nat → Int32)}  (a1 : Int32) (a2 : Int32) (a3 : Int32) (w : sm_Mem) : sm_Sim E (mi_mo_othersWhoCan) 4 [some (.ref 62), some (.int a1), some (.int a2), some (.int a3)] [] w (ff_mo_othersWhoCan_4  a1 a2 a3 w) := ss_mo_othersWhoCan_4_f  sm_N a1 a2 a3 w
noncomputable def ff_mo_othersWhoCan  (a1 : Int32) (w : sm_Mem) : sm_R := ff_mo_othersWhoCan_4 (a1) ((0 : Int32)) ((0 : Int32)) w
set_option maxHeartbeats 4000000 in
set_option maxRecDepth 100000 in
theorem ss_mo_othersWhoCan_0 {E : Nat × (Nat → Int32)}  (a1 : Int32) (w : sm_Mem) : sm_Sim E (mi_mo_othersWhoCan) 0 [some (.ref 62), some (.int a1), none, none] [] w (ff_mo_othersWhoCan  a1 w) := by
  unfold ff_mo_othersWhoCan
  refine sm_iconst (0 : Int32) ii_mo_othersWhoCan_0 (by decide) ?_
  refine sm_istore_n [some (.ref 62), some (.int a1), some (.int (0 : Int32)), none] ii_mo_othersWhoCan_1 rfl rfl ?_
  refine sm_iconst (0 : Int32) ii_mo_othersWhoCan_2 (by decide) ?_
  refine sm_istore_n [some (.ref 62), some (.int a1), some (.int (0 : Int32)), some (.int (0 : Int32))] ii_mo_othersWhoCan_3 rfl rfl ?_
  exact ss_mo_othersWhoCan_4 (a1) ((0 : Int32)) ((0 : Int32)) w
set_option maxHeartbeats 4000000 in
set_option maxRecDepth 100000 in
theorem mc_mo_othersWhoCan (a1 : Int32) (w : sm_Mem) : sm_MC mi_mo_othersWhoCan [.ref 62, .int a1] w (ff_mo_othersWhoCan a1 w) := sm_MC_of (0, fun _ => 0) (by decide +kernel) (by decide) rfl (Nat.le_of_ble_eq_true rfl) (ss_mo_othersWhoCan_0 a1 w)
abbrev mi_mo_bits : sm_MI := (⟨"HerOrdersModel", "bits", "(I)I"⟩, prog_9_method_2_code, 3, (some .int), 1)
set_option maxRecDepth 100000 in
theorem mf_mo_bits : sm_MF mi_mo_bits 1 := ⟨List.mem_of_getElem? (i := 1183) (by decide +kernel), List.mem_of_getElem? (i := 132) (by decide +kernel), ⟨by decide, by decide⟩, by decide +kernel⟩
set_option maxRecDepth 100000 in
theorem mv_mo_bits : sm_MFS mi_mo_bits := List.mem_of_getElem? (i := 1182) (by decide +kernel)
set_option maxRecDepth 100000 in
theorem ii_mo_bits_0 : sm_D prog_9_method_2_code 0 1 1 (.iconst 0) := ⟨by decide +kernel, rfl⟩
set_option maxRecDepth 100000 in
theorem ii_mo_bits_1 : sm_D prog_9_method_2_code 1 1 2 (.istore_n 1) := ⟨by decide +kernel, rfl⟩
set_option maxRecDepth 100000 in
theorem ii_mo_bits_2 : sm_D prog_9_method_2_code 2 1 3 (.iconst 0) := ⟨by decide +kernel, rfl⟩
set_option maxRecDepth 100000 in
theorem ii_mo_bits_3 : sm_D prog_9_method_2_code 3 1 4 (.istore_n 2) := ⟨by decide +kernel, rfl⟩
set_option maxRecDepth 100000 in
theorem ii_mo_bits_4 : sm_D prog_9_method_2_code 4 1 5 (.iload_n 2) := ⟨by decide +kernel, rfl⟩
set_option maxRecDepth 100000 in
theorem ii_mo_bits_5 : sm_D prog_9_method_2_code 5 2 7 (.bipush 6) := ⟨by decide +kernel, rfl⟩
set_option maxRecDepth 100000 in
theorem ii_mo_bits_7 : sm_D prog_9_method_2_code 7 3 10 (.if_icmp .ge 17) := ⟨by decide +kernel, rfl⟩
set_option maxRecDepth 100000 in
theorem ii_mo_bits_10 : sm_D prog_9_method_2_code 10 1 11 (.iload_n 1) := ⟨by decide +kernel, rfl⟩
set_option maxRecDepth 100000 in
theorem ii_mo_bits_11 : sm_D prog_9_method_2_code 11 1 12 (.iload_n 0) := ⟨by decide +kernel, rfl⟩
set_option maxRecDepth 100000 in
theorem ii_mo_bits_12 : sm_D prog_9_method_2_code 12 1 13 (.iload_n 2) := ⟨by decide +kernel, rfl⟩
set_option maxRecDepth 100000 in
theorem ii_mo_bits_13 : sm_D prog_9_method_2_code 13 1 14 (.ishr) := ⟨by decide +kernel, rfl⟩
set_option maxRecDepth 100000 in
theorem ii_mo_bits_14 : sm_D prog_9_method_2_code 14 1 15 (.iconst 1) := ⟨by decide +kernel, rfl⟩
set_option maxRecDepth 100000 in
theorem ii_mo_bits_15 : sm_D prog_9_method_2_code 15 1 16 (.iand) := ⟨by decide +kernel, rfl⟩
set_option maxRecDepth 100000 in
theorem ii_mo_bits_16 : sm_D prog_9_method_2_code 16 1 17 (.iadd) := ⟨by decide +kernel, rfl⟩
set_option maxRecDepth 100000 in
theorem ii_mo_bits_17 : sm_D prog_9_method_2_code 17 1 18 (.istore_n 1) := ⟨by decide +kernel, rfl⟩
set_option maxRecDepth 100000 in
theorem ii_mo_bits_18 : sm_D prog_9_method_2_code 18 3 21 (.iinc 2 1) := ⟨by decide +kernel, rfl⟩
set_option maxRecDepth 100000 in
theorem ii_mo_bits_21 : sm_D prog_9_method_2_code 21 3 24 (.goto (-17)) := ⟨by decide +kernel, rfl⟩
set_option maxRecDepth 100000 in
theorem ii_mo_bits_24 : sm_D prog_9_method_2_code 24 1 25 (.iload_n 1) := ⟨by decide +kernel, rfl⟩
set_option maxRecDepth 100000 in
theorem ii_mo_bits_25 : sm_D prog_9_method_2_code 25 1 26 (.ireturn) := ⟨by decide +kernel, rfl⟩
noncomputable def ff_mo_bits_4_b  (self4 : Int32 → Int32 → Int32 → sm_Mem → sm_R) (a0 : Int32) (a1 : Int32) (a2 : Int32) (w : sm_Mem) : sm_R := (if (6 : Int32) ≤ a2 then (some (.int a1, w)) else self4 (a0) ((a1 + ((a0 >>> (a2 &&& (31 : Int32))) &&& (1 : Int32)))) ((a2 + (1 : Int32))) w)
noncomputable def ff_mo_bits_4_f  : Nat → Int32 → Int32 → Int32 → sm_Mem → sm_R
  | 0, _, _, _, _ => none
  | n + 1, a0, a1, a2, w => ff_mo_bits_4_b  (ff_mo_bits_4_f  n) a0 a1 a2 w
noncomputable def ff_mo_bits_4  (a0 : Int32) (a1 : Int32) (a2 : Int32) (w : sm_Mem) : sm_R := ff_mo_bits_4_f  sm_N a0 a1 a2 w
set_option maxHeartbeats 4000000 in
set_option maxRecDepth 100000 in
theorem ss_mo_bits_4_b {E : Nat × (Nat → Int32)}  (self4 : Int32 → Int32 → Int32 → sm_Mem → sm_R) (hself4 : ∀ (a0 : Int32) (a1 : Int32) (a2 : Int32) (w : sm_Mem), sm_Sim E (mi_mo_bits) 4 [some (.int a0), some (.int a1), some (.int a2)] [] w (self4 a0 a1 a2 w)) (a0 : Int32) (a1 : Int32) (a2 : Int32) (w : sm_Mem) : sm_Sim E (mi_mo_bits) 4 [some (.int a0), some (.int a1), some (.int a2)] [] w (ff_mo_bits_4_b  self4 a0 a1 a2 w) := by
  unfold ff_mo_bits_4_b
  refine sm_iload_n ii_mo_bits_4 rfl ?_
  refine sm_bipush (6 : Int32) ii_mo_bits_5 (by decide) ?_
  refine sm_icmp_ge 24 ii_mo_bits_7 (by decide) ?_ ?_
  · refine sm_iload_n ii_mo_bits_24 rfl ?_
    exact sm_iret ii_mo_bits_25 rfl
  · refine sm_iload_n ii_mo_bits_10 rfl ?_
    refine sm_iload_n ii_mo_bits_11 rfl ?_
    refine sm_iload_n ii_mo_bits_12 rfl ?_
    refine sm_ishr ii_mo_bits_13 ?_
    refine sm_iconst (1 : Int32) ii_mo_bits_14 (by decide) ?_
    refine sm_iand ii_mo_bits_15 ?_
    refine sm_iadd ii_mo_bits_16 ?_
    refine sm_istore_n [some (.int a0), some (.int (a1 + ((a0 >>> (a2 &&& (31 : Int32))) &&& (1 : Int32)))), some (.int a2)] ii_mo_bits_17 rfl rfl ?_
    refine sm_iinc (a2 + (1 : Int32)) [some (.int a0), some (.int (a1 + ((a0 >>> (a2 &&& (31 : Int32))) &&& (1 : Int32)))), some (.int (a2 + (1 : Int32)))] ii_mo_bits_18 rfl rfl rfl rfl ?_
    refine sm_goto 4 ii_mo_bits_21 (by decide) ?_
    exact hself4 (a0) ((a1 + ((a0 >>> (a2 &&& (31 : Int32))) &&& (1 : Int32)))) ((a2 + (1 : Int32))) w
set_option maxHeartbeats 4000000 in
set_option maxRecDepth 100000 in
theorem ss_mo_bits_4_f {E : Nat × (Nat → Int32)}  : ∀ (n : Nat) (a0 : Int32) (a1 : Int32) (a2 : Int32) (w : sm_Mem), sm_Sim E (mi_mo_bits) 4 [some (.int a0), some (.int a1), some (.int a2)] [] w (ff_mo_bits_4_f  n a0 a1 a2 w)
  | 0, _, _, _, _ => fun _ _ h => by cases h
  | n + 1, a0, a1, a2, w => ss_mo_bits_4_b  _ (ss_mo_bits_4_f  n) a0 a1 a2 w
set_option maxHeartbeats 4000000 in
set_option maxRecDepth 100000 in
theorem ss_mo_bits_4 {E : Nat × (Nat → Int32)}  (a0 : Int32) (a1 : Int32) (a2 : Int32) (w : sm_Mem) : sm_Sim E (mi_mo_bits) 4 [some (.int a0), some (.int a1), some (.int a2)] [] w (ff_mo_bits_4  a0 a1 a2 w) := ss_mo_bits_4_f  sm_N a0 a1 a2 w
noncomputable def ff_mo_bits  (a0 : Int32) (w : sm_Mem) : sm_R := ff_mo_bits_4 (a0) ((0 : Int32)) ((0 : Int32)) w
set_option maxHeartbeats 4000000 in
set_option maxRecDepth 100000 in
theorem ss_mo_bits_0 {E : Nat × (Nat → Int32)}  (a0 : Int32) (w : sm_Mem) : sm_Sim E (mi_mo_bits) 0 [some (.int a0), none, none] [] w (ff_mo_bits  a0 w) := by
  unfold ff_mo_bits
  refine sm_iconst (0 : Int32) ii_mo_bits_0 (by decide) ?_
  refine sm_istore_n [some (.int a0), some (.int (0 : Int32)), none] ii_mo_bits_1 rfl rfl ?_
  refine sm_iconst (0 : Int32) ii_mo_bits_2 (by decide) ?_
  refine sm_istore_n [some (.int a0), some (.int (0 : Int32)), some (.int (0 : Int32))] ii_mo_bits_3 rfl rfl ?_
  exact ss_mo_bits_4 (a0) ((0 : Int32)) ((0 : Int32)) w
set_option maxHeartbeats 4000000 in
set_option maxRecDepth 100000 in
theorem mc_mo_bits (a0 : Int32) (w : sm_Mem) : sm_MC mi_mo_bits [.int a0] w (ff_mo_bits a0 w) := sm_MC_of (0, fun _ => 0) (by decide +kernel) (by decide) rfl (Nat.le_of_ble_eq_true rfl) (ss_mo_bits_0 a0 w)
abbrev mi_mo_othersIn : sm_MI := (⟨"HerOrdersModel", "othersIn", "(I)I"⟩, prog_9_method_43_code, 4, (some .int), 1)
set_option maxRecDepth 100000 in
theorem mf_mo_othersIn : sm_MF mi_mo_othersIn 1 := ⟨List.mem_of_getElem? (i := 1187) (by decide +kernel), List.mem_of_getElem? (i := 132) (by decide +kernel), ⟨by decide, by decide⟩, by decide +kernel⟩
set_option maxRecDepth 100000 in
theorem mv_mo_othersIn : sm_MFV mi_mo_othersIn := ⟨List.mem_of_getElem? (i := 1186) (by decide +kernel), List.mem_of_getElem? (i := 92) (by decide +kernel)⟩
set_option maxRecDepth 100000 in
theorem ii_mo_othersIn_0 : sm_D prog_9_method_43_code 0 1 1 (.iconst 0) := ⟨by decide +kernel, rfl⟩
set_option maxRecDepth 100000 in
theorem ii_mo_othersIn_1 : sm_D prog_9_method_43_code 1 1 2 (.istore_n 2) := ⟨by decide +kernel, rfl⟩
set_option maxRecDepth 100000 in
theorem ii_mo_othersIn_2 : sm_D prog_9_method_43_code 2 1 3 (.iconst 0) := ⟨by decide +kernel, rfl⟩
set_option maxRecDepth 100000 in
theorem ii_mo_othersIn_3 : sm_D prog_9_method_43_code 3 1 4 (.istore_n 3) := ⟨by decide +kernel, rfl⟩
set_option maxRecDepth 100000 in
theorem ii_mo_othersIn_4 : sm_D prog_9_method_43_code 4 1 5 (.iload_n 3) := ⟨by decide +kernel, rfl⟩
set_option maxRecDepth 100000 in
theorem ii_mo_othersIn_5 : sm_D prog_9_method_43_code 5 1 6 (.aload_n 0) := ⟨by decide +kernel, rfl⟩
set_option maxRecDepth 100000 in
theorem ii_mo_othersIn_6 : sm_D prog_9_method_43_code 6 3 9 (.getfield 135) := ⟨by decide +kernel, rfl⟩
set_option maxRecDepth 100000 in
theorem ii_mo_othersIn_9 : sm_D prog_9_method_43_code 9 3 12 (.if_icmp .ge 43) := ⟨by decide +kernel, rfl⟩
set_option maxRecDepth 100000 in
theorem ii_mo_othersIn_12 : sm_D prog_9_method_43_code 12 1 13 (.iload_n 2) := ⟨by decide +kernel, rfl⟩
set_option maxRecDepth 100000 in
theorem ii_mo_othersIn_13 : sm_D prog_9_method_43_code 13 1 14 (.iload_n 3) := ⟨by decide +kernel, rfl⟩
set_option maxRecDepth 100000 in
theorem ii_mo_othersIn_14 : sm_D prog_9_method_43_code 14 1 15 (.iload_n 1) := ⟨by decide +kernel, rfl⟩
set_option maxRecDepth 100000 in
theorem ii_mo_othersIn_15 : sm_D prog_9_method_43_code 15 3 18 (.if_icmp .eq 28) := ⟨by decide +kernel, rfl⟩
set_option maxRecDepth 100000 in
theorem ii_mo_othersIn_18 : sm_D prog_9_method_43_code 18 1 19 (.aload_n 0) := ⟨by decide +kernel, rfl⟩
set_option maxRecDepth 100000 in
theorem ii_mo_othersIn_19 : sm_D prog_9_method_43_code 19 3 22 (.getfield 7) := ⟨by decide +kernel, rfl⟩
set_option maxRecDepth 100000 in
theorem ii_mo_othersIn_22 : sm_D prog_9_method_43_code 22 2 24 (.bipush 20) := ⟨by decide +kernel, rfl⟩
set_option maxRecDepth 100000 in
theorem ii_mo_othersIn_24 : sm_D prog_9_method_43_code 24 1 25 (.iload_n 3) := ⟨by decide +kernel, rfl⟩
set_option maxRecDepth 100000 in
theorem ii_mo_othersIn_25 : sm_D prog_9_method_43_code 25 1 26 (.iadd) := ⟨by decide +kernel, rfl⟩
set_option maxRecDepth 100000 in
theorem ii_mo_othersIn_26 : sm_D prog_9_method_43_code 26 1 27 (.iaload) := ⟨by decide +kernel, rfl⟩
set_option maxRecDepth 100000 in
theorem ii_mo_othersIn_27 : sm_D prog_9_method_43_code 27 1 28 (.aload_n 0) := ⟨by decide +kernel, rfl⟩
set_option maxRecDepth 100000 in
theorem ii_mo_othersIn_28 : sm_D prog_9_method_43_code 28 3 31 (.getfield 7) := ⟨by decide +kernel, rfl⟩
set_option maxRecDepth 100000 in
theorem ii_mo_othersIn_31 : sm_D prog_9_method_43_code 31 2 33 (.bipush 20) := ⟨by decide +kernel, rfl⟩
set_option maxRecDepth 100000 in
theorem ii_mo_othersIn_33 : sm_D prog_9_method_43_code 33 1 34 (.iload_n 1) := ⟨by decide +kernel, rfl⟩
set_option maxRecDepth 100000 in
theorem ii_mo_othersIn_34 : sm_D prog_9_method_43_code 34 1 35 (.iadd) := ⟨by decide +kernel, rfl⟩
set_option maxRecDepth 100000 in
theorem ii_mo_othersIn_35 : sm_D prog_9_method_43_code 35 1 36 (.iaload) := ⟨by decide +kernel, rfl⟩
set_option maxRecDepth 100000 in
theorem ii_mo_othersIn_36 : sm_D prog_9_method_43_code 36 3 39 (.if_icmp .ne 7) := ⟨by decide +kernel, rfl⟩
set_option maxRecDepth 100000 in
theorem ii_mo_othersIn_39 : sm_D prog_9_method_43_code 39 1 40 (.iconst 1) := ⟨by decide +kernel, rfl⟩
set_option maxRecDepth 100000 in
theorem ii_mo_othersIn_40 : sm_D prog_9_method_43_code 40 3 43 (.goto 4) := ⟨by decide +kernel, rfl⟩
set_option maxRecDepth 100000 in
theorem ii_mo_othersIn_43 : sm_D prog_9_method_43_code 43 1 44 (.iconst 0) := ⟨by decide +kernel, rfl⟩
set_option maxRecDepth 100000 in
theorem ii_mo_othersIn_44 : sm_D prog_9_method_43_code 44 1 45 (.iadd) := ⟨by decide +kernel, rfl⟩
set_option maxRecDepth 100000 in
theorem ii_mo_othersIn_45 : sm_D prog_9_method_43_code 45 1 46 (.istore_n 2) := ⟨by decide +kernel, rfl⟩
set_option maxRecDepth 100000 in
theorem ii_mo_othersIn_46 : sm_D prog_9_method_43_code 46 3 49 (.iinc 3 1) := ⟨by decide +kernel, rfl⟩
set_option maxRecDepth 100000 in
theorem ii_mo_othersIn_49 : sm_D prog_9_method_43_code 49 3 52 (.goto (-45)) := ⟨by decide +kernel, rfl⟩
set_option maxRecDepth 100000 in
theorem ii_mo_othersIn_52 : sm_D prog_9_method_43_code 52 1 53 (.iload_n 2) := ⟨by decide +kernel, rfl⟩
set_option maxRecDepth 100000 in
theorem ii_mo_othersIn_53 : sm_D prog_9_method_43_code 53 1 54 (.ireturn) := ⟨by decide +kernel, rfl⟩
noncomputable def ff_mo_othersIn_44 (self4 : Int32 → Int32 → Int32 → sm_Mem → sm_R) (a1 : Int32) (a3 : Int32) (b0 : Int32) (b1 : Int32) (w : sm_Mem) : sm_R := self4 (a1) ((b0 + b1)) ((a3 + (1 : Int32))) w
set_option maxHeartbeats 4000000 in
set_option maxRecDepth 100000 in
theorem ss_mo_othersIn_44 {E : Nat × (Nat → Int32)} (self4 : Int32 → Int32 → Int32 → sm_Mem → sm_R) (hself4 : ∀ (a1 : Int32) (a2 : Int32) (a3 : Int32) (w : sm_Mem), sm_Sim E (mi_mo_othersIn) 4 [some (.ref 62), some (.int a1), some (.int a2), some (.int a3)] [] w (self4 a1 a2 a3 w)) (a1 : Int32) (a3 : Int32) (b0 : Int32) (b1 : Int32) (w : sm_Mem) : sm_Sim E (mi_mo_othersIn) 44 [some (.ref 62), some (.int a1), none, some (.int a3)] [.int b1, .int b0] w (ff_mo_othersIn_44 self4 a1 a3 b0 b1 w) := by
  unfold ff_mo_othersIn_44
  refine sm_iadd ii_mo_othersIn_44 ?_
  refine sm_istore_n [some (.ref 62), some (.int a1), some (.int (b0 + b1)), some (.int a3)] ii_mo_othersIn_45 rfl rfl ?_
  refine sm_iinc (a3 + (1 : Int32)) [some (.ref 62), some (.int a1), some (.int (b0 + b1)), some (.int (a3 + (1 : Int32)))] ii_mo_othersIn_46 rfl rfl rfl rfl ?_
  refine sm_goto 4 ii_mo_othersIn_49 (by decide) ?_
  exact hself4 (a1) ((b0 + b1)) ((a3 + (1 : Int32))) w
noncomputable def ff_mo_othersIn_43 (self4 : Int32 → Int32 → Int32 → sm_Mem → sm_R) (a1 : Int32) (a3 : Int32) (b0 : Int32) (w : sm_Mem) : sm_R := ff_mo_othersIn_44 self4 (a1) (a3) (b0) ((0 : Int32)) w
set_option maxHeartbeats 4000000 in
set_option maxRecDepth 100000 in
theorem ss_mo_othersIn_43 {E : Nat × (Nat → Int32)} (self4 : Int32 → Int32 → Int32 → sm_Mem → sm_R) (hself4 : ∀ (a1 : Int32) (a2 : Int32) (a3 : Int32) (w : sm_Mem), sm_Sim E (mi_mo_othersIn) 4 [some (.ref 62), some (.int a1), some (.int a2), some (.int a3)] [] w (self4 a1 a2 a3 w)) (a1 : Int32) (a3 : Int32) (b0 : Int32) (w : sm_Mem) : sm_Sim E (mi_mo_othersIn) 43 [some (.ref 62), some (.int a1), none, some (.int a3)] [.int b0] w (ff_mo_othersIn_43 self4 a1 a3 b0 w) := by
  unfold ff_mo_othersIn_43
  refine sm_iconst (0 : Int32) ii_mo_othersIn_43 (by decide) ?_
  exact ss_mo_othersIn_44 self4 hself4 (a1) (a3) (b0) ((0 : Int32)) w
noncomputable def ff_mo_othersIn_4_b  (self4 : Int32 → Int32 → Int32 → sm_Mem → sm_R) (a1 : Int32) (a2 : Int32) (a3 : Int32) (w : sm_Mem) : sm_R := (if (w.1 62 1) ≤ a3 then (some (.int a2, w)) else (if a3 = a1 then ff_mo_othersIn_43 self4 (a1) (a3) (a2) w else (Option.bind (sm_rd w 63 5184 ((20 : Int32) + a3)) fun x1 => (Option.bind (sm_rd w 63 5184 ((20 : Int32) + a1)) fun x2 => (if x1 = x2 then ff_mo_othersIn_44 self4 (a1) (a3) (a2) ((1 : Int32)) w else ff_mo_othersIn_43 self4 (a1) (a3) (a2) w)))))
noncomputable def ff_mo_othersIn_4_f  : Nat → Int32 → Int32 → Int32 → sm_Mem → sm_R
  | 0, _, _, _, _ => none
  | n + 1, a1, a2, a3, w => ff_mo_othersIn_4_b  (ff_mo_othersIn_4_f  n) a1 a2 a3 w
noncomputable def ff_mo_othersIn_4  (a1 : Int32) (a2 : Int32) (a3 : Int32) (w : sm_Mem) : sm_R := ff_mo_othersIn_4_f  sm_N a1 a2 a3 w
set_option maxHeartbeats 4000000 in
set_option maxRecDepth 100000 in
theorem ss_mo_othersIn_4_b {E : Nat × (Nat → Int32)}  (self4 : Int32 → Int32 → Int32 → sm_Mem → sm_R) (hself4 : ∀ (a1 : Int32) (a2 : Int32) (a3 : Int32) (w : sm_Mem), sm_Sim E (mi_mo_othersIn) 4 [some (.ref 62), some (.int a1), some (.int a2), some (.int a3)] [] w (self4 a1 a2 a3 w)) (a1 : Int32) (a2 : Int32) (a3 : Int32) (w : sm_Mem) : sm_Sim E (mi_mo_othersIn) 4 [some (.ref 62), some (.int a1), some (.int a2), some (.int a3)] [] w (ff_mo_othersIn_4_b  self4 a1 a2 a3 w) := by
  unfold ff_mo_othersIn_4_b
  refine sm_iload_n ii_mo_othersIn_4 rfl ?_
  refine sm_aload_n ii_mo_othersIn_5 rfl ?_
  refine sm_getI ii_mo_othersIn_6 fl_mo_135 (k := 62) rfl ?_
  refine sm_icmp_ge 52 ii_mo_othersIn_9 (by decide) ?_ ?_
  · refine sm_iload_n ii_mo_othersIn_52 rfl ?_
    exact sm_iret ii_mo_othersIn_53 rfl
  · refine sm_iload_n ii_mo_othersIn_12 rfl ?_
    refine sm_iload_n ii_mo_othersIn_13 rfl ?_
    refine sm_iload_n ii_mo_othersIn_14 rfl ?_
    refine sm_icmp_eq 43 ii_mo_othersIn_15 (by decide) ?_ ?_
    · refine sm_msk [true, true, false, true] [some (.ref 62), some (.int a1), none, some (.int a3)] rfl ?_
      exact ss_mo_othersIn_43 self4 hself4 (a1) (a3) (a2) w
    · refine sm_aload_n ii_mo_othersIn_18 rfl ?_
      refine sm_getR 63 ii_mo_othersIn_19 fl_mo_7 (k := 62) rfl ?_
      refine sm_bipush (20 : Int32) ii_mo_othersIn_22 (by decide) ?_
      refine sm_iload_n ii_mo_othersIn_24 rfl ?_
      refine sm_iadd ii_mo_othersIn_25 ?_
      refine sm_iald ii_mo_othersIn_26 (k := 63) rfl (fun x1 => ?_)
      refine sm_aload_n ii_mo_othersIn_27 rfl ?_
      refine sm_getR 63 ii_mo_othersIn_28 fl_mo_7 (k := 62) rfl ?_
      refine sm_bipush (20 : Int32) ii_mo_othersIn_31 (by decide) ?_
      refine sm_iload_n ii_mo_othersIn_33 rfl ?_
      refine sm_iadd ii_mo_othersIn_34 ?_
      refine sm_iald ii_mo_othersIn_35 (k := 63) rfl (fun x2 => ?_)
      refine sm_icmp_ne 43 ii_mo_othersIn_36 (by decide) ?_ ?_
      · refine sm_iconst (1 : Int32) ii_mo_othersIn_39 (by decide) ?_
        refine sm_goto 44 ii_mo_othersIn_40 (by decide) ?_
        refine sm_msk [true, true, false, true] [some (.ref 62), some (.int a1), none, some (.int a3)] rfl ?_
        exact ss_mo_othersIn_44 self4 hself4 (a1) (a3) (a2) ((1 : Int32)) w
      · refine sm_msk [true, true, false, true] [some (.ref 62), some (.int a1), none, some (.int a3)] rfl ?_
        exact ss_mo_othersIn_43 self4 hself4 (a1) (a3) (a2) w
set_option maxHeartbeats 4000000 in
set_option maxRecDepth 100000 in
theorem ss_mo_othersIn_4_f {E : Nat × (Nat → Int32)}  : ∀ (n : Nat) (a1 : Int32) (a2 : Int32) (a3 : Int32) (w : sm_Mem), sm_Sim E (mi_mo_othersIn) 4 [some (.ref 62), some (.int a1), some (.int a2), some (.int a3)] [] w (ff_mo_othersIn_4_f  n a1 a2 a3 w)
  | 0, _, _, _, _ => fun _ _ h => by cases h
  | n + 1, a1, a2, a3, w => ss_mo_othersIn_4_b  _ (ss_mo_othersIn_4_f  n) a1 a2 a3 w
set_option maxHeartbeats 4000000 in
set_option maxRecDepth 100000 in
theorem ss_mo_othersIn_4 {E : Nat × (Nat → Int32)}  (a1 : Int32) (a2 : Int32) (a3 : Int32) (w : sm_Mem) : sm_Sim E (mi_mo_othersIn) 4 [some (.ref 62), some (.int a1), some (.int a2), some (.int a3)] [] w (ff_mo_othersIn_4  a1 a2 a3 w) := ss_mo_othersIn_4_f  sm_N a1 a2 a3 w
noncomputable def ff_mo_othersIn  (a1 : Int32) (w : sm_Mem) : sm_R := ff_mo_othersIn_4 (a1) ((0 : Int32)) ((0 : Int32)) w
set_option maxHeartbeats 4000000 in
set_option maxRecDepth 100000 in
theorem ss_mo_othersIn_0 {E : Nat × (Nat → Int32)}  (a1 : Int32) (w : sm_Mem) : sm_Sim E (mi_mo_othersIn) 0 [some (.ref 62), some (.int a1), none, none] [] w (ff_mo_othersIn  a1 w) := by
  unfold ff_mo_othersIn
  refine sm_iconst (0 : Int32) ii_mo_othersIn_0 (by decide) ?_
  refine sm_istore_n [some (.ref 62), some (.int a1), some (.int (0 : Int32)), none] ii_mo_othersIn_1 rfl rfl ?_
  refine sm_iconst (0 : Int32) ii_mo_othersIn_2 (by decide) ?_
  refine sm_istore_n [some (.ref 62), some (.int a1), some (.int (0 : Int32)), some (.int (0 : Int32))] ii_mo_othersIn_3 rfl rfl ?_
  exact ss_mo_othersIn_4 (a1) ((0 : Int32)) ((0 : Int32)) w
set_option maxHeartbeats 4000000 in
set_option maxRecDepth 100000 in
theorem mc_mo_othersIn (a1 : Int32) (w : sm_Mem) : sm_MC mi_mo_othersIn [.ref 62, .int a1] w (ff_mo_othersIn a1 w) := sm_MC_of (0, fun _ => 0) (by decide +kernel) (by decide) rfl (Nat.le_of_ble_eq_true rfl) (ss_mo_othersIn_0 a1 w)
abbrev mi_mo_mark : sm_MI := (⟨"HerOrdersModel", "mark", "(II)I"⟩, prog_9_method_44_code, 3, (some .int), 6)
set_option maxRecDepth 100000 in
theorem mf_mo_mark : sm_MF mi_mo_mark 2 := ⟨List.mem_of_getElem? (i := 1142) (by decide +kernel), List.mem_of_getElem? (i := 132) (by decide +kernel), ⟨by decide, by decide⟩, by decide +kernel⟩
set_option maxRecDepth 100000 in
theorem mv_mo_mark : sm_MFV mi_mo_mark := ⟨List.mem_of_getElem? (i := 1140) (by decide +kernel), List.mem_of_getElem? (i := 1141) (by decide +kernel)⟩
set_option maxRecDepth 100000 in
theorem ii_mo_mark_0 : sm_D prog_9_method_44_code 0 1 1 (.aload_n 0) := ⟨by decide +kernel, rfl⟩
set_option maxRecDepth 100000 in
theorem ii_mo_mark_1 : sm_D prog_9_method_44_code 1 1 2 (.iload_n 1) := ⟨by decide +kernel, rfl⟩
set_option maxRecDepth 100000 in
theorem ii_mo_mark_2 : sm_D prog_9_method_44_code 2 3 5 (.invokevirtual 160) := ⟨by decide +kernel, rfl⟩
set_option maxRecDepth 100000 in
theorem ii_mo_mark_5 : sm_D prog_9_method_44_code 5 3 8 (.ifCond .eq 15) := ⟨by decide +kernel, rfl⟩
set_option maxRecDepth 100000 in
theorem ii_mo_mark_8 : sm_D prog_9_method_44_code 8 1 9 (.iload_n 2) := ⟨by decide +kernel, rfl⟩
set_option maxRecDepth 100000 in
theorem ii_mo_mark_9 : sm_D prog_9_method_44_code 9 1 10 (.i2l) := ⟨by decide +kernel, rfl⟩
set_option maxRecDepth 100000 in
theorem ii_mo_mark_10 : sm_D prog_9_method_44_code 10 1 11 (.lconst 1) := ⟨by decide +kernel, rfl⟩
set_option maxRecDepth 100000 in
theorem ii_mo_mark_11 : sm_D prog_9_method_44_code 11 3 14 (.ldc2_w 69) := ⟨by decide +kernel, rfl⟩
set_option maxRecDepth 100000 in
theorem ii_mo_mark_14 : sm_D prog_9_method_44_code 14 3 17 (.invokestatic 71) := ⟨by decide +kernel, rfl⟩
set_option maxRecDepth 100000 in
theorem ii_mo_mark_17 : sm_D prog_9_method_44_code 17 3 20 (.ifCond .ne 5) := ⟨by decide +kernel, rfl⟩
set_option maxRecDepth 100000 in
theorem ii_mo_mark_20 : sm_D prog_9_method_44_code 20 1 21 (.iconst (-1)) := ⟨by decide +kernel, rfl⟩
set_option maxRecDepth 100000 in
theorem ii_mo_mark_21 : sm_D prog_9_method_44_code 21 1 22 (.ireturn) := ⟨by decide +kernel, rfl⟩
set_option maxRecDepth 100000 in
theorem ii_mo_mark_22 : sm_D prog_9_method_44_code 22 1 23 (.aload_n 0) := ⟨by decide +kernel, rfl⟩
set_option maxRecDepth 100000 in
theorem ii_mo_mark_23 : sm_D prog_9_method_44_code 23 1 24 (.iload_n 1) := ⟨by decide +kernel, rfl⟩
set_option maxRecDepth 100000 in
theorem ii_mo_mark_24 : sm_D prog_9_method_44_code 24 1 25 (.iload_n 2) := ⟨by decide +kernel, rfl⟩
set_option maxRecDepth 100000 in
theorem ii_mo_mark_25 : sm_D prog_9_method_44_code 25 3 28 (.invokevirtual 169) := ⟨by decide +kernel, rfl⟩
set_option maxRecDepth 100000 in
theorem ii_mo_mark_28 : sm_D prog_9_method_44_code 28 3 31 (.ifCond .ne 9) := ⟨by decide +kernel, rfl⟩
set_option maxRecDepth 100000 in
theorem ii_mo_mark_31 : sm_D prog_9_method_44_code 31 1 32 (.aload_n 0) := ⟨by decide +kernel, rfl⟩
set_option maxRecDepth 100000 in
theorem ii_mo_mark_32 : sm_D prog_9_method_44_code 32 1 33 (.iconst 3) := ⟨by decide +kernel, rfl⟩
set_option maxRecDepth 100000 in
theorem ii_mo_mark_33 : sm_D prog_9_method_44_code 33 3 36 (.invokevirtual 81) := ⟨by decide +kernel, rfl⟩
set_option maxRecDepth 100000 in
theorem ii_mo_mark_36 : sm_D prog_9_method_44_code 36 1 37 (.ireturn) := ⟨by decide +kernel, rfl⟩
set_option maxRecDepth 100000 in
theorem ii_mo_mark_37 : sm_D prog_9_method_44_code 37 1 38 (.iload_n 2) := ⟨by decide +kernel, rfl⟩
set_option maxRecDepth 100000 in
theorem ii_mo_mark_38 : sm_D prog_9_method_44_code 38 30 68 (.tableswitch 64 1 4 #[30, 36, 45, 51]) := ⟨by decide +kernel, rfl⟩
set_option maxRecDepth 100000 in
theorem ii_mo_mark_68 : sm_D prog_9_method_44_code 68 1 69 (.aload_n 0) := ⟨by decide +kernel, rfl⟩
set_option maxRecDepth 100000 in
theorem ii_mo_mark_69 : sm_D prog_9_method_44_code 69 1 70 (.iload_n 1) := ⟨by decide +kernel, rfl⟩
set_option maxRecDepth 100000 in
theorem ii_mo_mark_70 : sm_D prog_9_method_44_code 70 3 73 (.invokevirtual 172) := ⟨by decide +kernel, rfl⟩
set_option maxRecDepth 100000 in
theorem ii_mo_mark_73 : sm_D prog_9_method_44_code 73 1 74 (.ireturn) := ⟨by decide +kernel, rfl⟩
set_option maxRecDepth 100000 in
theorem ii_mo_mark_74 : sm_D prog_9_method_44_code 74 1 75 (.aload_n 0) := ⟨by decide +kernel, rfl⟩
set_option maxRecDepth 100000 in
theorem ii_mo_mark_75 : sm_D prog_9_method_44_code 75 3 78 (.getfield 7) := ⟨by decide +kernel, rfl⟩
set_option maxRecDepth 100000 in
theorem ii_mo_mark_78 : sm_D prog_9_method_44_code 78 1 79 (.iconst 1) := ⟨by decide +kernel, rfl⟩
set_option maxRecDepth 100000 in
theorem ii_mo_mark_79 : sm_D prog_9_method_44_code 79 1 80 (.iaload) := ⟨by decide +kernel, rfl⟩
set_option maxRecDepth 100000 in
theorem ii_mo_mark_80 : sm_D prog_9_method_44_code 80 1 81 (.iconst 2) := ⟨by decide +kernel, rfl⟩
set_option maxRecDepth 100000 in
theorem ii_mo_mark_81 : sm_D prog_9_method_44_code 81 1 82 (.irem) := ⟨by decide +kernel, rfl⟩
set_option maxRecDepth 100000 in
theorem ii_mo_mark_82 : sm_D prog_9_method_44_code 82 1 83 (.ireturn) := ⟨by decide +kernel, rfl⟩
set_option maxRecDepth 100000 in
theorem ii_mo_mark_83 : sm_D prog_9_method_44_code 83 1 84 (.aload_n 0) := ⟨by decide +kernel, rfl⟩
set_option maxRecDepth 100000 in
theorem ii_mo_mark_84 : sm_D prog_9_method_44_code 84 1 85 (.iload_n 1) := ⟨by decide +kernel, rfl⟩
set_option maxRecDepth 100000 in
theorem ii_mo_mark_85 : sm_D prog_9_method_44_code 85 3 88 (.invokevirtual 175) := ⟨by decide +kernel, rfl⟩
set_option maxRecDepth 100000 in
theorem ii_mo_mark_88 : sm_D prog_9_method_44_code 88 1 89 (.ireturn) := ⟨by decide +kernel, rfl⟩
set_option maxRecDepth 100000 in
theorem ii_mo_mark_89 : sm_D prog_9_method_44_code 89 1 90 (.aload_n 0) := ⟨by decide +kernel, rfl⟩
set_option maxRecDepth 100000 in
theorem ii_mo_mark_90 : sm_D prog_9_method_44_code 90 3 93 (.getfield 16) := ⟨by decide +kernel, rfl⟩
set_option maxRecDepth 100000 in
theorem ii_mo_mark_93 : sm_D prog_9_method_44_code 93 1 94 (.iload_n 1) := ⟨by decide +kernel, rfl⟩
set_option maxRecDepth 100000 in
theorem ii_mo_mark_94 : sm_D prog_9_method_44_code 94 1 95 (.iaload) := ⟨by decide +kernel, rfl⟩
set_option maxRecDepth 100000 in
theorem ii_mo_mark_95 : sm_D prog_9_method_44_code 95 2 97 (.bipush 21) := ⟨by decide +kernel, rfl⟩
set_option maxRecDepth 100000 in
theorem ii_mo_mark_97 : sm_D prog_9_method_44_code 97 1 98 (.iand) := ⟨by decide +kernel, rfl⟩
set_option maxRecDepth 100000 in
theorem ii_mo_mark_98 : sm_D prog_9_method_44_code 98 3 101 (.invokestatic 178) := ⟨by decide +kernel, rfl⟩
set_option maxRecDepth 100000 in
theorem ii_mo_mark_101 : sm_D prog_9_method_44_code 101 1 102 (.ireturn) := ⟨by decide +kernel, rfl⟩
set_option maxRecDepth 100000 in
theorem ii_mo_mark_102 : sm_D prog_9_method_44_code 102 1 103 (.aload_n 0) := ⟨by decide +kernel, rfl⟩
set_option maxRecDepth 100000 in
theorem ii_mo_mark_103 : sm_D prog_9_method_44_code 103 1 104 (.iload_n 1) := ⟨by decide +kernel, rfl⟩
set_option maxRecDepth 100000 in
theorem ii_mo_mark_104 : sm_D prog_9_method_44_code 104 3 107 (.invokevirtual 181) := ⟨by decide +kernel, rfl⟩
set_option maxRecDepth 100000 in
theorem ii_mo_mark_107 : sm_D prog_9_method_44_code 107 1 108 (.ireturn) := ⟨by decide +kernel, rfl⟩
noncomputable def ff_mo_mark  (a1 : Int32) (a2 : Int32) (w : sm_Mem) : sm_R := (sm_cI (ff_mo_isSpeaker (a1) w) fun x1 w2 => (if x1 = (0 : Int32) then (some (.int (-1 : Int32), w2)) else (sm_cI (ff_mo_in ((Int32.toInt64 a2)) ((1 : Int64)) ((5 : Int64)) w2) fun x3 w4 => (if x3 = (0 : Int32) then (some (.int (-1 : Int32), w4)) else (sm_cI (ff_mo_isOf (a1) (a2) w4) fun x5 w6 => (if x5 = (0 : Int32) then (sm_cI (ff_mo_find ((3 : Int32)) w6) fun x18 w19 => (some (.int x18, w19))) else (sm_sw a2 (1) [((sm_cI (ff_mo_borrowed (a1) w6) fun x7 w8 => (some (.int x7, w8)))), ((Option.bind (sm_rd w6 63 5184 (1 : Int32)) fun x9 => (if (2 : Int32) = (0 : Int32) then none else (some (.int (x9 - x9 / (2 : Int32) * (2 : Int32)), w6))))), ((sm_cI (ff_mo_othersWhoCan (a1) w6) fun x11 w12 => (some (.int x11, w12)))), ((Option.bind (sm_rd w6 65 7 a1) fun x13 => (sm_cI (ff_mo_bits ((x13 &&& (21 : Int32))) w6) fun x14 w15 => (some (.int x14, w15)))))] ((sm_cI (ff_mo_othersIn (a1) w6) fun x16 w17 => (some (.int x16, w17)))))))))))
set_option maxHeartbeats 4000000 in
set_option maxRecDepth 100000 in
theorem ss_mo_mark_0 {E : Nat × (Nat → Int32)}  (a1 : Int32) (a2 : Int32) (w : sm_Mem) : sm_Sim E (mi_mo_mark) 0 [some (.ref 62), some (.int a1), some (.int a2)] [] w (ff_mo_mark  a1 a2 w) := by
  unfold ff_mo_mark
  refine sm_aload_n ii_mo_mark_0 rfl ?_
  refine sm_iload_n ii_mo_mark_1 rfl ?_
  refine sm_cvI [.int a1] [] rfl ii_mo_mark_2 ml_mo_160 (mf_mo_isSpeaker) (mv_mo_isSpeaker) (Nat.le_of_ble_eq_true rfl) rfl 7 rfl rfl rfl rfl (mc_mo_isSpeaker (a1) w) (fun x1 w2 => ?_)
  refine sm_if_eq 20 ii_mo_mark_5 (by decide) ?_ ?_
  · refine sm_iconst (-1 : Int32) ii_mo_mark_20 (by decide) ?_
    exact sm_iret ii_mo_mark_21 rfl
  · refine sm_iload_n ii_mo_mark_8 rfl ?_
    refine sm_i2l ii_mo_mark_9 ?_
    refine sm_lconst (1 : Int64) ii_mo_mark_10 (by decide) ?_
    refine sm_ldc2 (5 : Int64) ii_mo_mark_11 (List.mem_of_getElem? (i := 1040) (by decide +kernel)) ?_
    refine sm_csI [.long (Int32.toInt64 a2), .long (1 : Int64), .long (5 : Int64)] [] rfl ii_mo_mark_14 ml_mo_71 (mf_mo_in) (mv_mo_in) (Nat.le_of_ble_eq_true rfl) rfl rfl rfl (mc_mo_in ((Int32.toInt64 a2)) ((1 : Int64)) ((5 : Int64)) w2) (fun x3 w4 => ?_)
    refine sm_if_ne 22 ii_mo_mark_17 (by decide) ?_ ?_
    · refine sm_iconst (-1 : Int32) ii_mo_mark_20 (by decide) ?_
      exact sm_iret ii_mo_mark_21 rfl
    · refine sm_aload_n ii_mo_mark_22 rfl ?_
      refine sm_iload_n ii_mo_mark_23 rfl ?_
      refine sm_iload_n ii_mo_mark_24 rfl ?_
      refine sm_cvI [.int a1, .int a2] [] rfl ii_mo_mark_25 ml_mo_169 (mf_mo_isOf) (mv_mo_isOf) (Nat.le_of_ble_eq_true rfl) rfl 7 rfl rfl rfl rfl (mc_mo_isOf (a1) (a2) w4) (fun x5 w6 => ?_)
      refine sm_if_ne 37 ii_mo_mark_28 (by decide) ?_ ?_
      · refine sm_aload_n ii_mo_mark_31 rfl ?_
        refine sm_iconst (3 : Int32) ii_mo_mark_32 (by decide) ?_
        refine sm_cvI [.int (3 : Int32)] [] rfl ii_mo_mark_33 ml_mo_81 (mf_mo_find) (mv_mo_find) (Nat.le_of_ble_eq_true rfl) rfl 7 rfl rfl rfl rfl (mc_mo_find ((3 : Int32)) w6) (fun x18 w19 => ?_)
        exact sm_iret ii_mo_mark_36 rfl
      · refine sm_iload_n ii_mo_mark_37 rfl ?_
        refine sm_table [68, 74, 83, 89] 102 ii_mo_mark_38 rfl rfl rfl ⟨?_, ?_, ?_, ?_, trivial⟩ ?_
        · refine sm_aload_n ii_mo_mark_68 rfl ?_
          refine sm_iload_n ii_mo_mark_69 rfl ?_
          refine sm_cvI [.int a1] [] rfl ii_mo_mark_70 ml_mo_172 (mf_mo_borrowed) (mv_mo_borrowed) (Nat.le_of_ble_eq_true rfl) rfl 7 rfl rfl rfl rfl (mc_mo_borrowed (a1) w6) (fun x7 w8 => ?_)
          exact sm_iret ii_mo_mark_73 rfl
        · refine sm_aload_n ii_mo_mark_74 rfl ?_
          refine sm_getR 63 ii_mo_mark_75 fl_mo_7 (k := 62) rfl ?_
          refine sm_iconst (1 : Int32) ii_mo_mark_78 (by decide) ?_
          refine sm_iald ii_mo_mark_79 (k := 63) rfl (fun x9 => ?_)
          refine sm_iconst (2 : Int32) ii_mo_mark_80 (by decide) ?_
          refine sm_irem ii_mo_mark_81 ?_
          exact sm_iret ii_mo_mark_82 rfl
        · refine sm_aload_n ii_mo_mark_83 rfl ?_
          refine sm_iload_n ii_mo_mark_84 rfl ?_
          refine sm_cvI [.int a1] [] rfl ii_mo_mark_85 ml_mo_175 (mf_mo_othersWhoCan) (mv_mo_othersWhoCan) (Nat.le_of_ble_eq_true rfl) rfl 7 rfl rfl rfl rfl (mc_mo_othersWhoCan (a1) w6) (fun x11 w12 => ?_)
          exact sm_iret ii_mo_mark_88 rfl
        · refine sm_aload_n ii_mo_mark_89 rfl ?_
          refine sm_getR 65 ii_mo_mark_90 fl_mo_16 (k := 62) rfl ?_
          refine sm_iload_n ii_mo_mark_93 rfl ?_
          refine sm_iald ii_mo_mark_94 (k := 65) rfl (fun x13 => ?_)
          refine sm_bipush (21 : Int32) ii_mo_mark_95 (by decide) ?_
          refine sm_iand ii_mo_mark_97 ?_
          refine sm_csI [.int (x13 &&& (21 : Int32))] [] rfl ii_mo_mark_98 ml_mo_178 (mf_mo_bits) (mv_mo_bits) (Nat.le_of_ble_eq_true rfl) rfl rfl rfl (mc_mo_bits ((x13 &&& (21 : Int32))) w6) (fun x14 w15 => ?_)
          exact sm_iret ii_mo_mark_101 rfl
        · refine sm_aload_n ii_mo_mark_102 rfl ?_
          refine sm_iload_n ii_mo_mark_103 rfl ?_
          refine sm_cvI [.int a1] [] rfl ii_mo_mark_104 ml_mo_181 (mf_mo_othersIn) (mv_mo_othersIn) (Nat.le_of_ble_eq_true rfl) rfl 7 rfl rfl rfl rfl (mc_mo_othersIn (a1) w6) (fun x16 w17 => ?_)
          exact sm_iret ii_mo_mark_107 rfl
set_option maxHeartbeats 4000000 in
set_option maxRecDepth 100000 in
theorem mc_mo_mark (a1 : Int32) (a2 : Int32) (w : sm_Mem) : sm_MC mi_mo_mark [.ref 62, .int a1, .int a2] w (ff_mo_mark a1 a2 w) := sm_MC_of (0, fun _ => 0) (by decide +kernel) (by decide) rfl (Nat.le_of_ble_eq_true rfl) (ss_mo_mark_0 a1 a2 w)
abbrev mi_hs_isFull : sm_MI := (⟨"HerOrders$House", "isFull", "()Z"⟩, prog_3_method_4_code, 1, (some .boolean), 1)
set_option maxRecDepth 100000 in
theorem mf_hs_isFull : sm_MF mi_hs_isFull 0 := ⟨List.mem_of_getElem? (i := 569) (by decide +kernel), List.mem_of_getElem? (i := 128) (by decide +kernel), ⟨by decide, by decide⟩, by decide +kernel⟩
set_option maxRecDepth 100000 in
theorem mv_hs_isFull : sm_MFV mi_hs_isFull := ⟨List.mem_of_getElem? (i := 568) (by decide +kernel), List.mem_of_getElem? (i := 23) (by decide +kernel)⟩
set_option maxRecDepth 100000 in
theorem ii_hs_isFull_0 : sm_D prog_3_method_4_code 0 1 1 (.aload_n 0) := ⟨by decide +kernel, rfl⟩
set_option maxRecDepth 100000 in
theorem ii_hs_isFull_1 : sm_D prog_3_method_4_code 1 3 4 (.getfield 41) := ⟨by decide +kernel, rfl⟩
set_option maxRecDepth 100000 in
theorem ii_hs_isFull_4 : sm_D prog_3_method_4_code 4 3 7 (.getfield 68) := ⟨by decide +kernel, rfl⟩
set_option maxRecDepth 100000 in
theorem ii_hs_isFull_7 : sm_D prog_3_method_4_code 7 2 9 (.bipush 40) := ⟨by decide +kernel, rfl⟩
set_option maxRecDepth 100000 in
theorem ii_hs_isFull_9 : sm_D prog_3_method_4_code 9 3 12 (.if_icmp .lt 7) := ⟨by decide +kernel, rfl⟩
set_option maxRecDepth 100000 in
theorem ii_hs_isFull_12 : sm_D prog_3_method_4_code 12 1 13 (.iconst 1) := ⟨by decide +kernel, rfl⟩
set_option maxRecDepth 100000 in
theorem ii_hs_isFull_13 : sm_D prog_3_method_4_code 13 3 16 (.goto 4) := ⟨by decide +kernel, rfl⟩
set_option maxRecDepth 100000 in
theorem ii_hs_isFull_16 : sm_D prog_3_method_4_code 16 1 17 (.iconst 0) := ⟨by decide +kernel, rfl⟩
set_option maxRecDepth 100000 in
theorem ii_hs_isFull_17 : sm_D prog_3_method_4_code 17 1 18 (.ireturn) := ⟨by decide +kernel, rfl⟩
noncomputable def ff_hs_isFull   (w : sm_Mem) : sm_R := (if (w.1 45 3) < (40 : Int32) then (some (.int (0 : Int32), w)) else (some (.int (1 : Int32), w)))
set_option maxHeartbeats 4000000 in
set_option maxRecDepth 100000 in
theorem ss_hs_isFull_0 {E : Nat × (Nat → Int32)}   (w : sm_Mem) : sm_Sim E (mi_hs_isFull) 0 [some (.ref 36)] [] w (ff_hs_isFull   w) := by
  unfold ff_hs_isFull
  refine sm_aload_n ii_hs_isFull_0 rfl ?_
  refine sm_getR 45 ii_hs_isFull_1 fl_hs_41 (k := 36) rfl ?_
  refine sm_getI ii_hs_isFull_4 fl_hs_68 (k := 45) rfl ?_
  refine sm_bipush (40 : Int32) ii_hs_isFull_7 (by decide) ?_
  refine sm_icmp_lt 16 ii_hs_isFull_9 (by decide) ?_ ?_
  · refine sm_iconst (0 : Int32) ii_hs_isFull_16 (by decide) ?_
    exact sm_zret1 ii_hs_isFull_17 rfl (by decide)
  · refine sm_iconst (1 : Int32) ii_hs_isFull_12 (by decide) ?_
    refine sm_goto 17 ii_hs_isFull_13 (by decide) ?_
    exact sm_zret1 ii_hs_isFull_17 rfl (by decide)
set_option maxHeartbeats 4000000 in
set_option maxRecDepth 100000 in
theorem mc_hs_isFull  (w : sm_Mem) : sm_MC mi_hs_isFull [.ref 36] w (ff_hs_isFull  w) := sm_MC_of (0, fun _ => 0) (by decide +kernel) (by decide) rfl (Nat.le_of_ble_eq_true rfl) (ss_hs_isFull_0  w)
abbrev mi_de_add : sm_MI := (⟨"HerOrders$Deeds", "add", "(III)V"⟩, prog_2_method_3_code, 4, none, 2)
set_option maxRecDepth 100000 in
theorem mf_de_add : sm_MF mi_de_add 3 := ⟨List.mem_of_getElem? (i := 577) (by decide +kernel), List.mem_of_getElem? (i := 127) (by decide +kernel), ⟨by decide, by decide⟩, by decide +kernel⟩
set_option maxRecDepth 100000 in
theorem mv_de_add : sm_MFV mi_de_add := ⟨List.mem_of_getElem? (i := 576) (by decide +kernel), List.mem_of_getElem? (i := 25) (by decide +kernel)⟩
set_option maxRecDepth 100000 in
theorem ii_de_add_0 : sm_D prog_2_method_3_code 0 1 1 (.aload_n 0) := ⟨by decide +kernel, rfl⟩
set_option maxRecDepth 100000 in
theorem ii_de_add_1 : sm_D prog_2_method_3_code 1 3 4 (.getfield 21) := ⟨by decide +kernel, rfl⟩
set_option maxRecDepth 100000 in
theorem ii_de_add_4 : sm_D prog_2_method_3_code 4 2 6 (.bipush 40) := ⟨by decide +kernel, rfl⟩
set_option maxRecDepth 100000 in
theorem ii_de_add_6 : sm_D prog_2_method_3_code 6 3 9 (.invokestatic 25) := ⟨by decide +kernel, rfl⟩
set_option maxRecDepth 100000 in
theorem ii_de_add_9 : sm_D prog_2_method_3_code 9 3 12 (.ifCond .ne 4) := ⟨by decide +kernel, rfl⟩
set_option maxRecDepth 100000 in
theorem ii_de_add_12 : sm_D prog_2_method_3_code 12 1 13 (.return_) := ⟨by decide +kernel, rfl⟩
set_option maxRecDepth 100000 in
theorem ii_de_add_13 : sm_D prog_2_method_3_code 13 1 14 (.aload_n 0) := ⟨by decide +kernel, rfl⟩
set_option maxRecDepth 100000 in
theorem ii_de_add_14 : sm_D prog_2_method_3_code 14 3 17 (.getfield 9) := ⟨by decide +kernel, rfl⟩
set_option maxRecDepth 100000 in
theorem ii_de_add_17 : sm_D prog_2_method_3_code 17 1 18 (.aload_n 0) := ⟨by decide +kernel, rfl⟩
set_option maxRecDepth 100000 in
theorem ii_de_add_18 : sm_D prog_2_method_3_code 18 3 21 (.getfield 21) := ⟨by decide +kernel, rfl⟩
set_option maxRecDepth 100000 in
theorem ii_de_add_21 : sm_D prog_2_method_3_code 21 1 22 (.iload_n 1) := ⟨by decide +kernel, rfl⟩
set_option maxRecDepth 100000 in
theorem ii_de_add_22 : sm_D prog_2_method_3_code 22 1 23 (.iastore) := ⟨by decide +kernel, rfl⟩
set_option maxRecDepth 100000 in
theorem ii_de_add_23 : sm_D prog_2_method_3_code 23 1 24 (.aload_n 0) := ⟨by decide +kernel, rfl⟩
set_option maxRecDepth 100000 in
theorem ii_de_add_24 : sm_D prog_2_method_3_code 24 3 27 (.getfield 15) := ⟨by decide +kernel, rfl⟩
set_option maxRecDepth 100000 in
theorem ii_de_add_27 : sm_D prog_2_method_3_code 27 1 28 (.aload_n 0) := ⟨by decide +kernel, rfl⟩
set_option maxRecDepth 100000 in
theorem ii_de_add_28 : sm_D prog_2_method_3_code 28 3 31 (.getfield 21) := ⟨by decide +kernel, rfl⟩
set_option maxRecDepth 100000 in
theorem ii_de_add_31 : sm_D prog_2_method_3_code 31 1 32 (.iload_n 2) := ⟨by decide +kernel, rfl⟩
set_option maxRecDepth 100000 in
theorem ii_de_add_32 : sm_D prog_2_method_3_code 32 1 33 (.iastore) := ⟨by decide +kernel, rfl⟩
set_option maxRecDepth 100000 in
theorem ii_de_add_33 : sm_D prog_2_method_3_code 33 1 34 (.aload_n 0) := ⟨by decide +kernel, rfl⟩
set_option maxRecDepth 100000 in
theorem ii_de_add_34 : sm_D prog_2_method_3_code 34 3 37 (.getfield 18) := ⟨by decide +kernel, rfl⟩
set_option maxRecDepth 100000 in
theorem ii_de_add_37 : sm_D prog_2_method_3_code 37 1 38 (.aload_n 0) := ⟨by decide +kernel, rfl⟩
set_option maxRecDepth 100000 in
theorem ii_de_add_38 : sm_D prog_2_method_3_code 38 3 41 (.getfield 21) := ⟨by decide +kernel, rfl⟩
set_option maxRecDepth 100000 in
theorem ii_de_add_41 : sm_D prog_2_method_3_code 41 1 42 (.iload_n 3) := ⟨by decide +kernel, rfl⟩
set_option maxRecDepth 100000 in
theorem ii_de_add_42 : sm_D prog_2_method_3_code 42 1 43 (.iastore) := ⟨by decide +kernel, rfl⟩
set_option maxRecDepth 100000 in
theorem ii_de_add_43 : sm_D prog_2_method_3_code 43 1 44 (.aload_n 0) := ⟨by decide +kernel, rfl⟩
set_option maxRecDepth 100000 in
theorem ii_de_add_44 : sm_D prog_2_method_3_code 44 1 45 (.dup) := ⟨by decide +kernel, rfl⟩
set_option maxRecDepth 100000 in
theorem ii_de_add_45 : sm_D prog_2_method_3_code 45 3 48 (.getfield 21) := ⟨by decide +kernel, rfl⟩
set_option maxRecDepth 100000 in
theorem ii_de_add_48 : sm_D prog_2_method_3_code 48 1 49 (.iconst 1) := ⟨by decide +kernel, rfl⟩
set_option maxRecDepth 100000 in
theorem ii_de_add_49 : sm_D prog_2_method_3_code 49 1 50 (.iadd) := ⟨by decide +kernel, rfl⟩
set_option maxRecDepth 100000 in
theorem ii_de_add_50 : sm_D prog_2_method_3_code 50 3 53 (.putfield 21) := ⟨by decide +kernel, rfl⟩
set_option maxRecDepth 100000 in
theorem ii_de_add_53 : sm_D prog_2_method_3_code 53 1 54 (.return_) := ⟨by decide +kernel, rfl⟩
noncomputable def ff_de_add  (a0 : Nat) (a1 : Int32) (a2 : Int32) (a3 : Int32) (w : sm_Mem) : sm_R := (Option.bind (sm_gI w a0 0 3) fun x1 => (sm_cI (ff_ho_isWithin (x1) ((40 : Int32)) w) fun x2 w3 => (if x2 = (0 : Int32) then (some (.null, w3)) else (Option.bind (sm_fk a0 0 0 2) fun r4 => (Option.bind (sm_gI w3 a0 0 3) fun x5 => (Option.bind (sm_wrs w3 r4 x5 a1) fun w6 => (Option.bind (sm_fk a0 0 1 2) fun r7 => (Option.bind (sm_gI w6 a0 0 3) fun x8 => (Option.bind (sm_wrs w6 r7 x8 a2) fun w9 => (Option.bind (sm_fk a0 0 2 2) fun r10 => (Option.bind (sm_gI w9 a0 0 3) fun x11 => (Option.bind (sm_wrs w9 r10 x11 a3) fun w12 => (Option.bind (sm_gI w12 a0 0 3) fun x13 => (Option.bind (sm_pI w12 a0 0 3 (x13 + (1 : Int32))) fun w14 => (some (.null, w14))))))))))))))))
set_option maxHeartbeats 4000000 in
set_option maxRecDepth 100000 in
theorem ss_de_add_0 {E : Nat × (Nat → Int32)}  (a0 : Nat) (a1 : Int32) (a2 : Int32) (a3 : Int32) (w : sm_Mem) : sm_Sim E (mi_de_add) 0 [some (.ref a0), some (.int a1), some (.int a2), some (.int a3)] [] w (ff_de_add  a0 a1 a2 a3 w) := by
  unfold ff_de_add
  refine sm_aload_n ii_de_add_0 rfl ?_
  refine sm_getIs ii_de_add_1 fl_de_21 (fun x1 => ?_)
  refine sm_bipush (40 : Int32) ii_de_add_4 (by decide) ?_
  refine sm_csI [.int x1, .int (40 : Int32)] [] rfl ii_de_add_6 ml_de_25 (mf_ho_isWithin) (mv_ho_isWithin) (Nat.le_of_ble_eq_true rfl) rfl rfl rfl (mc_ho_isWithin (x1) ((40 : Int32)) w) (fun x2 w3 => ?_)
  refine sm_if_ne 13 ii_de_add_9 (by decide) ?_ ?_
  · exact sm_vret ii_de_add_12 rfl
  · refine sm_aload_n ii_de_add_13 rfl ?_
    refine sm_getRs ii_de_add_14 fl_de_9 (fun r4 => ?_)
    refine sm_aload_n ii_de_add_17 rfl ?_
    refine sm_getIs ii_de_add_18 fl_de_21 (fun x5 => ?_)
    refine sm_iload_n ii_de_add_21 rfl ?_
    refine sm_iasts ii_de_add_22 (fun w6 => ?_)
    refine sm_aload_n ii_de_add_23 rfl ?_
    refine sm_getRs ii_de_add_24 fl_de_15 (fun r7 => ?_)
    refine sm_aload_n ii_de_add_27 rfl ?_
    refine sm_getIs ii_de_add_28 fl_de_21 (fun x8 => ?_)
    refine sm_iload_n ii_de_add_31 rfl ?_
    refine sm_iasts ii_de_add_32 (fun w9 => ?_)
    refine sm_aload_n ii_de_add_33 rfl ?_
    refine sm_getRs ii_de_add_34 fl_de_18 (fun r10 => ?_)
    refine sm_aload_n ii_de_add_37 rfl ?_
    refine sm_getIs ii_de_add_38 fl_de_21 (fun x11 => ?_)
    refine sm_iload_n ii_de_add_41 rfl ?_
    refine sm_iasts ii_de_add_42 (fun w12 => ?_)
    refine sm_aload_n ii_de_add_43 rfl ?_
    refine sm_dupR ii_de_add_44 ?_
    refine sm_getIs ii_de_add_45 fl_de_21 (fun x13 => ?_)
    refine sm_iconst (1 : Int32) ii_de_add_48 (by decide) ?_
    refine sm_iadd ii_de_add_49 ?_
    refine sm_putIs ii_de_add_50 fp_de_21 (fun w14 => ?_)
    exact sm_vret ii_de_add_53 rfl
set_option maxHeartbeats 4000000 in
set_option maxRecDepth 100000 in
theorem mc_de_add (a0 : Nat) (a1 : Int32) (a2 : Int32) (a3 : Int32) (w : sm_Mem) : sm_MC mi_de_add [.ref a0, .int a1, .int a2, .int a3] w (ff_de_add a0 a1 a2 a3 w) := sm_MC_of (0, fun _ => 0) (by decide +kernel) (by decide) rfl (Nat.le_of_ble_eq_true rfl) (ss_de_add_0 a0 a1 a2 a3 w)
abbrev mi_hs_enact : sm_MI := (⟨"HerOrders$House", "enact", "(III)V"⟩, prog_3_method_5_code, 4, none, 3)
set_option maxRecDepth 100000 in
theorem mf_hs_enact : sm_MF mi_hs_enact 3 := ⟨List.mem_of_getElem? (i := 573) (by decide +kernel), List.mem_of_getElem? (i := 128) (by decide +kernel), ⟨by decide, by decide⟩, by decide +kernel⟩
set_option maxRecDepth 100000 in
theorem mv_hs_enact : sm_MFV mi_hs_enact := ⟨List.mem_of_getElem? (i := 572) (by decide +kernel), List.mem_of_getElem? (i := 24) (by decide +kernel)⟩
set_option maxRecDepth 100000 in
theorem ii_hs_enact_0 : sm_D prog_3_method_5_code 0 1 1 (.aload_n 0) := ⟨by decide +kernel, rfl⟩
set_option maxRecDepth 100000 in
theorem ii_hs_enact_1 : sm_D prog_3_method_5_code 1 3 4 (.getfield 41) := ⟨by decide +kernel, rfl⟩
set_option maxRecDepth 100000 in
theorem ii_hs_enact_4 : sm_D prog_3_method_5_code 4 1 5 (.iload_n 1) := ⟨by decide +kernel, rfl⟩
set_option maxRecDepth 100000 in
theorem ii_hs_enact_5 : sm_D prog_3_method_5_code 5 1 6 (.iload_n 2) := ⟨by decide +kernel, rfl⟩
set_option maxRecDepth 100000 in
theorem ii_hs_enact_6 : sm_D prog_3_method_5_code 6 1 7 (.iload_n 3) := ⟨by decide +kernel, rfl⟩
set_option maxRecDepth 100000 in
theorem ii_hs_enact_7 : sm_D prog_3_method_5_code 7 3 10 (.invokevirtual 69) := ⟨by decide +kernel, rfl⟩
set_option maxRecDepth 100000 in
theorem ii_hs_enact_10 : sm_D prog_3_method_5_code 10 1 11 (.aload_n 0) := ⟨by decide +kernel, rfl⟩
set_option maxRecDepth 100000 in
theorem ii_hs_enact_11 : sm_D prog_3_method_5_code 11 1 12 (.iload_n 1) := ⟨by decide +kernel, rfl⟩
set_option maxRecDepth 100000 in
theorem ii_hs_enact_12 : sm_D prog_3_method_5_code 12 1 13 (.iload_n 2) := ⟨by decide +kernel, rfl⟩
set_option maxRecDepth 100000 in
theorem ii_hs_enact_13 : sm_D prog_3_method_5_code 13 1 14 (.iload_n 3) := ⟨by decide +kernel, rfl⟩
set_option maxRecDepth 100000 in
theorem ii_hs_enact_14 : sm_D prog_3_method_5_code 14 3 17 (.invokevirtual 73) := ⟨by decide +kernel, rfl⟩
set_option maxRecDepth 100000 in
theorem ii_hs_enact_17 : sm_D prog_3_method_5_code 17 1 18 (.return_) := ⟨by decide +kernel, rfl⟩
noncomputable def ff_hs_enact  (a1 : Int32) (a2 : Int32) (a3 : Int32) (w : sm_Mem) : sm_R := (sm_cV (ff_de_add (45) (a1) (a2) (a3) w) fun w2 => (sm_cV (ff_hs_perform (a1) (a2) (a3) w2) fun w4 => (some (.null, w4))))
set_option maxHeartbeats 4000000 in
set_option maxRecDepth 100000 in
theorem ss_hs_enact_0 {E : Nat × (Nat → Int32)}  (a1 : Int32) (a2 : Int32) (a3 : Int32) (w : sm_Mem) : sm_Sim E (mi_hs_enact) 0 [some (.ref 36), some (.int a1), some (.int a2), some (.int a3)] [] w (ff_hs_enact  a1 a2 a3 w) := by
  unfold ff_hs_enact
  refine sm_aload_n ii_hs_enact_0 rfl ?_
  refine sm_getR 45 ii_hs_enact_1 fl_hs_41 (k := 36) rfl ?_
  refine sm_iload_n ii_hs_enact_4 rfl ?_
  refine sm_iload_n ii_hs_enact_5 rfl ?_
  refine sm_iload_n ii_hs_enact_6 rfl ?_
  refine sm_cvV [.int a1, .int a2, .int a3] [] rfl ii_hs_enact_7 ml_hs_69 (mf_de_add) (mv_de_add) (Nat.le_of_ble_eq_true rfl) rfl 0 rfl rfl rfl rfl (mc_de_add (45) (a1) (a2) (a3) w) (fun w2 => ?_)
  refine sm_aload_n ii_hs_enact_10 rfl ?_
  refine sm_iload_n ii_hs_enact_11 rfl ?_
  refine sm_iload_n ii_hs_enact_12 rfl ?_
  refine sm_iload_n ii_hs_enact_13 rfl ?_
  refine sm_cvV [.int a1, .int a2, .int a3] [] rfl ii_hs_enact_14 ml_hs_73 (mf_hs_perform) (mv_hs_perform) (Nat.le_of_ble_eq_true rfl) rfl 1 rfl rfl rfl rfl (mc_hs_perform (a1) (a2) (a3) w2) (fun w4 => ?_)
  exact sm_vret ii_hs_enact_17 rfl
set_option maxHeartbeats 4000000 in
set_option maxRecDepth 100000 in
theorem mc_hs_enact (a1 : Int32) (a2 : Int32) (a3 : Int32) (w : sm_Mem) : sm_MC mi_hs_enact [.ref 36, .int a1, .int a2, .int a3] w (ff_hs_enact a1 a2 a3 w) := sm_MC_of (0, fun _ => 0) (by decide +kernel) (by decide) rfl (Nat.le_of_ble_eq_true rfl) (ss_hs_enact_0 a1 a2 a3 w)
abbrev mi_ho_say : sm_MI := (⟨"HerOrders", "say", "(II)I"⟩, prog_1_method_14_code, 3, (some .int), 4)
set_option maxRecDepth 100000 in
theorem mf_ho_say : sm_MF mi_ho_say 2 := ⟨List.mem_of_getElem? (i := 564) (by decide +kernel), List.mem_of_getElem? (i := 124) (by decide +kernel), ⟨by decide, by decide⟩, by decide +kernel⟩
set_option maxRecDepth 100000 in
theorem mv_ho_say : sm_MFV mi_ho_say := ⟨List.mem_of_getElem? (i := 562) (by decide +kernel), List.mem_of_getElem? (i := 563) (by decide +kernel)⟩
set_option maxRecDepth 100000 in
theorem ii_ho_say_0 : sm_D prog_1_method_14_code 0 1 1 (.aload_n 0) := ⟨by decide +kernel, rfl⟩
set_option maxRecDepth 100000 in
theorem ii_ho_say_1 : sm_D prog_1_method_14_code 1 1 2 (.iload_n 1) := ⟨by decide +kernel, rfl⟩
set_option maxRecDepth 100000 in
theorem ii_ho_say_2 : sm_D prog_1_method_14_code 2 3 5 (.invokevirtual 118) := ⟨by decide +kernel, rfl⟩
set_option maxRecDepth 100000 in
theorem ii_ho_say_5 : sm_D prog_1_method_14_code 5 3 8 (.ifCond .eq 12) := ⟨by decide +kernel, rfl⟩
set_option maxRecDepth 100000 in
theorem ii_ho_say_8 : sm_D prog_1_method_14_code 8 1 9 (.iload_n 2) := ⟨by decide +kernel, rfl⟩
set_option maxRecDepth 100000 in
theorem ii_ho_say_9 : sm_D prog_1_method_14_code 9 2 11 (.bipush 6) := ⟨by decide +kernel, rfl⟩
set_option maxRecDepth 100000 in
theorem ii_ho_say_11 : sm_D prog_1_method_14_code 11 3 14 (.invokestatic 81) := ⟨by decide +kernel, rfl⟩
set_option maxRecDepth 100000 in
theorem ii_ho_say_14 : sm_D prog_1_method_14_code 14 3 17 (.ifCond .ne 5) := ⟨by decide +kernel, rfl⟩
set_option maxRecDepth 100000 in
theorem ii_ho_say_17 : sm_D prog_1_method_14_code 17 1 18 (.iconst (-1)) := ⟨by decide +kernel, rfl⟩
set_option maxRecDepth 100000 in
theorem ii_ho_say_18 : sm_D prog_1_method_14_code 18 1 19 (.ireturn) := ⟨by decide +kernel, rfl⟩
set_option maxRecDepth 100000 in
theorem ii_ho_say_19 : sm_D prog_1_method_14_code 19 1 20 (.aload_n 0) := ⟨by decide +kernel, rfl⟩
set_option maxRecDepth 100000 in
theorem ii_ho_say_20 : sm_D prog_1_method_14_code 20 3 23 (.getfield 31) := ⟨by decide +kernel, rfl⟩
set_option maxRecDepth 100000 in
theorem ii_ho_say_23 : sm_D prog_1_method_14_code 23 1 24 (.iload_n 1) := ⟨by decide +kernel, rfl⟩
set_option maxRecDepth 100000 in
theorem ii_ho_say_24 : sm_D prog_1_method_14_code 24 1 25 (.iload_n 2) := ⟨by decide +kernel, rfl⟩
set_option maxRecDepth 100000 in
theorem ii_ho_say_25 : sm_D prog_1_method_14_code 25 3 28 (.invokevirtual 152) := ⟨by decide +kernel, rfl⟩
set_option maxRecDepth 100000 in
theorem ii_ho_say_28 : sm_D prog_1_method_14_code 28 3 31 (.ifCond .ne 6) := ⟨by decide +kernel, rfl⟩
set_option maxRecDepth 100000 in
theorem ii_ho_say_31 : sm_D prog_1_method_14_code 31 2 33 (.bipush (-4)) := ⟨by decide +kernel, rfl⟩
set_option maxRecDepth 100000 in
theorem ii_ho_say_33 : sm_D prog_1_method_14_code 33 1 34 (.ireturn) := ⟨by decide +kernel, rfl⟩
set_option maxRecDepth 100000 in
theorem ii_ho_say_34 : sm_D prog_1_method_14_code 34 1 35 (.aload_n 0) := ⟨by decide +kernel, rfl⟩
set_option maxRecDepth 100000 in
theorem ii_ho_say_35 : sm_D prog_1_method_14_code 35 3 38 (.getfield 31) := ⟨by decide +kernel, rfl⟩
set_option maxRecDepth 100000 in
theorem ii_ho_say_38 : sm_D prog_1_method_14_code 38 3 41 (.invokevirtual 155) := ⟨by decide +kernel, rfl⟩
set_option maxRecDepth 100000 in
theorem ii_ho_say_41 : sm_D prog_1_method_14_code 41 3 44 (.ifCond .eq 6) := ⟨by decide +kernel, rfl⟩
set_option maxRecDepth 100000 in
theorem ii_ho_say_44 : sm_D prog_1_method_14_code 44 2 46 (.bipush (-2)) := ⟨by decide +kernel, rfl⟩
set_option maxRecDepth 100000 in
theorem ii_ho_say_46 : sm_D prog_1_method_14_code 46 1 47 (.ireturn) := ⟨by decide +kernel, rfl⟩
set_option maxRecDepth 100000 in
theorem ii_ho_say_47 : sm_D prog_1_method_14_code 47 1 48 (.aload_n 0) := ⟨by decide +kernel, rfl⟩
set_option maxRecDepth 100000 in
theorem ii_ho_say_48 : sm_D prog_1_method_14_code 48 3 51 (.getfield 31) := ⟨by decide +kernel, rfl⟩
set_option maxRecDepth 100000 in
theorem ii_ho_say_51 : sm_D prog_1_method_14_code 51 1 52 (.iconst 0) := ⟨by decide +kernel, rfl⟩
set_option maxRecDepth 100000 in
theorem ii_ho_say_52 : sm_D prog_1_method_14_code 52 1 53 (.iload_n 1) := ⟨by decide +kernel, rfl⟩
set_option maxRecDepth 100000 in
theorem ii_ho_say_53 : sm_D prog_1_method_14_code 53 1 54 (.iload_n 2) := ⟨by decide +kernel, rfl⟩
set_option maxRecDepth 100000 in
theorem ii_ho_say_54 : sm_D prog_1_method_14_code 54 3 57 (.invokevirtual 158) := ⟨by decide +kernel, rfl⟩
set_option maxRecDepth 100000 in
theorem ii_ho_say_57 : sm_D prog_1_method_14_code 57 1 58 (.aload_n 0) := ⟨by decide +kernel, rfl⟩
set_option maxRecDepth 100000 in
theorem ii_ho_say_58 : sm_D prog_1_method_14_code 58 3 61 (.getfield 31) := ⟨by decide +kernel, rfl⟩
set_option maxRecDepth 100000 in
theorem ii_ho_say_61 : sm_D prog_1_method_14_code 61 3 64 (.getfield 162) := ⟨by decide +kernel, rfl⟩
set_option maxRecDepth 100000 in
theorem ii_ho_say_64 : sm_D prog_1_method_14_code 64 1 65 (.ireturn) := ⟨by decide +kernel, rfl⟩
noncomputable def ff_ho_say  (a1 : Int32) (a2 : Int32) (w : sm_Mem) : sm_R := (sm_cI (ff_ho_isSpeaker (a1) w) fun x1 w2 => (if x1 = (0 : Int32) then (some (.int (-1 : Int32), w2)) else (sm_cI (ff_ho_isWithin (a2) ((6 : Int32)) w2) fun x3 w4 => (if x3 = (0 : Int32) then (some (.int (-1 : Int32), w4)) else (sm_cI (ff_hs_can (a1) (a2) w4) fun x5 w6 => (if x5 = (0 : Int32) then (some (.int (-4 : Int32), w6)) else (sm_cI (ff_hs_isFull  w6) fun x7 w8 => (if x7 = (0 : Int32) then (sm_cV (ff_hs_enact ((0 : Int32)) (a1) (a2) w8) fun w10 => (some (.int (w10.1 36 11), w10))) else (some (.int (-2 : Int32), w8))))))))))
set_option maxHeartbeats 4000000 in
set_option maxRecDepth 100000 in
theorem ss_ho_say_0 {E : Nat × (Nat → Int32)}  (a1 : Int32) (a2 : Int32) (w : sm_Mem) : sm_Sim E (mi_ho_say) 0 [some (.ref 0), some (.int a1), some (.int a2)] [] w (ff_ho_say  a1 a2 w) := by
  unfold ff_ho_say
  refine sm_aload_n ii_ho_say_0 rfl ?_
  refine sm_iload_n ii_ho_say_1 rfl ?_
  refine sm_cvI [.int a1] [] rfl ii_ho_say_2 ml_ho_118 (mf_ho_isSpeaker) (mv_ho_isSpeaker) (Nat.le_of_ble_eq_true rfl) rfl 6 rfl rfl rfl rfl (mc_ho_isSpeaker (a1) w) (fun x1 w2 => ?_)
  refine sm_if_eq 17 ii_ho_say_5 (by decide) ?_ ?_
  · refine sm_iconst (-1 : Int32) ii_ho_say_17 (by decide) ?_
    exact sm_iret ii_ho_say_18 rfl
  · refine sm_iload_n ii_ho_say_8 rfl ?_
    refine sm_bipush (6 : Int32) ii_ho_say_9 (by decide) ?_
    refine sm_csI [.int a2, .int (6 : Int32)] [] rfl ii_ho_say_11 ml_ho_81 (mf_ho_isWithin) (mv_ho_isWithin) (Nat.le_of_ble_eq_true rfl) rfl rfl rfl (mc_ho_isWithin (a2) ((6 : Int32)) w2) (fun x3 w4 => ?_)
    refine sm_if_ne 19 ii_ho_say_14 (by decide) ?_ ?_
    · refine sm_iconst (-1 : Int32) ii_ho_say_17 (by decide) ?_
      exact sm_iret ii_ho_say_18 rfl
    · refine sm_aload_n ii_ho_say_19 rfl ?_
      refine sm_getR 36 ii_ho_say_20 fl_ho_31 (k := 0) rfl ?_
      refine sm_iload_n ii_ho_say_23 rfl ?_
      refine sm_iload_n ii_ho_say_24 rfl ?_
      refine sm_cvI [.int a1, .int a2] [] rfl ii_ho_say_25 ml_ho_152 (mf_hs_can) (mv_hs_can) (Nat.le_of_ble_eq_true rfl) rfl 1 rfl rfl rfl rfl (mc_hs_can (a1) (a2) w4) (fun x5 w6 => ?_)
      refine sm_if_ne 34 ii_ho_say_28 (by decide) ?_ ?_
      · refine sm_bipush (-4 : Int32) ii_ho_say_31 (by decide) ?_
        exact sm_iret ii_ho_say_33 rfl
      · refine sm_aload_n ii_ho_say_34 rfl ?_
        refine sm_getR 36 ii_ho_say_35 fl_ho_31 (k := 0) rfl ?_
        refine sm_cvI [] [] rfl ii_ho_say_38 ml_ho_155 (mf_hs_isFull) (mv_hs_isFull) (Nat.le_of_ble_eq_true rfl) rfl 1 rfl rfl rfl rfl (mc_hs_isFull  w6) (fun x7 w8 => ?_)
        refine sm_if_eq 47 ii_ho_say_41 (by decide) ?_ ?_
        · refine sm_aload_n ii_ho_say_47 rfl ?_
          refine sm_getR 36 ii_ho_say_48 fl_ho_31 (k := 0) rfl ?_
          refine sm_iconst (0 : Int32) ii_ho_say_51 (by decide) ?_
          refine sm_iload_n ii_ho_say_52 rfl ?_
          refine sm_iload_n ii_ho_say_53 rfl ?_
          refine sm_cvV [.int (0 : Int32), .int a1, .int a2] [] rfl ii_ho_say_54 ml_ho_158 (mf_hs_enact) (mv_hs_enact) (Nat.le_of_ble_eq_true rfl) rfl 1 rfl rfl rfl rfl (mc_hs_enact ((0 : Int32)) (a1) (a2) w8) (fun w10 => ?_)
          refine sm_aload_n ii_ho_say_57 rfl ?_
          refine sm_getR 36 ii_ho_say_58 fl_ho_31 (k := 0) rfl ?_
          refine sm_getI ii_ho_say_61 fl_ho_162 (k := 36) rfl ?_
          exact sm_iret ii_ho_say_64 rfl
        · refine sm_bipush (-2 : Int32) ii_ho_say_44 (by decide) ?_
          exact sm_iret ii_ho_say_46 rfl
set_option maxHeartbeats 4000000 in
set_option maxRecDepth 100000 in
theorem mc_ho_say (a1 : Int32) (a2 : Int32) (w : sm_Mem) : sm_MC mi_ho_say [.ref 0, .int a1, .int a2] w (ff_ho_say a1 a2 w) := sm_MC_of (0, fun _ => 0) (by decide +kernel) (by decide) rfl (Nat.le_of_ble_eq_true rfl) (ss_ho_say_0 a1 a2 w)
abbrev mi_mo_isWord : sm_MI := (⟨"HerOrdersModel", "isWord", "(I)Z"⟩, prog_9_method_29_code, 1, (some .boolean), 2)
set_option maxRecDepth 100000 in
theorem mf_mo_isWord : sm_MF mi_mo_isWord 1 := ⟨List.mem_of_getElem? (i := 1194) (by decide +kernel), List.mem_of_getElem? (i := 132) (by decide +kernel), ⟨by decide, by decide⟩, by decide +kernel⟩
set_option maxRecDepth 100000 in
theorem mv_mo_isWord : sm_MFS mi_mo_isWord := List.mem_of_getElem? (i := 1193) (by decide +kernel)
set_option maxRecDepth 100000 in
theorem ii_mo_isWord_0 : sm_D prog_9_method_29_code 0 1 1 (.iload_n 0) := ⟨by decide +kernel, rfl⟩
set_option maxRecDepth 100000 in
theorem ii_mo_isWord_1 : sm_D prog_9_method_29_code 1 1 2 (.i2l) := ⟨by decide +kernel, rfl⟩
set_option maxRecDepth 100000 in
theorem ii_mo_isWord_2 : sm_D prog_9_method_29_code 2 1 3 (.lconst 0) := ⟨by decide +kernel, rfl⟩
set_option maxRecDepth 100000 in
theorem ii_mo_isWord_3 : sm_D prog_9_method_29_code 3 3 6 (.ldc2_w 69) := ⟨by decide +kernel, rfl⟩
set_option maxRecDepth 100000 in
theorem ii_mo_isWord_6 : sm_D prog_9_method_29_code 6 3 9 (.invokestatic 71) := ⟨by decide +kernel, rfl⟩
set_option maxRecDepth 100000 in
theorem ii_mo_isWord_9 : sm_D prog_9_method_29_code 9 1 10 (.ireturn) := ⟨by decide +kernel, rfl⟩
noncomputable def ff_mo_isWord  (a0 : Int32) (w : sm_Mem) : sm_R := (sm_cI (ff_mo_in ((Int32.toInt64 a0)) ((0 : Int64)) ((5 : Int64)) w) fun x1 w2 => (sm_rz x1 w2))
set_option maxHeartbeats 4000000 in
set_option maxRecDepth 100000 in
theorem ss_mo_isWord_0 {E : Nat × (Nat → Int32)}  (a0 : Int32) (w : sm_Mem) : sm_Sim E (mi_mo_isWord) 0 [some (.int a0)] [] w (ff_mo_isWord  a0 w) := by
  unfold ff_mo_isWord
  refine sm_iload_n ii_mo_isWord_0 rfl ?_
  refine sm_i2l ii_mo_isWord_1 ?_
  refine sm_lconst (0 : Int64) ii_mo_isWord_2 (by decide) ?_
  refine sm_ldc2 (5 : Int64) ii_mo_isWord_3 (List.mem_of_getElem? (i := 1040) (by decide +kernel)) ?_
  refine sm_csI [.long (Int32.toInt64 a0), .long (0 : Int64), .long (5 : Int64)] [] rfl ii_mo_isWord_6 ml_mo_71 (mf_mo_in) (mv_mo_in) (Nat.le_of_ble_eq_true rfl) rfl rfl rfl (mc_mo_in ((Int32.toInt64 a0)) ((0 : Int64)) ((5 : Int64)) w) (fun x1 w2 => ?_)
  exact sm_zret ii_mo_isWord_9 rfl
set_option maxHeartbeats 4000000 in
set_option maxRecDepth 100000 in
theorem mc_mo_isWord (a0 : Int32) (w : sm_Mem) : sm_MC mi_mo_isWord [.int a0] w (ff_mo_isWord a0 w) := sm_MC_of (0, fun _ => 0) (by decide +kernel) (by decide) rfl (Nat.le_of_ble_eq_true rfl) (ss_mo_isWord_0 a0 w)
abbrev mi_mo_keepPast : sm_MI := (⟨"HerOrdersModel", "keepPast", "()V"⟩, prog_9_method_45_code, 2, none, 1)
set_option maxRecDepth 100000 in
theorem mf_mo_keepPast : sm_MF mi_mo_keepPast 0 := ⟨List.mem_of_getElem? (i := 1198) (by decide +kernel), List.mem_of_getElem? (i := 132) (by decide +kernel), ⟨by decide, by decide⟩, by decide +kernel⟩
set_option maxRecDepth 100000 in
theorem mv_mo_keepPast : sm_MFV mi_mo_keepPast := ⟨List.mem_of_getElem? (i := 1197) (by decide +kernel), List.mem_of_getElem? (i := 93) (by decide +kernel)⟩
set_option maxRecDepth 100000 in
theorem ii_mo_keepPast_0 : sm_D prog_9_method_45_code 0 1 1 (.iconst 0) := ⟨by decide +kernel, rfl⟩
set_option maxRecDepth 100000 in
theorem ii_mo_keepPast_1 : sm_D prog_9_method_45_code 1 1 2 (.istore_n 1) := ⟨by decide +kernel, rfl⟩
set_option maxRecDepth 100000 in
theorem ii_mo_keepPast_2 : sm_D prog_9_method_45_code 2 1 3 (.iload_n 1) := ⟨by decide +kernel, rfl⟩
set_option maxRecDepth 100000 in
theorem ii_mo_keepPast_3 : sm_D prog_9_method_45_code 3 2 5 (.bipush 31) := ⟨by decide +kernel, rfl⟩
set_option maxRecDepth 100000 in
theorem ii_mo_keepPast_5 : sm_D prog_9_method_45_code 5 3 8 (.if_icmp .ge 36) := ⟨by decide +kernel, rfl⟩
set_option maxRecDepth 100000 in
theorem ii_mo_keepPast_8 : sm_D prog_9_method_45_code 8 1 9 (.aload_n 0) := ⟨by decide +kernel, rfl⟩
set_option maxRecDepth 100000 in
theorem ii_mo_keepPast_9 : sm_D prog_9_method_45_code 9 3 12 (.getfield 7) := ⟨by decide +kernel, rfl⟩
set_option maxRecDepth 100000 in
theorem ii_mo_keepPast_12 : sm_D prog_9_method_45_code 12 2 14 (.bipush 32) := ⟨by decide +kernel, rfl⟩
set_option maxRecDepth 100000 in
theorem ii_mo_keepPast_14 : sm_D prog_9_method_45_code 14 2 16 (.bipush 31) := ⟨by decide +kernel, rfl⟩
set_option maxRecDepth 100000 in
theorem ii_mo_keepPast_16 : sm_D prog_9_method_45_code 16 1 17 (.aload_n 0) := ⟨by decide +kernel, rfl⟩
set_option maxRecDepth 100000 in
theorem ii_mo_keepPast_17 : sm_D prog_9_method_45_code 17 3 20 (.getfield 7) := ⟨by decide +kernel, rfl⟩
set_option maxRecDepth 100000 in
theorem ii_mo_keepPast_20 : sm_D prog_9_method_45_code 20 1 21 (.iconst 0) := ⟨by decide +kernel, rfl⟩
set_option maxRecDepth 100000 in
theorem ii_mo_keepPast_21 : sm_D prog_9_method_45_code 21 1 22 (.iaload) := ⟨by decide +kernel, rfl⟩
set_option maxRecDepth 100000 in
theorem ii_mo_keepPast_22 : sm_D prog_9_method_45_code 22 1 23 (.imul) := ⟨by decide +kernel, rfl⟩
set_option maxRecDepth 100000 in
theorem ii_mo_keepPast_23 : sm_D prog_9_method_45_code 23 1 24 (.iadd) := ⟨by decide +kernel, rfl⟩
set_option maxRecDepth 100000 in
theorem ii_mo_keepPast_24 : sm_D prog_9_method_45_code 24 1 25 (.iload_n 1) := ⟨by decide +kernel, rfl⟩
set_option maxRecDepth 100000 in
theorem ii_mo_keepPast_25 : sm_D prog_9_method_45_code 25 1 26 (.iadd) := ⟨by decide +kernel, rfl⟩
set_option maxRecDepth 100000 in
theorem ii_mo_keepPast_26 : sm_D prog_9_method_45_code 26 1 27 (.aload_n 0) := ⟨by decide +kernel, rfl⟩
set_option maxRecDepth 100000 in
theorem ii_mo_keepPast_27 : sm_D prog_9_method_45_code 27 3 30 (.getfield 7) := ⟨by decide +kernel, rfl⟩
set_option maxRecDepth 100000 in
theorem ii_mo_keepPast_30 : sm_D prog_9_method_45_code 30 1 31 (.iconst 1) := ⟨by decide +kernel, rfl⟩
set_option maxRecDepth 100000 in
theorem ii_mo_keepPast_31 : sm_D prog_9_method_45_code 31 1 32 (.iload_n 1) := ⟨by decide +kernel, rfl⟩
set_option maxRecDepth 100000 in
theorem ii_mo_keepPast_32 : sm_D prog_9_method_45_code 32 1 33 (.iadd) := ⟨by decide +kernel, rfl⟩
set_option maxRecDepth 100000 in
theorem ii_mo_keepPast_33 : sm_D prog_9_method_45_code 33 1 34 (.iaload) := ⟨by decide +kernel, rfl⟩
set_option maxRecDepth 100000 in
theorem ii_mo_keepPast_34 : sm_D prog_9_method_45_code 34 1 35 (.iastore) := ⟨by decide +kernel, rfl⟩
set_option maxRecDepth 100000 in
theorem ii_mo_keepPast_35 : sm_D prog_9_method_45_code 35 3 38 (.iinc 1 1) := ⟨by decide +kernel, rfl⟩
set_option maxRecDepth 100000 in
theorem ii_mo_keepPast_38 : sm_D prog_9_method_45_code 38 3 41 (.goto (-36)) := ⟨by decide +kernel, rfl⟩
set_option maxRecDepth 100000 in
theorem ii_mo_keepPast_41 : sm_D prog_9_method_45_code 41 1 42 (.aload_n 0) := ⟨by decide +kernel, rfl⟩
set_option maxRecDepth 100000 in
theorem ii_mo_keepPast_42 : sm_D prog_9_method_45_code 42 3 45 (.getfield 7) := ⟨by decide +kernel, rfl⟩
set_option maxRecDepth 100000 in
theorem ii_mo_keepPast_45 : sm_D prog_9_method_45_code 45 1 46 (.iconst 0) := ⟨by decide +kernel, rfl⟩
set_option maxRecDepth 100000 in
theorem ii_mo_keepPast_46 : sm_D prog_9_method_45_code 46 1 47 (.dup2) := ⟨by decide +kernel, rfl⟩
set_option maxRecDepth 100000 in
theorem ii_mo_keepPast_47 : sm_D prog_9_method_45_code 47 1 48 (.iaload) := ⟨by decide +kernel, rfl⟩
set_option maxRecDepth 100000 in
theorem ii_mo_keepPast_48 : sm_D prog_9_method_45_code 48 1 49 (.iconst 1) := ⟨by decide +kernel, rfl⟩
set_option maxRecDepth 100000 in
theorem ii_mo_keepPast_49 : sm_D prog_9_method_45_code 49 1 50 (.iadd) := ⟨by decide +kernel, rfl⟩
set_option maxRecDepth 100000 in
theorem ii_mo_keepPast_50 : sm_D prog_9_method_45_code 50 1 51 (.iastore) := ⟨by decide +kernel, rfl⟩
set_option maxRecDepth 100000 in
theorem ii_mo_keepPast_51 : sm_D prog_9_method_45_code 51 1 52 (.return_) := ⟨by decide +kernel, rfl⟩
noncomputable def ff_mo_keepPast_2_b  (self2 : Int32 → sm_Mem → sm_R) (a1 : Int32) (w : sm_Mem) : sm_R := (if (31 : Int32) ≤ a1 then (Option.bind (sm_rd w 63 5184 (0 : Int32)) fun x1 => (Option.bind (sm_wr w 63 5184 (0 : Int32) (x1 + (1 : Int32))) fun w2 => (some (.null, w2)))) else (Option.bind (sm_rd w 63 5184 (0 : Int32)) fun x3 => (Option.bind (sm_rd w 63 5184 ((1 : Int32) + a1)) fun x4 => (Option.bind (sm_wr w 63 5184 (((32 : Int32) + ((31 : Int32) * x3)) + a1) x4) fun w5 => self2 ((a1 + (1 : Int32))) w5))))
noncomputable def ff_mo_keepPast_2_f  : Nat → Int32 → sm_Mem → sm_R
  | 0, _, _ => none
  | n + 1, a1, w => ff_mo_keepPast_2_b  (ff_mo_keepPast_2_f  n) a1 w
noncomputable def ff_mo_keepPast_2  (a1 : Int32) (w : sm_Mem) : sm_R := ff_mo_keepPast_2_f  sm_N a1 w
set_option maxHeartbeats 4000000 in
set_option maxRecDepth 100000 in
theorem ss_mo_keepPast_2_b {E : Nat × (Nat → Int32)}  (self2 : Int32 → sm_Mem → sm_R) (hself2 : ∀ (a1 : Int32) (w : sm_Mem), sm_Sim E (mi_mo_keepPast) 2 [some (.ref 62), some (.int a1)] [] w (self2 a1 w)) (a1 : Int32) (w : sm_Mem) : sm_Sim E (mi_mo_keepPast) 2 [some (.ref 62), some (.int a1)] [] w (ff_mo_keepPast_2_b  self2 a1 w) := by
  unfold ff_mo_keepPast_2_b
  refine sm_iload_n ii_mo_keepPast_2 rfl ?_
  refine sm_bipush (31 : Int32) ii_mo_keepPast_3 (by decide) ?_
  refine sm_icmp_ge 41 ii_mo_keepPast_5 (by decide) ?_ ?_
  · refine sm_aload_n ii_mo_keepPast_41 rfl ?_
    refine sm_getR 63 ii_mo_keepPast_42 fl_mo_7 (k := 62) rfl ?_
    refine sm_iconst (0 : Int32) ii_mo_keepPast_45 (by decide) ?_
    refine sm_dup2 ii_mo_keepPast_46 ?_
    refine sm_iald ii_mo_keepPast_47 (k := 63) rfl (fun x1 => ?_)
    refine sm_iconst (1 : Int32) ii_mo_keepPast_48 (by decide) ?_
    refine sm_iadd ii_mo_keepPast_49 ?_
    refine sm_iast ii_mo_keepPast_50 (k := 63) rfl (fun w2 => ?_)
    exact sm_vret ii_mo_keepPast_51 rfl
  · refine sm_aload_n ii_mo_keepPast_8 rfl ?_
    refine sm_getR 63 ii_mo_keepPast_9 fl_mo_7 (k := 62) rfl ?_
    refine sm_bipush (32 : Int32) ii_mo_keepPast_12 (by decide) ?_
    refine sm_bipush (31 : Int32) ii_mo_keepPast_14 (by decide) ?_
    refine sm_aload_n ii_mo_keepPast_16 rfl ?_
    refine sm_getR 63 ii_mo_keepPast_17 fl_mo_7 (k := 62) rfl ?_
    refine sm_iconst (0 : Int32) ii_mo_keepPast_20 (by decide) ?_
    refine sm_iald ii_mo_keepPast_21 (k := 63) rfl (fun x3 => ?_)
    refine sm_imul ii_mo_keepPast_22 ?_
    refine sm_iadd ii_mo_keepPast_23 ?_
    refine sm_iload_n ii_mo_keepPast_24 rfl ?_
    refine sm_iadd ii_mo_keepPast_25 ?_
    refine sm_aload_n ii_mo_keepPast_26 rfl ?_
    refine sm_getR 63 ii_mo_keepPast_27 fl_mo_7 (k := 62) rfl ?_
    refine sm_iconst (1 : Int32) ii_mo_keepPast_30 (by decide) ?_
    refine sm_iload_n ii_mo_keepPast_31 rfl ?_
    refine sm_iadd ii_mo_keepPast_32 ?_
    refine sm_iald ii_mo_keepPast_33 (k := 63) rfl (fun x4 => ?_)
    refine sm_iast ii_mo_keepPast_34 (k := 63) rfl (fun w5 => ?_)
    refine sm_iinc (a1 + (1 : Int32)) [some (.ref 62), some (.int (a1 + (1 : Int32)))] ii_mo_keepPast_35 rfl rfl rfl rfl ?_
    refine sm_goto 2 ii_mo_keepPast_38 (by decide) ?_
    exact hself2 ((a1 + (1 : Int32))) w5
set_option maxHeartbeats 4000000 in
set_option maxRecDepth 100000 in
theorem ss_mo_keepPast_2_f {E : Nat × (Nat → Int32)}  : ∀ (n : Nat) (a1 : Int32) (w : sm_Mem), sm_Sim E (mi_mo_keepPast) 2 [some (.ref 62), some (.int a1)] [] w (ff_mo_keepPast_2_f  n a1 w)
  | 0, _, _ => fun _ _ h => by cases h
  | n + 1, a1, w => ss_mo_keepPast_2_b  _ (ss_mo_keepPast_2_f  n) a1 w
set_option maxHeartbeats 4000000 in
set_option maxRecDepth 100000 in
theorem ss_mo_keepPast_2 {E : Nat × (Nat → Int32)}  (a1 : Int32) (w : sm_Mem) : sm_Sim E (mi_mo_keepPast) 2 [some (.ref 62), some (.int a1)] [] w (ff_mo_keepPast_2  a1 w) := ss_mo_keepPast_2_f  sm_N a1 w
noncomputable def ff_mo_keepPast   (w : sm_Mem) : sm_R := ff_mo_keepPast_2 ((0 : Int32)) w
set_option maxHeartbeats 4000000 in
set_option maxRecDepth 100000 in
theorem ss_mo_keepPast_0 {E : Nat × (Nat → Int32)}   (w : sm_Mem) : sm_Sim E (mi_mo_keepPast) 0 [some (.ref 62), none] [] w (ff_mo_keepPast   w) := by
  unfold ff_mo_keepPast
  refine sm_iconst (0 : Int32) ii_mo_keepPast_0 (by decide) ?_
  refine sm_istore_n [some (.ref 62), some (.int (0 : Int32))] ii_mo_keepPast_1 rfl rfl ?_
  exact ss_mo_keepPast_2 ((0 : Int32)) w
set_option maxHeartbeats 4000000 in
set_option maxRecDepth 100000 in
theorem mc_mo_keepPast  (w : sm_Mem) : sm_MC mi_mo_keepPast [.ref 62] w (ff_mo_keepPast  w) := sm_MC_of (0, fun _ => 0) (by decide +kernel) (by decide) rfl (Nat.le_of_ble_eq_true rfl) (ss_mo_keepPast_0  w)
abbrev mi_mo_says : sm_MI := (⟨"HerOrdersModel", "says", "(III)V"⟩, prog_9_method_46_code, 4, none, 1)
set_option maxRecDepth 100000 in
theorem mf_mo_says : sm_MF mi_mo_says 3 := ⟨List.mem_of_getElem? (i := 1202) (by decide +kernel), List.mem_of_getElem? (i := 132) (by decide +kernel), ⟨by decide, by decide⟩, by decide +kernel⟩
set_option maxRecDepth 100000 in
theorem mv_mo_says : sm_MFV mi_mo_says := ⟨List.mem_of_getElem? (i := 1201) (by decide +kernel), List.mem_of_getElem? (i := 94) (by decide +kernel)⟩
set_option maxRecDepth 100000 in
theorem ii_mo_says_0 : sm_D prog_9_method_46_code 0 1 1 (.aload_n 0) := ⟨by decide +kernel, rfl⟩
set_option maxRecDepth 100000 in
theorem ii_mo_says_1 : sm_D prog_9_method_46_code 1 3 4 (.getfield 7) := ⟨by decide +kernel, rfl⟩
set_option maxRecDepth 100000 in
theorem ii_mo_says_4 : sm_D prog_9_method_46_code 4 1 5 (.iload_n 1) := ⟨by decide +kernel, rfl⟩
set_option maxRecDepth 100000 in
theorem ii_mo_says_5 : sm_D prog_9_method_46_code 5 1 6 (.iconst 4) := ⟨by decide +kernel, rfl⟩
set_option maxRecDepth 100000 in
theorem ii_mo_says_6 : sm_D prog_9_method_46_code 6 1 7 (.iadd) := ⟨by decide +kernel, rfl⟩
set_option maxRecDepth 100000 in
theorem ii_mo_says_7 : sm_D prog_9_method_46_code 7 1 8 (.aload_n 0) := ⟨by decide +kernel, rfl⟩
set_option maxRecDepth 100000 in
theorem ii_mo_says_8 : sm_D prog_9_method_46_code 8 3 11 (.getfield 7) := ⟨by decide +kernel, rfl⟩
set_option maxRecDepth 100000 in
theorem ii_mo_says_11 : sm_D prog_9_method_46_code 11 1 12 (.iload_n 1) := ⟨by decide +kernel, rfl⟩
set_option maxRecDepth 100000 in
theorem ii_mo_says_12 : sm_D prog_9_method_46_code 12 1 13 (.iconst 2) := ⟨by decide +kernel, rfl⟩
set_option maxRecDepth 100000 in
theorem ii_mo_says_13 : sm_D prog_9_method_46_code 13 1 14 (.iadd) := ⟨by decide +kernel, rfl⟩
set_option maxRecDepth 100000 in
theorem ii_mo_says_14 : sm_D prog_9_method_46_code 14 1 15 (.iaload) := ⟨by decide +kernel, rfl⟩
set_option maxRecDepth 100000 in
theorem ii_mo_says_15 : sm_D prog_9_method_46_code 15 1 16 (.iadd) := ⟨by decide +kernel, rfl⟩
set_option maxRecDepth 100000 in
theorem ii_mo_says_16 : sm_D prog_9_method_46_code 16 1 17 (.iload_n 3) := ⟨by decide +kernel, rfl⟩
set_option maxRecDepth 100000 in
theorem ii_mo_says_17 : sm_D prog_9_method_46_code 17 1 18 (.iastore) := ⟨by decide +kernel, rfl⟩
set_option maxRecDepth 100000 in
theorem ii_mo_says_18 : sm_D prog_9_method_46_code 18 1 19 (.aload_n 0) := ⟨by decide +kernel, rfl⟩
set_option maxRecDepth 100000 in
theorem ii_mo_says_19 : sm_D prog_9_method_46_code 19 3 22 (.getfield 7) := ⟨by decide +kernel, rfl⟩
set_option maxRecDepth 100000 in
theorem ii_mo_says_22 : sm_D prog_9_method_46_code 22 1 23 (.iload_n 1) := ⟨by decide +kernel, rfl⟩
set_option maxRecDepth 100000 in
theorem ii_mo_says_23 : sm_D prog_9_method_46_code 23 2 25 (.bipush 12) := ⟨by decide +kernel, rfl⟩
set_option maxRecDepth 100000 in
theorem ii_mo_says_25 : sm_D prog_9_method_46_code 25 1 26 (.iadd) := ⟨by decide +kernel, rfl⟩
set_option maxRecDepth 100000 in
theorem ii_mo_says_26 : sm_D prog_9_method_46_code 26 1 27 (.aload_n 0) := ⟨by decide +kernel, rfl⟩
set_option maxRecDepth 100000 in
theorem ii_mo_says_27 : sm_D prog_9_method_46_code 27 3 30 (.getfield 7) := ⟨by decide +kernel, rfl⟩
set_option maxRecDepth 100000 in
theorem ii_mo_says_30 : sm_D prog_9_method_46_code 30 1 31 (.iload_n 1) := ⟨by decide +kernel, rfl⟩
set_option maxRecDepth 100000 in
theorem ii_mo_says_31 : sm_D prog_9_method_46_code 31 1 32 (.iconst 2) := ⟨by decide +kernel, rfl⟩
set_option maxRecDepth 100000 in
theorem ii_mo_says_32 : sm_D prog_9_method_46_code 32 1 33 (.iadd) := ⟨by decide +kernel, rfl⟩
set_option maxRecDepth 100000 in
theorem ii_mo_says_33 : sm_D prog_9_method_46_code 33 1 34 (.iaload) := ⟨by decide +kernel, rfl⟩
set_option maxRecDepth 100000 in
theorem ii_mo_says_34 : sm_D prog_9_method_46_code 34 1 35 (.iadd) := ⟨by decide +kernel, rfl⟩
set_option maxRecDepth 100000 in
theorem ii_mo_says_35 : sm_D prog_9_method_46_code 35 1 36 (.iload_n 2) := ⟨by decide +kernel, rfl⟩
set_option maxRecDepth 100000 in
theorem ii_mo_says_36 : sm_D prog_9_method_46_code 36 1 37 (.iastore) := ⟨by decide +kernel, rfl⟩
set_option maxRecDepth 100000 in
theorem ii_mo_says_37 : sm_D prog_9_method_46_code 37 1 38 (.aload_n 0) := ⟨by decide +kernel, rfl⟩
set_option maxRecDepth 100000 in
theorem ii_mo_says_38 : sm_D prog_9_method_46_code 38 3 41 (.getfield 7) := ⟨by decide +kernel, rfl⟩
set_option maxRecDepth 100000 in
theorem ii_mo_says_41 : sm_D prog_9_method_46_code 41 1 42 (.iload_n 1) := ⟨by decide +kernel, rfl⟩
set_option maxRecDepth 100000 in
theorem ii_mo_says_42 : sm_D prog_9_method_46_code 42 1 43 (.iconst 2) := ⟨by decide +kernel, rfl⟩
set_option maxRecDepth 100000 in
theorem ii_mo_says_43 : sm_D prog_9_method_46_code 43 1 44 (.iadd) := ⟨by decide +kernel, rfl⟩
set_option maxRecDepth 100000 in
theorem ii_mo_says_44 : sm_D prog_9_method_46_code 44 1 45 (.dup2) := ⟨by decide +kernel, rfl⟩
set_option maxRecDepth 100000 in
theorem ii_mo_says_45 : sm_D prog_9_method_46_code 45 1 46 (.iaload) := ⟨by decide +kernel, rfl⟩
set_option maxRecDepth 100000 in
theorem ii_mo_says_46 : sm_D prog_9_method_46_code 46 1 47 (.iconst 1) := ⟨by decide +kernel, rfl⟩
set_option maxRecDepth 100000 in
theorem ii_mo_says_47 : sm_D prog_9_method_46_code 47 1 48 (.iadd) := ⟨by decide +kernel, rfl⟩
set_option maxRecDepth 100000 in
theorem ii_mo_says_48 : sm_D prog_9_method_46_code 48 1 49 (.iastore) := ⟨by decide +kernel, rfl⟩
set_option maxRecDepth 100000 in
theorem ii_mo_says_49 : sm_D prog_9_method_46_code 49 1 50 (.aload_n 0) := ⟨by decide +kernel, rfl⟩
set_option maxRecDepth 100000 in
theorem ii_mo_says_50 : sm_D prog_9_method_46_code 50 3 53 (.getfield 7) := ⟨by decide +kernel, rfl⟩
set_option maxRecDepth 100000 in
theorem ii_mo_says_53 : sm_D prog_9_method_46_code 53 1 54 (.iload_n 1) := ⟨by decide +kernel, rfl⟩
set_option maxRecDepth 100000 in
theorem ii_mo_says_54 : sm_D prog_9_method_46_code 54 2 56 (.bipush 26) := ⟨by decide +kernel, rfl⟩
set_option maxRecDepth 100000 in
theorem ii_mo_says_56 : sm_D prog_9_method_46_code 56 1 57 (.iadd) := ⟨by decide +kernel, rfl⟩
set_option maxRecDepth 100000 in
theorem ii_mo_says_57 : sm_D prog_9_method_46_code 57 1 58 (.iload_n 2) := ⟨by decide +kernel, rfl⟩
set_option maxRecDepth 100000 in
theorem ii_mo_says_58 : sm_D prog_9_method_46_code 58 1 59 (.iadd) := ⟨by decide +kernel, rfl⟩
set_option maxRecDepth 100000 in
theorem ii_mo_says_59 : sm_D prog_9_method_46_code 59 1 60 (.dup2) := ⟨by decide +kernel, rfl⟩
set_option maxRecDepth 100000 in
theorem ii_mo_says_60 : sm_D prog_9_method_46_code 60 1 61 (.iaload) := ⟨by decide +kernel, rfl⟩
set_option maxRecDepth 100000 in
theorem ii_mo_says_61 : sm_D prog_9_method_46_code 61 1 62 (.iconst 1) := ⟨by decide +kernel, rfl⟩
set_option maxRecDepth 100000 in
theorem ii_mo_says_62 : sm_D prog_9_method_46_code 62 1 63 (.isub) := ⟨by decide +kernel, rfl⟩
set_option maxRecDepth 100000 in
theorem ii_mo_says_63 : sm_D prog_9_method_46_code 63 1 64 (.iastore) := ⟨by decide +kernel, rfl⟩
set_option maxRecDepth 100000 in
theorem ii_mo_says_64 : sm_D prog_9_method_46_code 64 1 65 (.return_) := ⟨by decide +kernel, rfl⟩
noncomputable def ff_mo_says  (a1 : Int32) (a2 : Int32) (a3 : Int32) (w : sm_Mem) : sm_R := (Option.bind (sm_rd w 63 5184 (a1 + (2 : Int32))) fun x1 => (Option.bind (sm_wr w 63 5184 ((a1 + (4 : Int32)) + x1) a3) fun w2 => (Option.bind (sm_rd w2 63 5184 (a1 + (2 : Int32))) fun x3 => (Option.bind (sm_wr w2 63 5184 ((a1 + (12 : Int32)) + x3) a2) fun w4 => (Option.bind (sm_rd w4 63 5184 (a1 + (2 : Int32))) fun x5 => (Option.bind (sm_wr w4 63 5184 (a1 + (2 : Int32)) (x5 + (1 : Int32))) fun w6 => (Option.bind (sm_rd w6 63 5184 ((a1 + (26 : Int32)) + a2)) fun x7 => (Option.bind (sm_wr w6 63 5184 ((a1 + (26 : Int32)) + a2) (x7 - (1 : Int32))) fun w8 => (some (.null, w8))))))))))
set_option maxHeartbeats 4000000 in
set_option maxRecDepth 100000 in
theorem ss_mo_says_0 {E : Nat × (Nat → Int32)}  (a1 : Int32) (a2 : Int32) (a3 : Int32) (w : sm_Mem) : sm_Sim E (mi_mo_says) 0 [some (.ref 62), some (.int a1), some (.int a2), some (.int a3)] [] w (ff_mo_says  a1 a2 a3 w) := by
  unfold ff_mo_says
  refine sm_aload_n ii_mo_says_0 rfl ?_
  refine sm_getR 63 ii_mo_says_1 fl_mo_7 (k := 62) rfl ?_
  refine sm_iload_n ii_mo_says_4 rfl ?_
  refine sm_iconst (4 : Int32) ii_mo_says_5 (by decide) ?_
  refine sm_iadd ii_mo_says_6 ?_
  refine sm_aload_n ii_mo_says_7 rfl ?_
  refine sm_getR 63 ii_mo_says_8 fl_mo_7 (k := 62) rfl ?_
  refine sm_iload_n ii_mo_says_11 rfl ?_
  refine sm_iconst (2 : Int32) ii_mo_says_12 (by decide) ?_
  refine sm_iadd ii_mo_says_13 ?_
  refine sm_iald ii_mo_says_14 (k := 63) rfl (fun x1 => ?_)
  refine sm_iadd ii_mo_says_15 ?_
  refine sm_iload_n ii_mo_says_16 rfl ?_
  refine sm_iast ii_mo_says_17 (k := 63) rfl (fun w2 => ?_)
  refine sm_aload_n ii_mo_says_18 rfl ?_
  refine sm_getR 63 ii_mo_says_19 fl_mo_7 (k := 62) rfl ?_
  refine sm_iload_n ii_mo_says_22 rfl ?_
  refine sm_bipush (12 : Int32) ii_mo_says_23 (by decide) ?_
  refine sm_iadd ii_mo_says_25 ?_
  refine sm_aload_n ii_mo_says_26 rfl ?_
  refine sm_getR 63 ii_mo_says_27 fl_mo_7 (k := 62) rfl ?_
  refine sm_iload_n ii_mo_says_30 rfl ?_
  refine sm_iconst (2 : Int32) ii_mo_says_31 (by decide) ?_
  refine sm_iadd ii_mo_says_32 ?_
  refine sm_iald ii_mo_says_33 (k := 63) rfl (fun x3 => ?_)
  refine sm_iadd ii_mo_says_34 ?_
  refine sm_iload_n ii_mo_says_35 rfl ?_
  refine sm_iast ii_mo_says_36 (k := 63) rfl (fun w4 => ?_)
  refine sm_aload_n ii_mo_says_37 rfl ?_
  refine sm_getR 63 ii_mo_says_38 fl_mo_7 (k := 62) rfl ?_
  refine sm_iload_n ii_mo_says_41 rfl ?_
  refine sm_iconst (2 : Int32) ii_mo_says_42 (by decide) ?_
  refine sm_iadd ii_mo_says_43 ?_
  refine sm_dup2 ii_mo_says_44 ?_
  refine sm_iald ii_mo_says_45 (k := 63) rfl (fun x5 => ?_)
  refine sm_iconst (1 : Int32) ii_mo_says_46 (by decide) ?_
  refine sm_iadd ii_mo_says_47 ?_
  refine sm_iast ii_mo_says_48 (k := 63) rfl (fun w6 => ?_)
  refine sm_aload_n ii_mo_says_49 rfl ?_
  refine sm_getR 63 ii_mo_says_50 fl_mo_7 (k := 62) rfl ?_
  refine sm_iload_n ii_mo_says_53 rfl ?_
  refine sm_bipush (26 : Int32) ii_mo_says_54 (by decide) ?_
  refine sm_iadd ii_mo_says_56 ?_
  refine sm_iload_n ii_mo_says_57 rfl ?_
  refine sm_iadd ii_mo_says_58 ?_
  refine sm_dup2 ii_mo_says_59 ?_
  refine sm_iald ii_mo_says_60 (k := 63) rfl (fun x7 => ?_)
  refine sm_iconst (1 : Int32) ii_mo_says_61 (by decide) ?_
  refine sm_isub ii_mo_says_62 ?_
  refine sm_iast ii_mo_says_63 (k := 63) rfl (fun w8 => ?_)
  exact sm_vret ii_mo_says_64 rfl
set_option maxHeartbeats 4000000 in
set_option maxRecDepth 100000 in
theorem mc_mo_says (a1 : Int32) (a2 : Int32) (a3 : Int32) (w : sm_Mem) : sm_MC mi_mo_says [.ref 62, .int a1, .int a2, .int a3] w (ff_mo_says a1 a2 a3 w) := sm_MC_of (0, fun _ => 0) (by decide +kernel) (by decide) rfl (Nat.le_of_ble_eq_true rfl) (ss_mo_says_0 a1 a2 a3 w)
abbrev mi_mo_say : sm_MI := (⟨"HerOrdersModel", "say", "(II)I"⟩, prog_9_method_47_code, 3, (some .int), 4)
set_option maxRecDepth 100000 in
theorem mf_mo_say : sm_MF mi_mo_say 2 := ⟨List.mem_of_getElem? (i := 1191) (by decide +kernel), List.mem_of_getElem? (i := 132) (by decide +kernel), ⟨by decide, by decide⟩, by decide +kernel⟩
set_option maxRecDepth 100000 in
theorem mv_mo_say : sm_MFV mi_mo_say := ⟨List.mem_of_getElem? (i := 1189) (by decide +kernel), List.mem_of_getElem? (i := 1190) (by decide +kernel)⟩
set_option maxRecDepth 100000 in
theorem ii_mo_say_0 : sm_D prog_9_method_47_code 0 1 1 (.aload_n 0) := ⟨by decide +kernel, rfl⟩
set_option maxRecDepth 100000 in
theorem ii_mo_say_1 : sm_D prog_9_method_47_code 1 1 2 (.iload_n 1) := ⟨by decide +kernel, rfl⟩
set_option maxRecDepth 100000 in
theorem ii_mo_say_2 : sm_D prog_9_method_47_code 2 3 5 (.invokevirtual 160) := ⟨by decide +kernel, rfl⟩
set_option maxRecDepth 100000 in
theorem ii_mo_say_5 : sm_D prog_9_method_47_code 5 3 8 (.ifCond .eq 10) := ⟨by decide +kernel, rfl⟩
set_option maxRecDepth 100000 in
theorem ii_mo_say_8 : sm_D prog_9_method_47_code 8 1 9 (.iload_n 2) := ⟨by decide +kernel, rfl⟩
set_option maxRecDepth 100000 in
theorem ii_mo_say_9 : sm_D prog_9_method_47_code 9 3 12 (.invokestatic 184) := ⟨by decide +kernel, rfl⟩
set_option maxRecDepth 100000 in
theorem ii_mo_say_12 : sm_D prog_9_method_47_code 12 3 15 (.ifCond .ne 5) := ⟨by decide +kernel, rfl⟩
set_option maxRecDepth 100000 in
theorem ii_mo_say_15 : sm_D prog_9_method_47_code 15 1 16 (.iconst (-1)) := ⟨by decide +kernel, rfl⟩
set_option maxRecDepth 100000 in
theorem ii_mo_say_16 : sm_D prog_9_method_47_code 16 1 17 (.ireturn) := ⟨by decide +kernel, rfl⟩
set_option maxRecDepth 100000 in
theorem ii_mo_say_17 : sm_D prog_9_method_47_code 17 1 18 (.aload_n 0) := ⟨by decide +kernel, rfl⟩
set_option maxRecDepth 100000 in
theorem ii_mo_say_18 : sm_D prog_9_method_47_code 18 1 19 (.iconst 0) := ⟨by decide +kernel, rfl⟩
set_option maxRecDepth 100000 in
theorem ii_mo_say_19 : sm_D prog_9_method_47_code 19 1 20 (.iload_n 1) := ⟨by decide +kernel, rfl⟩
set_option maxRecDepth 100000 in
theorem ii_mo_say_20 : sm_D prog_9_method_47_code 20 1 21 (.iload_n 2) := ⟨by decide +kernel, rfl⟩
set_option maxRecDepth 100000 in
theorem ii_mo_say_21 : sm_D prog_9_method_47_code 21 3 24 (.invokevirtual 157) := ⟨by decide +kernel, rfl⟩
set_option maxRecDepth 100000 in
theorem ii_mo_say_24 : sm_D prog_9_method_47_code 24 3 27 (.ifCond .ne 6) := ⟨by decide +kernel, rfl⟩
set_option maxRecDepth 100000 in
theorem ii_mo_say_27 : sm_D prog_9_method_47_code 27 2 29 (.bipush (-4)) := ⟨by decide +kernel, rfl⟩
set_option maxRecDepth 100000 in
theorem ii_mo_say_29 : sm_D prog_9_method_47_code 29 1 30 (.ireturn) := ⟨by decide +kernel, rfl⟩
set_option maxRecDepth 100000 in
theorem ii_mo_say_30 : sm_D prog_9_method_47_code 30 1 31 (.aload_n 0) := ⟨by decide +kernel, rfl⟩
set_option maxRecDepth 100000 in
theorem ii_mo_say_31 : sm_D prog_9_method_47_code 31 3 34 (.getfield 7) := ⟨by decide +kernel, rfl⟩
set_option maxRecDepth 100000 in
theorem ii_mo_say_34 : sm_D prog_9_method_47_code 34 1 35 (.iconst 0) := ⟨by decide +kernel, rfl⟩
set_option maxRecDepth 100000 in
theorem ii_mo_say_35 : sm_D prog_9_method_47_code 35 1 36 (.iaload) := ⟨by decide +kernel, rfl⟩
set_option maxRecDepth 100000 in
theorem ii_mo_say_36 : sm_D prog_9_method_47_code 36 2 38 (.bipush 40) := ⟨by decide +kernel, rfl⟩
set_option maxRecDepth 100000 in
theorem ii_mo_say_38 : sm_D prog_9_method_47_code 38 3 41 (.if_icmp .ne 6) := ⟨by decide +kernel, rfl⟩
set_option maxRecDepth 100000 in
theorem ii_mo_say_41 : sm_D prog_9_method_47_code 41 2 43 (.bipush (-2)) := ⟨by decide +kernel, rfl⟩
set_option maxRecDepth 100000 in
theorem ii_mo_say_43 : sm_D prog_9_method_47_code 43 1 44 (.ireturn) := ⟨by decide +kernel, rfl⟩
set_option maxRecDepth 100000 in
theorem ii_mo_say_44 : sm_D prog_9_method_47_code 44 1 45 (.aload_n 0) := ⟨by decide +kernel, rfl⟩
set_option maxRecDepth 100000 in
theorem ii_mo_say_45 : sm_D prog_9_method_47_code 45 3 48 (.invokevirtual 187) := ⟨by decide +kernel, rfl⟩
set_option maxRecDepth 100000 in
theorem ii_mo_say_48 : sm_D prog_9_method_47_code 48 1 49 (.aload_n 0) := ⟨by decide +kernel, rfl⟩
set_option maxRecDepth 100000 in
theorem ii_mo_say_49 : sm_D prog_9_method_47_code 49 1 50 (.iconst 0) := ⟨by decide +kernel, rfl⟩
set_option maxRecDepth 100000 in
theorem ii_mo_say_50 : sm_D prog_9_method_47_code 50 1 51 (.iload_n 1) := ⟨by decide +kernel, rfl⟩
set_option maxRecDepth 100000 in
theorem ii_mo_say_51 : sm_D prog_9_method_47_code 51 1 52 (.iload_n 2) := ⟨by decide +kernel, rfl⟩
set_option maxRecDepth 100000 in
theorem ii_mo_say_52 : sm_D prog_9_method_47_code 52 3 55 (.invokevirtual 190) := ⟨by decide +kernel, rfl⟩
set_option maxRecDepth 100000 in
theorem ii_mo_say_55 : sm_D prog_9_method_47_code 55 1 56 (.aload_n 0) := ⟨by decide +kernel, rfl⟩
set_option maxRecDepth 100000 in
theorem ii_mo_say_56 : sm_D prog_9_method_47_code 56 3 59 (.getfield 7) := ⟨by decide +kernel, rfl⟩
set_option maxRecDepth 100000 in
theorem ii_mo_say_59 : sm_D prog_9_method_47_code 59 1 60 (.iconst 2) := ⟨by decide +kernel, rfl⟩
set_option maxRecDepth 100000 in
theorem ii_mo_say_60 : sm_D prog_9_method_47_code 60 1 61 (.iaload) := ⟨by decide +kernel, rfl⟩
set_option maxRecDepth 100000 in
theorem ii_mo_say_61 : sm_D prog_9_method_47_code 61 1 62 (.ireturn) := ⟨by decide +kernel, rfl⟩
noncomputable def ff_mo_say  (a1 : Int32) (a2 : Int32) (w : sm_Mem) : sm_R := (sm_cI (ff_mo_isSpeaker (a1) w) fun x1 w2 => (if x1 = (0 : Int32) then (some (.int (-1 : Int32), w2)) else (sm_cI (ff_mo_isWord (a2) w2) fun x3 w4 => (if x3 = (0 : Int32) then (some (.int (-1 : Int32), w4)) else (sm_cI (ff_mo_mayNext ((0 : Int32)) (a1) (a2) w4) fun x5 w6 => (if x5 = (0 : Int32) then (some (.int (-4 : Int32), w6)) else (Option.bind (sm_rd w6 63 5184 (0 : Int32)) fun x7 => (if x7 = (40 : Int32) then (some (.int (-2 : Int32), w6)) else (sm_cV (ff_mo_keepPast  w6) fun w9 => (sm_cV (ff_mo_says ((0 : Int32)) (a1) (a2) w9) fun w11 => (Option.bind (sm_rd w11 63 5184 (2 : Int32)) fun x12 => (some (.int x12, w11)))))))))))))
set_option maxHeartbeats 4000000 in
set_option maxRecDepth 100000 in
theorem ss_mo_say_0 {E : Nat × (Nat → Int32)}  (a1 : Int32) (a2 : Int32) (w : sm_Mem) : sm_Sim E (mi_mo_say) 0 [some (.ref 62), some (.int a1), some (.int a2)] [] w (ff_mo_say  a1 a2 w) := by
  unfold ff_mo_say
  refine sm_aload_n ii_mo_say_0 rfl ?_
  refine sm_iload_n ii_mo_say_1 rfl ?_
  refine sm_cvI [.int a1] [] rfl ii_mo_say_2 ml_mo_160 (mf_mo_isSpeaker) (mv_mo_isSpeaker) (Nat.le_of_ble_eq_true rfl) rfl 7 rfl rfl rfl rfl (mc_mo_isSpeaker (a1) w) (fun x1 w2 => ?_)
  refine sm_if_eq 15 ii_mo_say_5 (by decide) ?_ ?_
  · refine sm_iconst (-1 : Int32) ii_mo_say_15 (by decide) ?_
    exact sm_iret ii_mo_say_16 rfl
  · refine sm_iload_n ii_mo_say_8 rfl ?_
    refine sm_csI [.int a2] [] rfl ii_mo_say_9 ml_mo_184 (mf_mo_isWord) (mv_mo_isWord) (Nat.le_of_ble_eq_true rfl) rfl rfl rfl (mc_mo_isWord (a2) w2) (fun x3 w4 => ?_)
    refine sm_if_ne 17 ii_mo_say_12 (by decide) ?_ ?_
    · refine sm_iconst (-1 : Int32) ii_mo_say_15 (by decide) ?_
      exact sm_iret ii_mo_say_16 rfl
    · refine sm_aload_n ii_mo_say_17 rfl ?_
      refine sm_iconst (0 : Int32) ii_mo_say_18 (by decide) ?_
      refine sm_iload_n ii_mo_say_19 rfl ?_
      refine sm_iload_n ii_mo_say_20 rfl ?_
      refine sm_cvI [.int (0 : Int32), .int a1, .int a2] [] rfl ii_mo_say_21 ml_mo_157 (mf_mo_mayNext) (mv_mo_mayNext) (Nat.le_of_ble_eq_true rfl) rfl 7 rfl rfl rfl rfl (mc_mo_mayNext ((0 : Int32)) (a1) (a2) w4) (fun x5 w6 => ?_)
      refine sm_if_ne 30 ii_mo_say_24 (by decide) ?_ ?_
      · refine sm_bipush (-4 : Int32) ii_mo_say_27 (by decide) ?_
        exact sm_iret ii_mo_say_29 rfl
      · refine sm_aload_n ii_mo_say_30 rfl ?_
        refine sm_getR 63 ii_mo_say_31 fl_mo_7 (k := 62) rfl ?_
        refine sm_iconst (0 : Int32) ii_mo_say_34 (by decide) ?_
        refine sm_iald ii_mo_say_35 (k := 63) rfl (fun x7 => ?_)
        refine sm_bipush (40 : Int32) ii_mo_say_36 (by decide) ?_
        refine sm_icmp_ne 44 ii_mo_say_38 (by decide) ?_ ?_
        · refine sm_bipush (-2 : Int32) ii_mo_say_41 (by decide) ?_
          exact sm_iret ii_mo_say_43 rfl
        · refine sm_aload_n ii_mo_say_44 rfl ?_
          refine sm_cvV [] [] rfl ii_mo_say_45 ml_mo_187 (mf_mo_keepPast) (mv_mo_keepPast) (Nat.le_of_ble_eq_true rfl) rfl 7 rfl rfl rfl rfl (mc_mo_keepPast  w6) (fun w9 => ?_)
          refine sm_aload_n ii_mo_say_48 rfl ?_
          refine sm_iconst (0 : Int32) ii_mo_say_49 (by decide) ?_
          refine sm_iload_n ii_mo_say_50 rfl ?_
          refine sm_iload_n ii_mo_say_51 rfl ?_
          refine sm_cvV [.int (0 : Int32), .int a1, .int a2] [] rfl ii_mo_say_52 ml_mo_190 (mf_mo_says) (mv_mo_says) (Nat.le_of_ble_eq_true rfl) rfl 7 rfl rfl rfl rfl (mc_mo_says ((0 : Int32)) (a1) (a2) w9) (fun w11 => ?_)
          refine sm_aload_n ii_mo_say_55 rfl ?_
          refine sm_getR 63 ii_mo_say_56 fl_mo_7 (k := 62) rfl ?_
          refine sm_iconst (2 : Int32) ii_mo_say_59 (by decide) ?_
          refine sm_iald ii_mo_say_60 (k := 63) rfl (fun x12 => ?_)
          exact sm_iret ii_mo_say_61 rfl
set_option maxHeartbeats 4000000 in
set_option maxRecDepth 100000 in
theorem mc_mo_say (a1 : Int32) (a2 : Int32) (w : sm_Mem) : sm_MC mi_mo_say [.ref 62, .int a1, .int a2] w (ff_mo_say a1 a2 w) := sm_MC_of (0, fun _ => 0) (by decide +kernel) (by decide) rfl (Nat.le_of_ble_eq_true rfl) (ss_mo_say_0 a1 a2 w)
abbrev mi_ho_end : sm_MI := (⟨"HerOrders", "end", "()I"⟩, prog_1_method_15_code, 2, (some .int), 4)
set_option maxRecDepth 100000 in
theorem mf_ho_end : sm_MF mi_ho_end 0 := ⟨List.mem_of_getElem? (i := 582) (by decide +kernel), List.mem_of_getElem? (i := 124) (by decide +kernel), ⟨by decide, by decide⟩, by decide +kernel⟩
set_option maxRecDepth 100000 in
theorem mv_ho_end : sm_MFV mi_ho_end := ⟨List.mem_of_getElem? (i := 580) (by decide +kernel), List.mem_of_getElem? (i := 581) (by decide +kernel)⟩
set_option maxRecDepth 100000 in
theorem ii_ho_end_0 : sm_D prog_1_method_15_code 0 1 1 (.aload_n 0) := ⟨by decide +kernel, rfl⟩
set_option maxRecDepth 100000 in
theorem ii_ho_end_1 : sm_D prog_1_method_15_code 1 3 4 (.getfield 31) := ⟨by decide +kernel, rfl⟩
set_option maxRecDepth 100000 in
theorem ii_ho_end_4 : sm_D prog_1_method_15_code 4 3 7 (.getfield 162) := ⟨by decide +kernel, rfl⟩
set_option maxRecDepth 100000 in
theorem ii_ho_end_7 : sm_D prog_1_method_15_code 7 3 10 (.ifCond .ne 6) := ⟨by decide +kernel, rfl⟩
set_option maxRecDepth 100000 in
theorem ii_ho_end_10 : sm_D prog_1_method_15_code 10 2 12 (.bipush (-4)) := ⟨by decide +kernel, rfl⟩
set_option maxRecDepth 100000 in
theorem ii_ho_end_12 : sm_D prog_1_method_15_code 12 1 13 (.ireturn) := ⟨by decide +kernel, rfl⟩
set_option maxRecDepth 100000 in
theorem ii_ho_end_13 : sm_D prog_1_method_15_code 13 1 14 (.aload_n 0) := ⟨by decide +kernel, rfl⟩
set_option maxRecDepth 100000 in
theorem ii_ho_end_14 : sm_D prog_1_method_15_code 14 3 17 (.getfield 31) := ⟨by decide +kernel, rfl⟩
set_option maxRecDepth 100000 in
theorem ii_ho_end_17 : sm_D prog_1_method_15_code 17 3 20 (.invokevirtual 155) := ⟨by decide +kernel, rfl⟩
set_option maxRecDepth 100000 in
theorem ii_ho_end_20 : sm_D prog_1_method_15_code 20 3 23 (.ifCond .eq 6) := ⟨by decide +kernel, rfl⟩
set_option maxRecDepth 100000 in
theorem ii_ho_end_23 : sm_D prog_1_method_15_code 23 2 25 (.bipush (-2)) := ⟨by decide +kernel, rfl⟩
set_option maxRecDepth 100000 in
theorem ii_ho_end_25 : sm_D prog_1_method_15_code 25 1 26 (.ireturn) := ⟨by decide +kernel, rfl⟩
set_option maxRecDepth 100000 in
theorem ii_ho_end_26 : sm_D prog_1_method_15_code 26 1 27 (.aload_n 0) := ⟨by decide +kernel, rfl⟩
set_option maxRecDepth 100000 in
theorem ii_ho_end_27 : sm_D prog_1_method_15_code 27 3 30 (.getfield 31) := ⟨by decide +kernel, rfl⟩
set_option maxRecDepth 100000 in
theorem ii_ho_end_30 : sm_D prog_1_method_15_code 30 3 33 (.getfield 162) := ⟨by decide +kernel, rfl⟩
set_option maxRecDepth 100000 in
theorem ii_ho_end_33 : sm_D prog_1_method_15_code 33 1 34 (.istore_n 1) := ⟨by decide +kernel, rfl⟩
set_option maxRecDepth 100000 in
theorem ii_ho_end_34 : sm_D prog_1_method_15_code 34 1 35 (.aload_n 0) := ⟨by decide +kernel, rfl⟩
set_option maxRecDepth 100000 in
theorem ii_ho_end_35 : sm_D prog_1_method_15_code 35 3 38 (.getfield 31) := ⟨by decide +kernel, rfl⟩
set_option maxRecDepth 100000 in
theorem ii_ho_end_38 : sm_D prog_1_method_15_code 38 1 39 (.iconst 1) := ⟨by decide +kernel, rfl⟩
set_option maxRecDepth 100000 in
theorem ii_ho_end_39 : sm_D prog_1_method_15_code 39 1 40 (.iconst 0) := ⟨by decide +kernel, rfl⟩
set_option maxRecDepth 100000 in
theorem ii_ho_end_40 : sm_D prog_1_method_15_code 40 1 41 (.iconst 0) := ⟨by decide +kernel, rfl⟩
set_option maxRecDepth 100000 in
theorem ii_ho_end_41 : sm_D prog_1_method_15_code 41 3 44 (.invokevirtual 158) := ⟨by decide +kernel, rfl⟩
set_option maxRecDepth 100000 in
theorem ii_ho_end_44 : sm_D prog_1_method_15_code 44 1 45 (.iload_n 1) := ⟨by decide +kernel, rfl⟩
set_option maxRecDepth 100000 in
theorem ii_ho_end_45 : sm_D prog_1_method_15_code 45 1 46 (.ireturn) := ⟨by decide +kernel, rfl⟩
noncomputable def ff_ho_end   (w : sm_Mem) : sm_R := (if (w.1 36 11) = (0 : Int32) then (some (.int (-4 : Int32), w)) else (sm_cI (ff_hs_isFull  w) fun x1 w2 => (if x1 = (0 : Int32) then (sm_cV (ff_hs_enact ((1 : Int32)) ((0 : Int32)) ((0 : Int32)) w2) fun w4 => (some (.int (w2.1 36 11), w4))) else (some (.int (-2 : Int32), w2)))))
set_option maxHeartbeats 4000000 in
set_option maxRecDepth 100000 in
theorem ss_ho_end_0 {E : Nat × (Nat → Int32)}   (w : sm_Mem) : sm_Sim E (mi_ho_end) 0 [some (.ref 0), none] [] w (ff_ho_end   w) := by
  unfold ff_ho_end
  refine sm_aload_n ii_ho_end_0 rfl ?_
  refine sm_getR 36 ii_ho_end_1 fl_ho_31 (k := 0) rfl ?_
  refine sm_getI ii_ho_end_4 fl_ho_162 (k := 36) rfl ?_
  refine sm_if_ne 13 ii_ho_end_7 (by decide) ?_ ?_
  · refine sm_bipush (-4 : Int32) ii_ho_end_10 (by decide) ?_
    exact sm_iret ii_ho_end_12 rfl
  · refine sm_aload_n ii_ho_end_13 rfl ?_
    refine sm_getR 36 ii_ho_end_14 fl_ho_31 (k := 0) rfl ?_
    refine sm_cvI [] [] rfl ii_ho_end_17 ml_ho_155 (mf_hs_isFull) (mv_hs_isFull) (Nat.le_of_ble_eq_true rfl) rfl 1 rfl rfl rfl rfl (mc_hs_isFull  w) (fun x1 w2 => ?_)
    refine sm_if_eq 26 ii_ho_end_20 (by decide) ?_ ?_
    · refine sm_aload_n ii_ho_end_26 rfl ?_
      refine sm_getR 36 ii_ho_end_27 fl_ho_31 (k := 0) rfl ?_
      refine sm_getI ii_ho_end_30 fl_ho_162 (k := 36) rfl ?_
      refine sm_istore_n [some (.ref 0), some (.int (w2.1 36 11))] ii_ho_end_33 rfl rfl ?_
      refine sm_aload_n ii_ho_end_34 rfl ?_
      refine sm_getR 36 ii_ho_end_35 fl_ho_31 (k := 0) rfl ?_
      refine sm_iconst (1 : Int32) ii_ho_end_38 (by decide) ?_
      refine sm_iconst (0 : Int32) ii_ho_end_39 (by decide) ?_
      refine sm_iconst (0 : Int32) ii_ho_end_40 (by decide) ?_
      refine sm_cvV [.int (1 : Int32), .int (0 : Int32), .int (0 : Int32)] [] rfl ii_ho_end_41 ml_ho_158 (mf_hs_enact) (mv_hs_enact) (Nat.le_of_ble_eq_true rfl) rfl 1 rfl rfl rfl rfl (mc_hs_enact ((1 : Int32)) ((0 : Int32)) ((0 : Int32)) w2) (fun w4 => ?_)
      refine sm_iload_n ii_ho_end_44 rfl ?_
      exact sm_iret ii_ho_end_45 rfl
    · refine sm_bipush (-2 : Int32) ii_ho_end_23 (by decide) ?_
      exact sm_iret ii_ho_end_25 rfl
set_option maxHeartbeats 4000000 in
set_option maxRecDepth 100000 in
theorem mc_ho_end  (w : sm_Mem) : sm_MC mi_ho_end [.ref 0] w (ff_ho_end  w) := sm_MC_of (0, fun _ => 0) (by decide +kernel) (by decide) rfl (Nat.le_of_ble_eq_true rfl) (ss_ho_end_0  w)
abbrev mi_mo_doEnd : sm_MI := (⟨"HerOrdersModel", "doEnd", "()I"⟩, prog_9_method_48_code, 2, (some .int), 2)
set_option maxRecDepth 100000 in
theorem mf_mo_doEnd : sm_MF mi_mo_doEnd 0 := ⟨List.mem_of_getElem? (i := 1210) (by decide +kernel), List.mem_of_getElem? (i := 132) (by decide +kernel), ⟨by decide, by decide⟩, by decide +kernel⟩
set_option maxRecDepth 100000 in
theorem mv_mo_doEnd : sm_MFV mi_mo_doEnd := ⟨List.mem_of_getElem? (i := 1209) (by decide +kernel), List.mem_of_getElem? (i := 95) (by decide +kernel)⟩
set_option maxRecDepth 100000 in
theorem ii_mo_doEnd_0 : sm_D prog_9_method_48_code 0 1 1 (.aload_n 0) := ⟨by decide +kernel, rfl⟩
set_option maxRecDepth 100000 in
theorem ii_mo_doEnd_1 : sm_D prog_9_method_48_code 1 3 4 (.invokevirtual 187) := ⟨by decide +kernel, rfl⟩
set_option maxRecDepth 100000 in
theorem ii_mo_doEnd_4 : sm_D prog_9_method_48_code 4 1 5 (.aload_n 0) := ⟨by decide +kernel, rfl⟩
set_option maxRecDepth 100000 in
theorem ii_mo_doEnd_5 : sm_D prog_9_method_48_code 5 3 8 (.getfield 7) := ⟨by decide +kernel, rfl⟩
set_option maxRecDepth 100000 in
theorem ii_mo_doEnd_8 : sm_D prog_9_method_48_code 8 1 9 (.iconst 2) := ⟨by decide +kernel, rfl⟩
set_option maxRecDepth 100000 in
theorem ii_mo_doEnd_9 : sm_D prog_9_method_48_code 9 1 10 (.iaload) := ⟨by decide +kernel, rfl⟩
set_option maxRecDepth 100000 in
theorem ii_mo_doEnd_10 : sm_D prog_9_method_48_code 10 1 11 (.istore_n 1) := ⟨by decide +kernel, rfl⟩
set_option maxRecDepth 100000 in
theorem ii_mo_doEnd_11 : sm_D prog_9_method_48_code 11 1 12 (.aload_n 0) := ⟨by decide +kernel, rfl⟩
set_option maxRecDepth 100000 in
theorem ii_mo_doEnd_12 : sm_D prog_9_method_48_code 12 3 15 (.getfield 7) := ⟨by decide +kernel, rfl⟩
set_option maxRecDepth 100000 in
theorem ii_mo_doEnd_15 : sm_D prog_9_method_48_code 15 1 16 (.iconst 2) := ⟨by decide +kernel, rfl⟩
set_option maxRecDepth 100000 in
theorem ii_mo_doEnd_16 : sm_D prog_9_method_48_code 16 1 17 (.iconst 0) := ⟨by decide +kernel, rfl⟩
set_option maxRecDepth 100000 in
theorem ii_mo_doEnd_17 : sm_D prog_9_method_48_code 17 1 18 (.iastore) := ⟨by decide +kernel, rfl⟩
set_option maxRecDepth 100000 in
theorem ii_mo_doEnd_18 : sm_D prog_9_method_48_code 18 1 19 (.aload_n 0) := ⟨by decide +kernel, rfl⟩
set_option maxRecDepth 100000 in
theorem ii_mo_doEnd_19 : sm_D prog_9_method_48_code 19 3 22 (.getfield 7) := ⟨by decide +kernel, rfl⟩
set_option maxRecDepth 100000 in
theorem ii_mo_doEnd_22 : sm_D prog_9_method_48_code 22 1 23 (.iconst 3) := ⟨by decide +kernel, rfl⟩
set_option maxRecDepth 100000 in
theorem ii_mo_doEnd_23 : sm_D prog_9_method_48_code 23 1 24 (.dup2) := ⟨by decide +kernel, rfl⟩
set_option maxRecDepth 100000 in
theorem ii_mo_doEnd_24 : sm_D prog_9_method_48_code 24 1 25 (.iaload) := ⟨by decide +kernel, rfl⟩
set_option maxRecDepth 100000 in
theorem ii_mo_doEnd_25 : sm_D prog_9_method_48_code 25 1 26 (.iconst 1) := ⟨by decide +kernel, rfl⟩
set_option maxRecDepth 100000 in
theorem ii_mo_doEnd_26 : sm_D prog_9_method_48_code 26 1 27 (.iadd) := ⟨by decide +kernel, rfl⟩
set_option maxRecDepth 100000 in
theorem ii_mo_doEnd_27 : sm_D prog_9_method_48_code 27 1 28 (.iastore) := ⟨by decide +kernel, rfl⟩
set_option maxRecDepth 100000 in
theorem ii_mo_doEnd_28 : sm_D prog_9_method_48_code 28 1 29 (.iload_n 1) := ⟨by decide +kernel, rfl⟩
set_option maxRecDepth 100000 in
theorem ii_mo_doEnd_29 : sm_D prog_9_method_48_code 29 1 30 (.ireturn) := ⟨by decide +kernel, rfl⟩
noncomputable def ff_mo_doEnd   (w : sm_Mem) : sm_R := (sm_cV (ff_mo_keepPast  w) fun w2 => (Option.bind (sm_rd w2 63 5184 (2 : Int32)) fun x3 => (Option.bind (sm_wr w2 63 5184 (2 : Int32) (0 : Int32)) fun w4 => (Option.bind (sm_rd w4 63 5184 (3 : Int32)) fun x5 => (Option.bind (sm_wr w4 63 5184 (3 : Int32) (x5 + (1 : Int32))) fun w6 => (some (.int x3, w6)))))))
set_option maxHeartbeats 4000000 in
set_option maxRecDepth 100000 in
theorem ss_mo_doEnd_0 {E : Nat × (Nat → Int32)}   (w : sm_Mem) : sm_Sim E (mi_mo_doEnd) 0 [some (.ref 62), none] [] w (ff_mo_doEnd   w) := by
  unfold ff_mo_doEnd
  refine sm_aload_n ii_mo_doEnd_0 rfl ?_
  refine sm_cvV [] [] rfl ii_mo_doEnd_1 ml_mo_187 (mf_mo_keepPast) (mv_mo_keepPast) (Nat.le_of_ble_eq_true rfl) rfl 7 rfl rfl rfl rfl (mc_mo_keepPast  w) (fun w2 => ?_)
  refine sm_aload_n ii_mo_doEnd_4 rfl ?_
  refine sm_getR 63 ii_mo_doEnd_5 fl_mo_7 (k := 62) rfl ?_
  refine sm_iconst (2 : Int32) ii_mo_doEnd_8 (by decide) ?_
  refine sm_iald ii_mo_doEnd_9 (k := 63) rfl (fun x3 => ?_)
  refine sm_istore_n [some (.ref 62), some (.int x3)] ii_mo_doEnd_10 rfl rfl ?_
  refine sm_aload_n ii_mo_doEnd_11 rfl ?_
  refine sm_getR 63 ii_mo_doEnd_12 fl_mo_7 (k := 62) rfl ?_
  refine sm_iconst (2 : Int32) ii_mo_doEnd_15 (by decide) ?_
  refine sm_iconst (0 : Int32) ii_mo_doEnd_16 (by decide) ?_
  refine sm_iast ii_mo_doEnd_17 (k := 63) rfl (fun w4 => ?_)
  refine sm_aload_n ii_mo_doEnd_18 rfl ?_
  refine sm_getR 63 ii_mo_doEnd_19 fl_mo_7 (k := 62) rfl ?_
  refine sm_iconst (3 : Int32) ii_mo_doEnd_22 (by decide) ?_
  refine sm_dup2 ii_mo_doEnd_23 ?_
  refine sm_iald ii_mo_doEnd_24 (k := 63) rfl (fun x5 => ?_)
  refine sm_iconst (1 : Int32) ii_mo_doEnd_25 (by decide) ?_
  refine sm_iadd ii_mo_doEnd_26 ?_
  refine sm_iast ii_mo_doEnd_27 (k := 63) rfl (fun w6 => ?_)
  refine sm_iload_n ii_mo_doEnd_28 rfl ?_
  exact sm_iret ii_mo_doEnd_29 rfl
set_option maxHeartbeats 4000000 in
set_option maxRecDepth 100000 in
theorem mc_mo_doEnd  (w : sm_Mem) : sm_MC mi_mo_doEnd [.ref 62] w (ff_mo_doEnd  w) := sm_MC_of (0, fun _ => 0) (by decide +kernel) (by decide) rfl (Nat.le_of_ble_eq_true rfl) (ss_mo_doEnd_0  w)
abbrev mi_mo_end : sm_MI := (⟨"HerOrdersModel", "end", "()I"⟩, prog_9_method_49_code, 1, (some .int), 3)
set_option maxRecDepth 100000 in
theorem mf_mo_end : sm_MF mi_mo_end 0 := ⟨List.mem_of_getElem? (i := 1206) (by decide +kernel), List.mem_of_getElem? (i := 132) (by decide +kernel), ⟨by decide, by decide⟩, by decide +kernel⟩
set_option maxRecDepth 100000 in
theorem mv_mo_end : sm_MFV mi_mo_end := ⟨List.mem_of_getElem? (i := 1204) (by decide +kernel), List.mem_of_getElem? (i := 1205) (by decide +kernel)⟩
set_option maxRecDepth 100000 in
theorem ii_mo_end_0 : sm_D prog_9_method_49_code 0 1 1 (.aload_n 0) := ⟨by decide +kernel, rfl⟩
set_option maxRecDepth 100000 in
theorem ii_mo_end_1 : sm_D prog_9_method_49_code 1 3 4 (.getfield 7) := ⟨by decide +kernel, rfl⟩
set_option maxRecDepth 100000 in
theorem ii_mo_end_4 : sm_D prog_9_method_49_code 4 1 5 (.iconst 2) := ⟨by decide +kernel, rfl⟩
set_option maxRecDepth 100000 in
theorem ii_mo_end_5 : sm_D prog_9_method_49_code 5 1 6 (.iaload) := ⟨by decide +kernel, rfl⟩
set_option maxRecDepth 100000 in
theorem ii_mo_end_6 : sm_D prog_9_method_49_code 6 3 9 (.ifCond .ne 6) := ⟨by decide +kernel, rfl⟩
set_option maxRecDepth 100000 in
theorem ii_mo_end_9 : sm_D prog_9_method_49_code 9 2 11 (.bipush (-4)) := ⟨by decide +kernel, rfl⟩
set_option maxRecDepth 100000 in
theorem ii_mo_end_11 : sm_D prog_9_method_49_code 11 1 12 (.ireturn) := ⟨by decide +kernel, rfl⟩
set_option maxRecDepth 100000 in
theorem ii_mo_end_12 : sm_D prog_9_method_49_code 12 1 13 (.aload_n 0) := ⟨by decide +kernel, rfl⟩
set_option maxRecDepth 100000 in
theorem ii_mo_end_13 : sm_D prog_9_method_49_code 13 3 16 (.getfield 7) := ⟨by decide +kernel, rfl⟩
set_option maxRecDepth 100000 in
theorem ii_mo_end_16 : sm_D prog_9_method_49_code 16 1 17 (.iconst 0) := ⟨by decide +kernel, rfl⟩
set_option maxRecDepth 100000 in
theorem ii_mo_end_17 : sm_D prog_9_method_49_code 17 1 18 (.iaload) := ⟨by decide +kernel, rfl⟩
set_option maxRecDepth 100000 in
theorem ii_mo_end_18 : sm_D prog_9_method_49_code 18 2 20 (.bipush 40) := ⟨by decide +kernel, rfl⟩
set_option maxRecDepth 100000 in
theorem ii_mo_end_20 : sm_D prog_9_method_49_code 20 3 23 (.if_icmp .ne 8) := ⟨by decide +kernel, rfl⟩
set_option maxRecDepth 100000 in
theorem ii_mo_end_23 : sm_D prog_9_method_49_code 23 2 25 (.bipush (-2)) := ⟨by decide +kernel, rfl⟩
set_option maxRecDepth 100000 in
theorem ii_mo_end_25 : sm_D prog_9_method_49_code 25 3 28 (.goto 7) := ⟨by decide +kernel, rfl⟩
set_option maxRecDepth 100000 in
theorem ii_mo_end_28 : sm_D prog_9_method_49_code 28 1 29 (.aload_n 0) := ⟨by decide +kernel, rfl⟩
set_option maxRecDepth 100000 in
theorem ii_mo_end_29 : sm_D prog_9_method_49_code 29 3 32 (.invokevirtual 194) := ⟨by decide +kernel, rfl⟩
set_option maxRecDepth 100000 in
theorem ii_mo_end_32 : sm_D prog_9_method_49_code 32 1 33 (.ireturn) := ⟨by decide +kernel, rfl⟩
noncomputable def ff_mo_end   (w : sm_Mem) : sm_R := (Option.bind (sm_rd w 63 5184 (2 : Int32)) fun x1 => (if x1 = (0 : Int32) then (some (.int (-4 : Int32), w)) else (Option.bind (sm_rd w 63 5184 (0 : Int32)) fun x2 => (if x2 = (40 : Int32) then (some (.int (-2 : Int32), w)) else (sm_cI (ff_mo_doEnd  w) fun x3 w4 => (some (.int x3, w4)))))))
set_option maxHeartbeats 4000000 in
set_option maxRecDepth 100000 in
theorem ss_mo_end_0 {E : Nat × (Nat → Int32)}   (w : sm_Mem) : sm_Sim E (mi_mo_end) 0 [some (.ref 62)] [] w (ff_mo_end   w) := by
  unfold ff_mo_end
  refine sm_aload_n ii_mo_end_0 rfl ?_
  refine sm_getR 63 ii_mo_end_1 fl_mo_7 (k := 62) rfl ?_
  refine sm_iconst (2 : Int32) ii_mo_end_4 (by decide) ?_
  refine sm_iald ii_mo_end_5 (k := 63) rfl (fun x1 => ?_)
  refine sm_if_ne 12 ii_mo_end_6 (by decide) ?_ ?_
  · refine sm_bipush (-4 : Int32) ii_mo_end_9 (by decide) ?_
    exact sm_iret ii_mo_end_11 rfl
  · refine sm_aload_n ii_mo_end_12 rfl ?_
    refine sm_getR 63 ii_mo_end_13 fl_mo_7 (k := 62) rfl ?_
    refine sm_iconst (0 : Int32) ii_mo_end_16 (by decide) ?_
    refine sm_iald ii_mo_end_17 (k := 63) rfl (fun x2 => ?_)
    refine sm_bipush (40 : Int32) ii_mo_end_18 (by decide) ?_
    refine sm_icmp_ne 28 ii_mo_end_20 (by decide) ?_ ?_
    · refine sm_bipush (-2 : Int32) ii_mo_end_23 (by decide) ?_
      refine sm_goto 32 ii_mo_end_25 (by decide) ?_
      exact sm_iret ii_mo_end_32 rfl
    · refine sm_aload_n ii_mo_end_28 rfl ?_
      refine sm_cvI [] [] rfl ii_mo_end_29 ml_mo_194 (mf_mo_doEnd) (mv_mo_doEnd) (Nat.le_of_ble_eq_true rfl) rfl 7 rfl rfl rfl rfl (mc_mo_doEnd  w) (fun x3 w4 => ?_)
      exact sm_iret ii_mo_end_32 rfl
set_option maxHeartbeats 4000000 in
set_option maxRecDepth 100000 in
theorem mc_mo_end  (w : sm_Mem) : sm_MC mi_mo_end [.ref 62] w (ff_mo_end  w) := sm_MC_of (0, fun _ => 0) (by decide +kernel) (by decide) rfl (Nat.le_of_ble_eq_true rfl) (ss_mo_end_0  w)
