/-! the program, by a program: functions of its methods and that the methods do them -/
set_option maxRecDepth 100000 in
theorem fl_mo_31 : sm_FL "HerOrdersModel" 31 7 8 := ⟨RX7, TX7, 30, rfl, by decide, rfl, sm_inX7, Or.inl (List.mem_of_getElem? (i := 950) (by decide +kernel))⟩
set_option maxRecDepth 100000 in
theorem ml_mo_100 : sm_ML "HerOrdersModel" 100 ⟨"HerOrdersModel", "isText", "(I)Z"⟩ := Or.inl (List.mem_of_getElem? (i := 1088) (by decide +kernel))
set_option maxRecDepth 100000 in
theorem fl_mo_28 : sm_FL "HerOrdersModel" 28 7 7 := ⟨RX7, TX7, 30, rfl, by decide, rfl, sm_inX7, Or.inl (List.mem_of_getElem? (i := 949) (by decide +kernel))⟩
set_option maxRecDepth 100000 in
theorem ml_ho_342 : sm_ML "HerOrders" 342 ⟨"HerOrders", "kindOf", "(I)I"⟩ := Or.inl (List.mem_of_getElem? (i := 468) (by decide +kernel))
set_option maxRecDepth 100000 in
theorem ml_ho_338 : sm_ML "HerOrders" 338 ⟨"HerOrders", "faultOfItem", "(LHerOrders$Row;I)I"⟩ := Or.inl (List.mem_of_getElem? (i := 465) (by decide +kernel))
set_option maxRecDepth 100000 in
theorem ml_ho_106 : sm_ML "HerOrders" 106 ⟨"HerOrders", "faultOf", "(LHerOrders$Row;)I"⟩ := Or.inl (List.mem_of_getElem? (i := 462) (by decide +kernel))
set_option maxRecDepth 100000 in
theorem fl_mo_103 : sm_FL "HerOrdersModel" 103 7 14 := ⟨RX7, TX7, 30, rfl, by decide, rfl, sm_inX7, Or.inl (List.mem_of_getElem? (i := 956) (by decide +kernel))⟩
set_option maxRecDepth 100000 in
theorem fl_mo_106 : sm_FL "HerOrdersModel" 106 7 15 := ⟨RX7, TX7, 30, rfl, by decide, rfl, sm_inX7, Or.inl (List.mem_of_getElem? (i := 957) (by decide +kernel))⟩
set_option maxRecDepth 100000 in
theorem fl_mo_109 : sm_FL "HerOrdersModel" 109 7 16 := ⟨RX7, TX7, 30, rfl, by decide, rfl, sm_inX7, Or.inl (List.mem_of_getElem? (i := 958) (by decide +kernel))⟩
set_option maxRecDepth 100000 in
theorem ml_mo_112 : sm_ML "HerOrdersModel" 112 ⟨"HerOrdersModel", "here", "()I"⟩ := Or.inl (List.mem_of_getElem? (i := 1108) (by decide +kernel))
set_option maxRecDepth 100000 in
theorem fp_mo_106 : sm_FP "HerOrdersModel" 106 7 15 .int := ⟨RX7, TX7, 30, tyX7, rfl, by decide, rfl, sm_inX7, tyX7_ok, nmX7, rfl, by decide +kernel, Or.inl (List.mem_of_getElem? (i := 957) (by decide +kernel))⟩
set_option maxRecDepth 100000 in
theorem fl_mo_41 : sm_FL "HerOrdersModel" 41 7 17 := ⟨RX7, TX7, 30, rfl, by decide, rfl, sm_inX7, Or.inl (List.mem_of_getElem? (i := 959) (by decide +kernel))⟩
set_option maxRecDepth 100000 in
theorem fl_mo_116 : sm_FL "HerOrdersModel" 116 7 18 := ⟨RX7, TX7, 30, rfl, by decide, rfl, sm_inX7, Or.inl (List.mem_of_getElem? (i := 960) (by decide +kernel))⟩
set_option maxRecDepth 100000 in
theorem fp_mo_116 : sm_FP "HerOrdersModel" 116 7 18 .int := ⟨RX7, TX7, 30, tyX7, rfl, by decide, rfl, sm_inX7, tyX7_ok, nmX7, rfl, by decide +kernel, Or.inl (List.mem_of_getElem? (i := 960) (by decide +kernel))⟩
set_option maxRecDepth 100000 in
theorem ml_mo_122 : sm_ML "HerOrdersModel" 122 ⟨"HerOrdersModel", "figure", "(II)I"⟩ := Or.inl (List.mem_of_getElem? (i := 1119) (by decide +kernel))
set_option maxRecDepth 100000 in
theorem ml_mo_119 : sm_ML "HerOrdersModel" 119 ⟨"HerOrdersModel", "kindOfLetter", "(I)I"⟩ := Or.inl (List.mem_of_getElem? (i := 1116) (by decide +kernel))
set_option maxRecDepth 100000 in
theorem ml_mo_128 : sm_ML "HerOrdersModel" 128 ⟨"HerOrdersModel", "readsSpeaker", "()Z"⟩ := Or.inl (List.mem_of_getElem? (i := 1112) (by decide +kernel))
set_option maxRecDepth 100000 in
theorem ml_mo_125 : sm_ML "HerOrdersModel" 125 ⟨"HerOrdersModel", "skip", "()V"⟩ := Or.inl (List.mem_of_getElem? (i := 1104) (by decide +kernel))
set_option maxRecDepth 100000 in
theorem fp_mo_103 : sm_FP "HerOrdersModel" 103 7 14 .int := ⟨RX7, TX7, 30, tyX7, rfl, by decide, rfl, sm_inX7, tyX7_ok, nmX7, rfl, by decide +kernel, Or.inl (List.mem_of_getElem? (i := 956) (by decide +kernel))⟩
set_option maxRecDepth 100000 in
theorem fp_mo_109 : sm_FP "HerOrdersModel" 109 7 16 .int := ⟨RX7, TX7, 30, tyX7, rfl, by decide, rfl, sm_inX7, tyX7_ok, nmX7, rfl, by decide +kernel, Or.inl (List.mem_of_getElem? (i := 958) (by decide +kernel))⟩
set_option maxRecDepth 100000 in
theorem ml_mo_132 : sm_ML "HerOrdersModel" 132 ⟨"HerOrdersModel", "faultOf", "(I)I"⟩ := Or.inl (List.mem_of_getElem? (i := 1100) (by decide +kernel))
set_option maxRecDepth 100000 in
theorem fl_hs_54 : sm_FL "HerOrders$House" 54 2 0 := ⟨RX2, TX2, 2, rfl, by decide, rfl, sm_inX2, Or.inr ⟨"HerOrders", List.mem_of_getElem? (i := 154) (by decide +kernel)⟩⟩
set_option maxRecDepth 100000 in
theorem fl_hs_89 : sm_FL "HerOrders$House" 89 1 11 := ⟨RX1, TX1, 13, rfl, by decide, rfl, sm_inX1, Or.inl (List.mem_of_getElem? (i := 225) (by decide +kernel))⟩
set_option maxRecDepth 100000 in
theorem fl_hs_30 : sm_FL "HerOrders$House" 30 1 9 := ⟨RX1, TX1, 13, rfl, by decide, rfl, sm_inX1, Or.inl (List.mem_of_getElem? (i := 220) (by decide +kernel))⟩
set_option maxRecDepth 100000 in
theorem fl_hs_33 : sm_FL "HerOrders$House" 33 1 10 := ⟨RX1, TX1, 13, rfl, by decide, rfl, sm_inX1, Or.inl (List.mem_of_getElem? (i := 223) (by decide +kernel))⟩
set_option maxRecDepth 100000 in
theorem fp_hs_89 : sm_FP "HerOrders$House" 89 1 11 .int := ⟨RX1, TX1, 13, tyX1, rfl, by decide, rfl, sm_inX1, tyX1_ok, nmX1, rfl, by decide +kernel, Or.inl (List.mem_of_getElem? (i := 225) (by decide +kernel))⟩
set_option maxRecDepth 100000 in
theorem fl_hs_27 : sm_FL "HerOrders$House" 27 1 6 := ⟨RX1, TX1, 13, rfl, by decide, rfl, sm_inX1, Or.inl (List.mem_of_getElem? (i := 215) (by decide +kernel))⟩
set_option maxRecDepth 100000 in
theorem fl_hs_45 : sm_FL "HerOrders$House" 45 1 0 := ⟨RX1, TX1, 13, rfl, by decide, rfl, sm_inX1, Or.inl (List.mem_of_getElem? (i := 202) (by decide +kernel))⟩
set_option maxRecDepth 100000 in
theorem fl_hs_21 : sm_FL "HerOrders$House" 21 1 4 := ⟨RX1, TX1, 13, rfl, by decide, rfl, sm_inX1, Or.inl (List.mem_of_getElem? (i := 211) (by decide +kernel))⟩
set_option maxRecDepth 100000 in
theorem ml_hs_90 : sm_ML "HerOrders$House" 90 ⟨"HerOrders$House", "push", "(II)V"⟩ := Or.inl (List.mem_of_getElem? (i := 493) (by decide +kernel))
set_option maxRecDepth 100000 in
theorem fl_hs_94 : sm_FL "HerOrders$House" 94 1 8 := ⟨RX1, TX1, 13, rfl, by decide, rfl, sm_inX1, Or.inl (List.mem_of_getElem? (i := 218) (by decide +kernel))⟩
set_option maxRecDepth 100000 in
theorem fp_hs_94 : sm_FP "HerOrders$House" 94 1 8 .int := ⟨RX1, TX1, 13, tyX1, rfl, by decide, rfl, sm_inX1, tyX1_ok, nmX1, rfl, by decide +kernel, Or.inl (List.mem_of_getElem? (i := 218) (by decide +kernel))⟩
set_option maxRecDepth 100000 in
theorem fl_hs_97 : sm_FL "HerOrders$House" 97 1 7 := ⟨RX1, TX1, 13, rfl, by decide, rfl, sm_inX1, Or.inl (List.mem_of_getElem? (i := 216) (by decide +kernel))⟩
set_option maxRecDepth 100000 in
theorem fp_hs_97 : sm_FP "HerOrders$House" 97 1 7 .int := ⟨RX1, TX1, 13, tyX1, rfl, by decide, rfl, sm_inX1, tyX1_ok, nmX1, rfl, by decide +kernel, Or.inl (List.mem_of_getElem? (i := 216) (by decide +kernel))⟩
set_option maxRecDepth 100000 in
theorem fl_hs_24 : sm_FL "HerOrders$House" 24 1 5 := ⟨RX1, TX1, 13, rfl, by decide, rfl, sm_inX1, Or.inl (List.mem_of_getElem? (i := 212) (by decide +kernel))⟩
set_option maxRecDepth 100000 in
theorem fl_hs_41 : sm_FL "HerOrders$House" 41 1 12 := ⟨RX1, TX1, 13, rfl, by decide, rfl, sm_inX1, Or.inl (List.mem_of_getElem? (i := 228) (by decide +kernel))⟩
set_option maxRecDepth 100000 in
theorem fl_hs_100 : sm_FL "HerOrders$House" 100 0 0 := ⟨RX0, TX0, 4, rfl, by decide, rfl, sm_inX0, Or.inr ⟨"HerOrders", List.mem_of_getElem? (i := 177) (by decide +kernel)⟩⟩
set_option maxRecDepth 100000 in
theorem fl_hs_103 : sm_FL "HerOrders$House" 103 0 1 := ⟨RX0, TX0, 4, rfl, by decide, rfl, sm_inX0, Or.inr ⟨"HerOrders", List.mem_of_getElem? (i := 179) (by decide +kernel)⟩⟩
set_option maxRecDepth 100000 in
theorem fl_hs_106 : sm_FL "HerOrders$House" 106 0 2 := ⟨RX0, TX0, 4, rfl, by decide, rfl, sm_inX0, Or.inr ⟨"HerOrders", List.mem_of_getElem? (i := 181) (by decide +kernel)⟩⟩
set_option maxRecDepth 100000 in
theorem ml_hs_73 : sm_ML "HerOrders$House" 73 ⟨"HerOrders$House", "perform", "(III)V"⟩ := Or.inl (List.mem_of_getElem? (i := 489) (by decide +kernel))
set_option maxRecDepth 100000 in
theorem fp_hs_68 : sm_FP "HerOrders$House" 68 0 3 .int := ⟨RX0, TX0, 4, tyX0, rfl, by decide, rfl, sm_inX0, tyX0_ok, nmX0, rfl, by decide +kernel, Or.inr ⟨"HerOrders", List.mem_of_getElem? (i := 183) (by decide +kernel)⟩⟩
set_option maxRecDepth 100000 in
theorem fl_hs_18 : sm_FL "HerOrders$House" 18 1 3 := ⟨RX1, TX1, 13, rfl, by decide, rfl, sm_inX1, Or.inl (List.mem_of_getElem? (i := 210) (by decide +kernel))⟩
set_option maxRecDepth 100000 in
theorem ml_hs_65 : sm_ML "HerOrders$House" 65 ⟨"HerOrders$House", "goBackTo", "(I)V"⟩ := Or.inl (List.mem_of_getElem? (i := 485) (by decide +kernel))
set_option maxRecDepth 100000 in
theorem fl_hs_49 : sm_FL "HerOrders$House" 49 2 1 := ⟨RX2, TX2, 2, rfl, by decide, rfl, sm_inX2, Or.inr ⟨"HerOrders", List.mem_of_getElem? (i := 160) (by decide +kernel)⟩⟩
set_option maxRecDepth 100000 in
theorem fl_hs_9 : sm_FL "HerOrders$House" 9 1 1 := ⟨RX1, TX1, 13, rfl, by decide, rfl, sm_inX1, Or.inl (List.mem_of_getElem? (i := 206) (by decide +kernel))⟩
set_option maxRecDepth 100000 in
theorem ml_hs_57 : sm_ML "HerOrders$House" 57 ⟨"HerOrders", "kindOf", "(I)I"⟩ := Or.inr ⟨"HerOrders", List.mem_of_getElem? (i := 481) (by decide +kernel)⟩
set_option maxRecDepth 100000 in
theorem fl_hs_15 : sm_FL "HerOrders$House" 15 1 2 := ⟨RX1, TX1, 13, rfl, by decide, rfl, sm_inX1, Or.inl (List.mem_of_getElem? (i := 208) (by decide +kernel))⟩
set_option maxRecDepth 100000 in
theorem ml_hs_61 : sm_ML "HerOrders$House" 61 ⟨"HerOrders$House", "figure", "(LHerOrders$Row;I)I"⟩ := Or.inl (List.mem_of_getElem? (i := 482) (by decide +kernel))
set_option maxRecDepth 100000 in
theorem fp_hs_45 : sm_FP "HerOrders$House" 45 1 0 .int := ⟨RX1, TX1, 13, tyX1, rfl, by decide, rfl, sm_inX1, tyX1_ok, nmX1, rfl, by decide +kernel, Or.inl (List.mem_of_getElem? (i := 202) (by decide +kernel))⟩
abbrev mi_mo_text : sm_MI := (⟨"HerOrdersModel", "text", "(II)I"⟩, prog_9_method_18_code, 4, (some .int), 3)
set_option maxRecDepth 100000 in
theorem mf_mo_text : sm_MF mi_mo_text 2 := ⟨List.mem_of_getElem? (i := 1087) (by decide +kernel), List.mem_of_getElem? (i := 132) (by decide +kernel), ⟨by decide, by decide⟩, by decide +kernel⟩
set_option maxRecDepth 100000 in
theorem mv_mo_text : sm_MFV mi_mo_text := ⟨List.mem_of_getElem? (i := 1085) (by decide +kernel), List.mem_of_getElem? (i := 1086) (by decide +kernel)⟩
set_option maxRecDepth 100000 in
theorem ii_mo_text_0 : sm_D prog_9_method_18_code 0 1 1 (.iload_n 1) := ⟨by decide +kernel, rfl⟩
set_option maxRecDepth 100000 in
theorem ii_mo_text_1 : sm_D prog_9_method_18_code 1 3 4 (.invokestatic 100) := ⟨by decide +kernel, rfl⟩
set_option maxRecDepth 100000 in
theorem ii_mo_text_4 : sm_D prog_9_method_18_code 4 3 7 (.ifCond .eq 9) := ⟨by decide +kernel, rfl⟩
set_option maxRecDepth 100000 in
theorem ii_mo_text_7 : sm_D prog_9_method_18_code 7 1 8 (.iload_n 2) := ⟨by decide +kernel, rfl⟩
set_option maxRecDepth 100000 in
theorem ii_mo_text_8 : sm_D prog_9_method_18_code 8 2 10 (.bipush 60) := ⟨by decide +kernel, rfl⟩
set_option maxRecDepth 100000 in
theorem ii_mo_text_10 : sm_D prog_9_method_18_code 10 3 13 (.if_icmp .le 5) := ⟨by decide +kernel, rfl⟩
set_option maxRecDepth 100000 in
theorem ii_mo_text_13 : sm_D prog_9_method_18_code 13 1 14 (.iconst (-1)) := ⟨by decide +kernel, rfl⟩
set_option maxRecDepth 100000 in
theorem ii_mo_text_14 : sm_D prog_9_method_18_code 14 1 15 (.ireturn) := ⟨by decide +kernel, rfl⟩
set_option maxRecDepth 100000 in
theorem ii_mo_text_15 : sm_D prog_9_method_18_code 15 1 16 (.iload_n 2) := ⟨by decide +kernel, rfl⟩
set_option maxRecDepth 100000 in
theorem ii_mo_text_16 : sm_D prog_9_method_18_code 16 3 19 (.ifCond .ge 9) := ⟨by decide +kernel, rfl⟩
set_option maxRecDepth 100000 in
theorem ii_mo_text_19 : sm_D prog_9_method_18_code 19 1 20 (.aload_n 0) := ⟨by decide +kernel, rfl⟩
set_option maxRecDepth 100000 in
theorem ii_mo_text_20 : sm_D prog_9_method_18_code 20 1 21 (.iconst 5) := ⟨by decide +kernel, rfl⟩
set_option maxRecDepth 100000 in
theorem ii_mo_text_21 : sm_D prog_9_method_18_code 21 3 24 (.invokevirtual 81) := ⟨by decide +kernel, rfl⟩
set_option maxRecDepth 100000 in
theorem ii_mo_text_24 : sm_D prog_9_method_18_code 24 1 25 (.ireturn) := ⟨by decide +kernel, rfl⟩
set_option maxRecDepth 100000 in
theorem ii_mo_text_25 : sm_D prog_9_method_18_code 25 1 26 (.aload_n 0) := ⟨by decide +kernel, rfl⟩
set_option maxRecDepth 100000 in
theorem ii_mo_text_26 : sm_D prog_9_method_18_code 26 3 29 (.getfield 28) := ⟨by decide +kernel, rfl⟩
set_option maxRecDepth 100000 in
theorem ii_mo_text_29 : sm_D prog_9_method_18_code 29 1 30 (.iload_n 1) := ⟨by decide +kernel, rfl⟩
set_option maxRecDepth 100000 in
theorem ii_mo_text_30 : sm_D prog_9_method_18_code 30 1 31 (.iload_n 2) := ⟨by decide +kernel, rfl⟩
set_option maxRecDepth 100000 in
theorem ii_mo_text_31 : sm_D prog_9_method_18_code 31 1 32 (.iastore) := ⟨by decide +kernel, rfl⟩
set_option maxRecDepth 100000 in
theorem ii_mo_text_32 : sm_D prog_9_method_18_code 32 1 33 (.iconst 0) := ⟨by decide +kernel, rfl⟩
set_option maxRecDepth 100000 in
theorem ii_mo_text_33 : sm_D prog_9_method_18_code 33 1 34 (.istore_n 3) := ⟨by decide +kernel, rfl⟩
set_option maxRecDepth 100000 in
theorem ii_mo_text_34 : sm_D prog_9_method_18_code 34 1 35 (.iload_n 3) := ⟨by decide +kernel, rfl⟩
set_option maxRecDepth 100000 in
theorem ii_mo_text_35 : sm_D prog_9_method_18_code 35 2 37 (.bipush 60) := ⟨by decide +kernel, rfl⟩
set_option maxRecDepth 100000 in
theorem ii_mo_text_37 : sm_D prog_9_method_18_code 37 3 40 (.if_icmp .ge 22) := ⟨by decide +kernel, rfl⟩
set_option maxRecDepth 100000 in
theorem ii_mo_text_40 : sm_D prog_9_method_18_code 40 1 41 (.aload_n 0) := ⟨by decide +kernel, rfl⟩
set_option maxRecDepth 100000 in
theorem ii_mo_text_41 : sm_D prog_9_method_18_code 41 3 44 (.getfield 31) := ⟨by decide +kernel, rfl⟩
set_option maxRecDepth 100000 in
theorem ii_mo_text_44 : sm_D prog_9_method_18_code 44 2 46 (.bipush 60) := ⟨by decide +kernel, rfl⟩
set_option maxRecDepth 100000 in
theorem ii_mo_text_46 : sm_D prog_9_method_18_code 46 1 47 (.iload_n 1) := ⟨by decide +kernel, rfl⟩
set_option maxRecDepth 100000 in
theorem ii_mo_text_47 : sm_D prog_9_method_18_code 47 1 48 (.imul) := ⟨by decide +kernel, rfl⟩
set_option maxRecDepth 100000 in
theorem ii_mo_text_48 : sm_D prog_9_method_18_code 48 1 49 (.iload_n 3) := ⟨by decide +kernel, rfl⟩
set_option maxRecDepth 100000 in
theorem ii_mo_text_49 : sm_D prog_9_method_18_code 49 1 50 (.iadd) := ⟨by decide +kernel, rfl⟩
set_option maxRecDepth 100000 in
theorem ii_mo_text_50 : sm_D prog_9_method_18_code 50 2 52 (.bipush 32) := ⟨by decide +kernel, rfl⟩
set_option maxRecDepth 100000 in
theorem ii_mo_text_52 : sm_D prog_9_method_18_code 52 1 53 (.iastore) := ⟨by decide +kernel, rfl⟩
set_option maxRecDepth 100000 in
theorem ii_mo_text_53 : sm_D prog_9_method_18_code 53 3 56 (.iinc 3 1) := ⟨by decide +kernel, rfl⟩
set_option maxRecDepth 100000 in
theorem ii_mo_text_56 : sm_D prog_9_method_18_code 56 3 59 (.goto (-22)) := ⟨by decide +kernel, rfl⟩
set_option maxRecDepth 100000 in
theorem ii_mo_text_59 : sm_D prog_9_method_18_code 59 1 60 (.iload_n 2) := ⟨by decide +kernel, rfl⟩
set_option maxRecDepth 100000 in
theorem ii_mo_text_60 : sm_D prog_9_method_18_code 60 1 61 (.ireturn) := ⟨by decide +kernel, rfl⟩
noncomputable def ff_mo_text_34_b  (self34 : Int32 → Int32 → Int32 → sm_Mem → sm_R) (a1 : Int32) (a2 : Int32) (a3 : Int32) (w : sm_Mem) : sm_R := (if (60 : Int32) ≤ a3 then (some (.int a2, w)) else (Option.bind (sm_wr w 70 240 (((60 : Int32) * a1) + a3) (32 : Int32)) fun w1 => self34 (a1) (a2) ((a3 + (1 : Int32))) w1))
noncomputable def ff_mo_text_34_f  : Nat → Int32 → Int32 → Int32 → sm_Mem → sm_R
  | 0, _, _, _, _ => none
  | n + 1, a1, a2, a3, w => ff_mo_text_34_b  (ff_mo_text_34_f  n) a1 a2 a3 w
noncomputable def ff_mo_text_34  (a1 : Int32) (a2 : Int32) (a3 : Int32) (w : sm_Mem) : sm_R := ff_mo_text_34_f  sm_N a1 a2 a3 w
set_option maxHeartbeats 4000000 in
set_option maxRecDepth 100000 in
theorem ss_mo_text_34_b {E : Nat × (Nat → Int32)}  (self34 : Int32 → Int32 → Int32 → sm_Mem → sm_R) (hself34 : ∀ (a1 : Int32) (a2 : Int32) (a3 : Int32) (w : sm_Mem), sm_Sim E (mi_mo_text) 34 [some (.ref 62), some (.int a1), some (.int a2), some (.int a3)] [] w (self34 a1 a2 a3 w)) (a1 : Int32) (a2 : Int32) (a3 : Int32) (w : sm_Mem) : sm_Sim E (mi_mo_text) 34 [some (.ref 62), some (.int a1), some (.int a2), some (.int a3)] [] w (ff_mo_text_34_b  self34 a1 a2 a3 w) := by
  unfold ff_mo_text_34_b
  refine sm_iload_n ii_mo_text_34 rfl ?_
  refine sm_bipush (60 : Int32) ii_mo_text_35 (by decide) ?_
  refine sm_icmp_ge 59 ii_mo_text_37 (by decide) ?_ ?_
  · refine sm_iload_n ii_mo_text_59 rfl ?_
    exact sm_iret ii_mo_text_60 rfl
  · refine sm_aload_n ii_mo_text_40 rfl ?_
    refine sm_getR 70 ii_mo_text_41 fl_mo_31 (k := 62) rfl ?_
    refine sm_bipush (60 : Int32) ii_mo_text_44 (by decide) ?_
    refine sm_iload_n ii_mo_text_46 rfl ?_
    refine sm_imul ii_mo_text_47 ?_
    refine sm_iload_n ii_mo_text_48 rfl ?_
    refine sm_iadd ii_mo_text_49 ?_
    refine sm_bipush (32 : Int32) ii_mo_text_50 (by decide) ?_
    refine sm_iast ii_mo_text_52 (k := 70) rfl (fun w1 => ?_)
    refine sm_iinc (a3 + (1 : Int32)) [some (.ref 62), some (.int a1), some (.int a2), some (.int (a3 + (1 : Int32)))] ii_mo_text_53 rfl rfl rfl rfl ?_
    refine sm_goto 34 ii_mo_text_56 (by decide) ?_
    exact hself34 (a1) (a2) ((a3 + (1 : Int32))) w1
set_option maxHeartbeats 4000000 in
set_option maxRecDepth 100000 in
theorem ss_mo_text_34_f {E : Nat × (Nat → Int32)}  : ∀ (n : Nat) (a1 : Int32) (a2 : Int32) (a3 : Int32) (w : sm_Mem), sm_Sim E (mi_mo_text) 34 [some (.ref 62), some (.int a1), some (.int a2), some (.int a3)] [] w (ff_mo_text_34_f  n a1 a2 a3 w)
  | 0, _, _, _, _ => fun _ _ h => by cases h
  | n + 1, a1, a2, a3, w => ss_mo_text_34_b  _ (ss_mo_text_34_f  n) a1 a2 a3 w
set_option maxHeartbeats 4000000 in
set_option maxRecDepth 100000 in
theorem ss_mo_text_34 {E : Nat × (Nat → Int32)}  (a1 : Int32) (a2 : Int32) (a3 : Int32) (w : sm_Mem) : sm_Sim E (mi_mo_text) 34 [some (.ref 62), some (.int a1), some (.int a2), some (.int a3)] [] w (ff_mo_text_34  a1 a2 a3 w) := ss_mo_text_34_f  sm_N a1 a2 a3 w
noncomputable def ff_mo_text  (a1 : Int32) (a2 : Int32) (w : sm_Mem) : sm_R := (sm_cI (ff_mo_isText (a1) w) fun x2 w3 => (if x2 = (0 : Int32) then (some (.int (-1 : Int32), w3)) else (if a2 ≤ (60 : Int32) then (if (0 : Int32) ≤ a2 then (Option.bind (sm_wr w3 69 4 a1 a2) fun w4 => ff_mo_text_34 (a1) (a2) ((0 : Int32)) w4) else (sm_cI (ff_mo_find ((5 : Int32)) w3) fun x5 w6 => (some (.int x5, w6)))) else (some (.int (-1 : Int32), w3)))))
set_option maxHeartbeats 4000000 in
set_option maxRecDepth 100000 in
theorem ss_mo_text_0 {E : Nat × (Nat → Int32)}  (a1 : Int32) (a2 : Int32) (w : sm_Mem) : sm_Sim E (mi_mo_text) 0 [some (.ref 62), some (.int a1), some (.int a2), none] [] w (ff_mo_text  a1 a2 w) := by
  unfold ff_mo_text
  refine sm_iload_n ii_mo_text_0 rfl ?_
  refine sm_csI [.int a1] [] rfl ii_mo_text_1 ml_mo_100 (mf_mo_isText) (mv_mo_isText) (Nat.le_of_ble_eq_true rfl) rfl rfl rfl (mc_mo_isText (a1) w) (fun x2 w3 => ?_)
  refine sm_if_eq 13 ii_mo_text_4 (by decide) ?_ ?_
  · refine sm_iconst (-1 : Int32) ii_mo_text_13 (by decide) ?_
    exact sm_iret ii_mo_text_14 rfl
  · refine sm_iload_n ii_mo_text_7 rfl ?_
    refine sm_bipush (60 : Int32) ii_mo_text_8 (by decide) ?_
    refine sm_icmp_le 15 ii_mo_text_10 (by decide) ?_ ?_
    · refine sm_iload_n ii_mo_text_15 rfl ?_
      refine sm_if_ge 25 ii_mo_text_16 (by decide) ?_ ?_
      · refine sm_aload_n ii_mo_text_25 rfl ?_
        refine sm_getR 69 ii_mo_text_26 fl_mo_28 (k := 62) rfl ?_
        refine sm_iload_n ii_mo_text_29 rfl ?_
        refine sm_iload_n ii_mo_text_30 rfl ?_
        refine sm_iast ii_mo_text_31 (k := 69) rfl (fun w4 => ?_)
        refine sm_iconst (0 : Int32) ii_mo_text_32 (by decide) ?_
        refine sm_istore_n [some (.ref 62), some (.int a1), some (.int a2), some (.int (0 : Int32))] ii_mo_text_33 rfl rfl ?_
        exact ss_mo_text_34 (a1) (a2) ((0 : Int32)) w4
      · refine sm_aload_n ii_mo_text_19 rfl ?_
        refine sm_iconst (5 : Int32) ii_mo_text_20 (by decide) ?_
        refine sm_cvI [.int (5 : Int32)] [] rfl ii_mo_text_21 ml_mo_81 (mf_mo_find) (mv_mo_find) (Nat.le_of_ble_eq_true rfl) rfl 7 rfl rfl rfl rfl (mc_mo_find ((5 : Int32)) w3) (fun x5 w6 => ?_)
        exact sm_iret ii_mo_text_24 rfl
    · refine sm_iconst (-1 : Int32) ii_mo_text_13 (by decide) ?_
      exact sm_iret ii_mo_text_14 rfl
set_option maxHeartbeats 4000000 in
set_option maxRecDepth 100000 in
theorem mc_mo_text (a1 : Int32) (a2 : Int32) (w : sm_Mem) : sm_MC mi_mo_text [.ref 62, .int a1, .int a2] w (ff_mo_text a1 a2 w) := sm_MC_of (0, fun _ => 0) (by decide +kernel) (by decide) rfl (Nat.le_of_ble_eq_true rfl) (ss_mo_text_0 a1 a2 w)
abbrev mi_ho_put : sm_MI := (⟨"HerOrders", "put", "(III)I"⟩, prog_1_method_9_code, 6, (some .int), 4)
set_option maxRecDepth 100000 in
theorem mf_ho_put : sm_MF mi_ho_put 3 := ⟨List.mem_of_getElem? (i := 457) (by decide +kernel), List.mem_of_getElem? (i := 124) (by decide +kernel), ⟨by decide, by decide⟩, by decide +kernel⟩
set_option maxRecDepth 100000 in
theorem mv_ho_put : sm_MFV mi_ho_put := ⟨List.mem_of_getElem? (i := 455) (by decide +kernel), List.mem_of_getElem? (i := 456) (by decide +kernel)⟩
set_option maxRecDepth 100000 in
theorem ii_ho_put_0 : sm_D prog_1_method_9_code 0 1 1 (.aload_n 0) := ⟨by decide +kernel, rfl⟩
set_option maxRecDepth 100000 in
theorem ii_ho_put_1 : sm_D prog_1_method_9_code 1 1 2 (.aload_n 0) := ⟨by decide +kernel, rfl⟩
set_option maxRecDepth 100000 in
theorem ii_ho_put_2 : sm_D prog_1_method_9_code 2 3 5 (.getfield 18) := ⟨by decide +kernel, rfl⟩
set_option maxRecDepth 100000 in
theorem ii_ho_put_5 : sm_D prog_1_method_9_code 5 1 6 (.iload_n 1) := ⟨by decide +kernel, rfl⟩
set_option maxRecDepth 100000 in
theorem ii_ho_put_6 : sm_D prog_1_method_9_code 6 1 7 (.iload_n 2) := ⟨by decide +kernel, rfl⟩
set_option maxRecDepth 100000 in
theorem ii_ho_put_7 : sm_D prog_1_method_9_code 7 3 10 (.invokevirtual 62) := ⟨by decide +kernel, rfl⟩
set_option maxRecDepth 100000 in
theorem ii_ho_put_10 : sm_D prog_1_method_9_code 10 2 12 (.istore 4) := ⟨by decide +kernel, rfl⟩
set_option maxRecDepth 100000 in
theorem ii_ho_put_12 : sm_D prog_1_method_9_code 12 2 14 (.iload 4) := ⟨by decide +kernel, rfl⟩
set_option maxRecDepth 100000 in
theorem ii_ho_put_14 : sm_D prog_1_method_9_code 14 3 17 (.ifCond .eq 6) := ⟨by decide +kernel, rfl⟩
set_option maxRecDepth 100000 in
theorem ii_ho_put_17 : sm_D prog_1_method_9_code 17 2 19 (.iload 4) := ⟨by decide +kernel, rfl⟩
set_option maxRecDepth 100000 in
theorem ii_ho_put_19 : sm_D prog_1_method_9_code 19 1 20 (.ireturn) := ⟨by decide +kernel, rfl⟩
set_option maxRecDepth 100000 in
theorem ii_ho_put_20 : sm_D prog_1_method_9_code 20 1 21 (.aload_n 0) := ⟨by decide +kernel, rfl⟩
set_option maxRecDepth 100000 in
theorem ii_ho_put_21 : sm_D prog_1_method_9_code 21 3 24 (.getfield 18) := ⟨by decide +kernel, rfl⟩
set_option maxRecDepth 100000 in
theorem ii_ho_put_24 : sm_D prog_1_method_9_code 24 1 25 (.iload_n 1) := ⟨by decide +kernel, rfl⟩
set_option maxRecDepth 100000 in
theorem ii_ho_put_25 : sm_D prog_1_method_9_code 25 1 26 (.aaload) := ⟨by decide +kernel, rfl⟩
set_option maxRecDepth 100000 in
theorem ii_ho_put_26 : sm_D prog_1_method_9_code 26 3 29 (.getfield 66) := ⟨by decide +kernel, rfl⟩
set_option maxRecDepth 100000 in
theorem ii_ho_put_29 : sm_D prog_1_method_9_code 29 1 30 (.iload_n 2) := ⟨by decide +kernel, rfl⟩
set_option maxRecDepth 100000 in
theorem ii_ho_put_30 : sm_D prog_1_method_9_code 30 1 31 (.iaload) := ⟨by decide +kernel, rfl⟩
set_option maxRecDepth 100000 in
theorem ii_ho_put_31 : sm_D prog_1_method_9_code 31 2 33 (.istore 5) := ⟨by decide +kernel, rfl⟩
set_option maxRecDepth 100000 in
theorem ii_ho_put_33 : sm_D prog_1_method_9_code 33 1 34 (.aload_n 0) := ⟨by decide +kernel, rfl⟩
set_option maxRecDepth 100000 in
theorem ii_ho_put_34 : sm_D prog_1_method_9_code 34 3 37 (.getfield 18) := ⟨by decide +kernel, rfl⟩
set_option maxRecDepth 100000 in
theorem ii_ho_put_37 : sm_D prog_1_method_9_code 37 1 38 (.iload_n 1) := ⟨by decide +kernel, rfl⟩
set_option maxRecDepth 100000 in
theorem ii_ho_put_38 : sm_D prog_1_method_9_code 38 1 39 (.aaload) := ⟨by decide +kernel, rfl⟩
set_option maxRecDepth 100000 in
theorem ii_ho_put_39 : sm_D prog_1_method_9_code 39 3 42 (.getfield 66) := ⟨by decide +kernel, rfl⟩
set_option maxRecDepth 100000 in
theorem ii_ho_put_42 : sm_D prog_1_method_9_code 42 1 43 (.iload_n 2) := ⟨by decide +kernel, rfl⟩
set_option maxRecDepth 100000 in
theorem ii_ho_put_43 : sm_D prog_1_method_9_code 43 1 44 (.iload_n 3) := ⟨by decide +kernel, rfl⟩
set_option maxRecDepth 100000 in
theorem ii_ho_put_44 : sm_D prog_1_method_9_code 44 1 45 (.i2b) := ⟨by decide +kernel, rfl⟩
set_option maxRecDepth 100000 in
theorem ii_ho_put_45 : sm_D prog_1_method_9_code 45 1 46 (.iastore) := ⟨by decide +kernel, rfl⟩
set_option maxRecDepth 100000 in
theorem ii_ho_put_46 : sm_D prog_1_method_9_code 46 2 48 (.iload 5) := ⟨by decide +kernel, rfl⟩
set_option maxRecDepth 100000 in
theorem ii_ho_put_48 : sm_D prog_1_method_9_code 48 3 51 (.sipush 1000) := ⟨by decide +kernel, rfl⟩
set_option maxRecDepth 100000 in
theorem ii_ho_put_51 : sm_D prog_1_method_9_code 51 1 52 (.iadd) := ⟨by decide +kernel, rfl⟩
set_option maxRecDepth 100000 in
theorem ii_ho_put_52 : sm_D prog_1_method_9_code 52 1 53 (.ireturn) := ⟨by decide +kernel, rfl⟩
noncomputable def ff_ho_put  (a1 : Int32) (a2 : Int32) (a3 : Int32) (w : sm_Mem) : sm_R := (sm_cI (ff_ho_refusalOfPlace (14) (a1) (a2) w) fun x1 w2 => (if x1 = (0 : Int32) then (Option.bind (sm_rr 14 a1) fun r3 => (Option.bind (sm_fk r3 2 0 2) fun r4 => (Option.bind (sm_rds w2 r4 a2) fun x5 => (Option.bind (sm_rr 14 a1) fun r6 => (Option.bind (sm_fk r6 2 0 2) fun r7 => (Option.bind (sm_wrs w2 r7 a2 ((Int32.toInt8 a3).toInt32)) fun w8 => (some (.int (x5 + (1000 : Int32)), w8)))))))) else (some (.int x1, w2))))
set_option maxHeartbeats 4000000 in
set_option maxRecDepth 100000 in
theorem ss_ho_put_0 {E : Nat × (Nat → Int32)}  (a1 : Int32) (a2 : Int32) (a3 : Int32) (w : sm_Mem) : sm_Sim E (mi_ho_put) 0 [some (.ref 0), some (.int a1), some (.int a2), some (.int a3), none, none] [] w (ff_ho_put  a1 a2 a3 w) := by
  unfold ff_ho_put
  refine sm_aload_n ii_ho_put_0 rfl ?_
  refine sm_aload_n ii_ho_put_1 rfl ?_
  refine sm_getR 14 ii_ho_put_2 fl_ho_18 (k := 0) rfl ?_
  refine sm_iload_n ii_ho_put_5 rfl ?_
  refine sm_iload_n ii_ho_put_6 rfl ?_
  refine sm_cvI [.ref 14, .int a1, .int a2] [] rfl ii_ho_put_7 ml_ho_62 (mf_ho_refusalOfPlace) (mv_ho_refusalOfPlace) (Nat.le_of_ble_eq_true rfl) rfl 6 rfl rfl rfl rfl (mc_ho_refusalOfPlace (14) (a1) (a2) w) (fun x1 w2 => ?_)
  refine sm_istore [some (.ref 0), some (.int a1), some (.int a2), some (.int a3), some (.int x1), none] ii_ho_put_10 rfl rfl ?_
  refine sm_iload ii_ho_put_12 rfl ?_
  refine sm_if_eq 20 ii_ho_put_14 (by decide) ?_ ?_
  · refine sm_aload_n ii_ho_put_20 rfl ?_
    refine sm_getR 14 ii_ho_put_21 fl_ho_18 (k := 0) rfl ?_
    refine sm_iload_n ii_ho_put_24 rfl ?_
    refine sm_aald ii_ho_put_25 (fun r3 => ?_)
    refine sm_getRs ii_ho_put_26 fl_ho_66 (fun r4 => ?_)
    refine sm_iload_n ii_ho_put_29 rfl ?_
    refine sm_ialds ii_ho_put_30 (fun x5 => ?_)
    refine sm_istore [some (.ref 0), some (.int a1), some (.int a2), some (.int a3), some (.int x1), some (.int x5)] ii_ho_put_31 rfl rfl ?_
    refine sm_aload_n ii_ho_put_33 rfl ?_
    refine sm_getR 14 ii_ho_put_34 fl_ho_18 (k := 0) rfl ?_
    refine sm_iload_n ii_ho_put_37 rfl ?_
    refine sm_aald ii_ho_put_38 (fun r6 => ?_)
    refine sm_getRs ii_ho_put_39 fl_ho_66 (fun r7 => ?_)
    refine sm_iload_n ii_ho_put_42 rfl ?_
    refine sm_iload_n ii_ho_put_43 rfl ?_
    refine sm_i2b ii_ho_put_44 ?_
    refine sm_iasts ii_ho_put_45 (fun w8 => ?_)
    refine sm_iload ii_ho_put_46 rfl ?_
    refine sm_sipush (1000 : Int32) ii_ho_put_48 (by decide) ?_
    refine sm_iadd ii_ho_put_51 ?_
    exact sm_iret ii_ho_put_52 rfl
  · refine sm_iload ii_ho_put_17 rfl ?_
    exact sm_iret ii_ho_put_19 rfl
set_option maxHeartbeats 4000000 in
set_option maxRecDepth 100000 in
theorem mc_ho_put (a1 : Int32) (a2 : Int32) (a3 : Int32) (w : sm_Mem) : sm_MC mi_ho_put [.ref 0, .int a1, .int a2, .int a3] w (ff_ho_put a1 a2 a3 w) := sm_MC_of (0, fun _ => 0) (by decide +kernel) (by decide) rfl (Nat.le_of_ble_eq_true rfl) (ss_ho_put_0 a1 a2 a3 w)
abbrev mi_mo_put : sm_MI := (⟨"HerOrdersModel", "put", "(III)I"⟩, prog_9_method_19_code, 5, (some .int), 3)
set_option maxRecDepth 100000 in
theorem mf_mo_put : sm_MF mi_mo_put 3 := ⟨List.mem_of_getElem? (i := 1095) (by decide +kernel), List.mem_of_getElem? (i := 132) (by decide +kernel), ⟨by decide, by decide⟩, by decide +kernel⟩
set_option maxRecDepth 100000 in
theorem mv_mo_put : sm_MFV mi_mo_put := ⟨List.mem_of_getElem? (i := 1093) (by decide +kernel), List.mem_of_getElem? (i := 1094) (by decide +kernel)⟩
set_option maxRecDepth 100000 in
theorem ii_mo_put_0 : sm_D prog_9_method_19_code 0 1 1 (.iload_n 1) := ⟨by decide +kernel, rfl⟩
set_option maxRecDepth 100000 in
theorem ii_mo_put_1 : sm_D prog_9_method_19_code 1 3 4 (.invokestatic 100) := ⟨by decide +kernel, rfl⟩
set_option maxRecDepth 100000 in
theorem ii_mo_put_4 : sm_D prog_9_method_19_code 4 3 7 (.ifCond .ne 5) := ⟨by decide +kernel, rfl⟩
set_option maxRecDepth 100000 in
theorem ii_mo_put_7 : sm_D prog_9_method_19_code 7 1 8 (.iconst (-1)) := ⟨by decide +kernel, rfl⟩
set_option maxRecDepth 100000 in
theorem ii_mo_put_8 : sm_D prog_9_method_19_code 8 1 9 (.ireturn) := ⟨by decide +kernel, rfl⟩
set_option maxRecDepth 100000 in
theorem ii_mo_put_9 : sm_D prog_9_method_19_code 9 1 10 (.aload_n 0) := ⟨by decide +kernel, rfl⟩
set_option maxRecDepth 100000 in
theorem ii_mo_put_10 : sm_D prog_9_method_19_code 10 3 13 (.getfield 28) := ⟨by decide +kernel, rfl⟩
set_option maxRecDepth 100000 in
theorem ii_mo_put_13 : sm_D prog_9_method_19_code 13 1 14 (.iload_n 1) := ⟨by decide +kernel, rfl⟩
set_option maxRecDepth 100000 in
theorem ii_mo_put_14 : sm_D prog_9_method_19_code 14 1 15 (.iaload) := ⟨by decide +kernel, rfl⟩
set_option maxRecDepth 100000 in
theorem ii_mo_put_15 : sm_D prog_9_method_19_code 15 3 18 (.ifCond .ge 9) := ⟨by decide +kernel, rfl⟩
set_option maxRecDepth 100000 in
theorem ii_mo_put_18 : sm_D prog_9_method_19_code 18 1 19 (.aload_n 0) := ⟨by decide +kernel, rfl⟩
set_option maxRecDepth 100000 in
theorem ii_mo_put_19 : sm_D prog_9_method_19_code 19 1 20 (.iconst 1) := ⟨by decide +kernel, rfl⟩
set_option maxRecDepth 100000 in
theorem ii_mo_put_20 : sm_D prog_9_method_19_code 20 3 23 (.invokevirtual 81) := ⟨by decide +kernel, rfl⟩
set_option maxRecDepth 100000 in
theorem ii_mo_put_23 : sm_D prog_9_method_19_code 23 1 24 (.ireturn) := ⟨by decide +kernel, rfl⟩
set_option maxRecDepth 100000 in
theorem ii_mo_put_24 : sm_D prog_9_method_19_code 24 1 25 (.iload_n 2) := ⟨by decide +kernel, rfl⟩
set_option maxRecDepth 100000 in
theorem ii_mo_put_25 : sm_D prog_9_method_19_code 25 1 26 (.i2l) := ⟨by decide +kernel, rfl⟩
set_option maxRecDepth 100000 in
theorem ii_mo_put_26 : sm_D prog_9_method_19_code 26 1 27 (.lconst 0) := ⟨by decide +kernel, rfl⟩
set_option maxRecDepth 100000 in
theorem ii_mo_put_27 : sm_D prog_9_method_19_code 27 1 28 (.aload_n 0) := ⟨by decide +kernel, rfl⟩
set_option maxRecDepth 100000 in
theorem ii_mo_put_28 : sm_D prog_9_method_19_code 28 3 31 (.getfield 28) := ⟨by decide +kernel, rfl⟩
set_option maxRecDepth 100000 in
theorem ii_mo_put_31 : sm_D prog_9_method_19_code 31 1 32 (.iload_n 1) := ⟨by decide +kernel, rfl⟩
set_option maxRecDepth 100000 in
theorem ii_mo_put_32 : sm_D prog_9_method_19_code 32 1 33 (.iaload) := ⟨by decide +kernel, rfl⟩
set_option maxRecDepth 100000 in
theorem ii_mo_put_33 : sm_D prog_9_method_19_code 33 1 34 (.iconst 1) := ⟨by decide +kernel, rfl⟩
set_option maxRecDepth 100000 in
theorem ii_mo_put_34 : sm_D prog_9_method_19_code 34 1 35 (.isub) := ⟨by decide +kernel, rfl⟩
set_option maxRecDepth 100000 in
theorem ii_mo_put_35 : sm_D prog_9_method_19_code 35 1 36 (.i2l) := ⟨by decide +kernel, rfl⟩
set_option maxRecDepth 100000 in
theorem ii_mo_put_36 : sm_D prog_9_method_19_code 36 3 39 (.invokestatic 71) := ⟨by decide +kernel, rfl⟩
set_option maxRecDepth 100000 in
theorem ii_mo_put_39 : sm_D prog_9_method_19_code 39 3 42 (.ifCond .ne 9) := ⟨by decide +kernel, rfl⟩
set_option maxRecDepth 100000 in
theorem ii_mo_put_42 : sm_D prog_9_method_19_code 42 1 43 (.aload_n 0) := ⟨by decide +kernel, rfl⟩
set_option maxRecDepth 100000 in
theorem ii_mo_put_43 : sm_D prog_9_method_19_code 43 1 44 (.iconst 2) := ⟨by decide +kernel, rfl⟩
set_option maxRecDepth 100000 in
theorem ii_mo_put_44 : sm_D prog_9_method_19_code 44 3 47 (.invokevirtual 81) := ⟨by decide +kernel, rfl⟩
set_option maxRecDepth 100000 in
theorem ii_mo_put_47 : sm_D prog_9_method_19_code 47 1 48 (.ireturn) := ⟨by decide +kernel, rfl⟩
set_option maxRecDepth 100000 in
theorem ii_mo_put_48 : sm_D prog_9_method_19_code 48 1 49 (.aload_n 0) := ⟨by decide +kernel, rfl⟩
set_option maxRecDepth 100000 in
theorem ii_mo_put_49 : sm_D prog_9_method_19_code 49 3 52 (.getfield 31) := ⟨by decide +kernel, rfl⟩
set_option maxRecDepth 100000 in
theorem ii_mo_put_52 : sm_D prog_9_method_19_code 52 2 54 (.bipush 60) := ⟨by decide +kernel, rfl⟩
set_option maxRecDepth 100000 in
theorem ii_mo_put_54 : sm_D prog_9_method_19_code 54 1 55 (.iload_n 1) := ⟨by decide +kernel, rfl⟩
set_option maxRecDepth 100000 in
theorem ii_mo_put_55 : sm_D prog_9_method_19_code 55 1 56 (.imul) := ⟨by decide +kernel, rfl⟩
set_option maxRecDepth 100000 in
theorem ii_mo_put_56 : sm_D prog_9_method_19_code 56 1 57 (.iload_n 2) := ⟨by decide +kernel, rfl⟩
set_option maxRecDepth 100000 in
theorem ii_mo_put_57 : sm_D prog_9_method_19_code 57 1 58 (.iadd) := ⟨by decide +kernel, rfl⟩
set_option maxRecDepth 100000 in
theorem ii_mo_put_58 : sm_D prog_9_method_19_code 58 1 59 (.iaload) := ⟨by decide +kernel, rfl⟩
set_option maxRecDepth 100000 in
theorem ii_mo_put_59 : sm_D prog_9_method_19_code 59 2 61 (.istore 4) := ⟨by decide +kernel, rfl⟩
set_option maxRecDepth 100000 in
theorem ii_mo_put_61 : sm_D prog_9_method_19_code 61 1 62 (.aload_n 0) := ⟨by decide +kernel, rfl⟩
set_option maxRecDepth 100000 in
theorem ii_mo_put_62 : sm_D prog_9_method_19_code 62 3 65 (.getfield 31) := ⟨by decide +kernel, rfl⟩
set_option maxRecDepth 100000 in
theorem ii_mo_put_65 : sm_D prog_9_method_19_code 65 2 67 (.bipush 60) := ⟨by decide +kernel, rfl⟩
set_option maxRecDepth 100000 in
theorem ii_mo_put_67 : sm_D prog_9_method_19_code 67 1 68 (.iload_n 1) := ⟨by decide +kernel, rfl⟩
set_option maxRecDepth 100000 in
theorem ii_mo_put_68 : sm_D prog_9_method_19_code 68 1 69 (.imul) := ⟨by decide +kernel, rfl⟩
set_option maxRecDepth 100000 in
theorem ii_mo_put_69 : sm_D prog_9_method_19_code 69 1 70 (.iload_n 2) := ⟨by decide +kernel, rfl⟩
set_option maxRecDepth 100000 in
theorem ii_mo_put_70 : sm_D prog_9_method_19_code 70 1 71 (.iadd) := ⟨by decide +kernel, rfl⟩
set_option maxRecDepth 100000 in
theorem ii_mo_put_71 : sm_D prog_9_method_19_code 71 1 72 (.iload_n 3) := ⟨by decide +kernel, rfl⟩
set_option maxRecDepth 100000 in
theorem ii_mo_put_72 : sm_D prog_9_method_19_code 72 1 73 (.i2b) := ⟨by decide +kernel, rfl⟩
set_option maxRecDepth 100000 in
theorem ii_mo_put_73 : sm_D prog_9_method_19_code 73 1 74 (.iastore) := ⟨by decide +kernel, rfl⟩
set_option maxRecDepth 100000 in
theorem ii_mo_put_74 : sm_D prog_9_method_19_code 74 2 76 (.iload 4) := ⟨by decide +kernel, rfl⟩
set_option maxRecDepth 100000 in
theorem ii_mo_put_76 : sm_D prog_9_method_19_code 76 3 79 (.sipush 1000) := ⟨by decide +kernel, rfl⟩
set_option maxRecDepth 100000 in
theorem ii_mo_put_79 : sm_D prog_9_method_19_code 79 1 80 (.iadd) := ⟨by decide +kernel, rfl⟩
set_option maxRecDepth 100000 in
theorem ii_mo_put_80 : sm_D prog_9_method_19_code 80 1 81 (.ireturn) := ⟨by decide +kernel, rfl⟩
noncomputable def ff_mo_put  (a1 : Int32) (a2 : Int32) (a3 : Int32) (w : sm_Mem) : sm_R := (sm_cI (ff_mo_isText (a1) w) fun x1 w2 => (if x1 = (0 : Int32) then (some (.int (-1 : Int32), w2)) else (Option.bind (sm_rd w2 69 4 a1) fun x3 => (if (0 : Int32) ≤ x3 then (Option.bind (sm_rd w2 69 4 a1) fun x4 => (sm_cI (ff_mo_in ((Int32.toInt64 a2)) ((0 : Int64)) ((Int32.toInt64 (x4 - (1 : Int32)))) w2) fun x5 w6 => (if x5 = (0 : Int32) then (sm_cI (ff_mo_find ((2 : Int32)) w6) fun x9 w10 => (some (.int x9, w10))) else (Option.bind (sm_rd w6 70 240 (((60 : Int32) * a1) + a2)) fun x7 => (Option.bind (sm_wr w6 70 240 (((60 : Int32) * a1) + a2) ((Int32.toInt8 a3).toInt32)) fun w8 => (some (.int (x7 + (1000 : Int32)), w8))))))) else (sm_cI (ff_mo_find ((1 : Int32)) w2) fun x11 w12 => (some (.int x11, w12)))))))
set_option maxHeartbeats 4000000 in
set_option maxRecDepth 100000 in
theorem ss_mo_put_0 {E : Nat × (Nat → Int32)}  (a1 : Int32) (a2 : Int32) (a3 : Int32) (w : sm_Mem) : sm_Sim E (mi_mo_put) 0 [some (.ref 62), some (.int a1), some (.int a2), some (.int a3), none] [] w (ff_mo_put  a1 a2 a3 w) := by
  unfold ff_mo_put
  refine sm_iload_n ii_mo_put_0 rfl ?_
  refine sm_csI [.int a1] [] rfl ii_mo_put_1 ml_mo_100 (mf_mo_isText) (mv_mo_isText) (Nat.le_of_ble_eq_true rfl) rfl rfl rfl (mc_mo_isText (a1) w) (fun x1 w2 => ?_)
  refine sm_if_ne 9 ii_mo_put_4 (by decide) ?_ ?_
  · refine sm_iconst (-1 : Int32) ii_mo_put_7 (by decide) ?_
    exact sm_iret ii_mo_put_8 rfl
  · refine sm_aload_n ii_mo_put_9 rfl ?_
    refine sm_getR 69 ii_mo_put_10 fl_mo_28 (k := 62) rfl ?_
    refine sm_iload_n ii_mo_put_13 rfl ?_
    refine sm_iald ii_mo_put_14 (k := 69) rfl (fun x3 => ?_)
    refine sm_if_ge 24 ii_mo_put_15 (by decide) ?_ ?_
    · refine sm_iload_n ii_mo_put_24 rfl ?_
      refine sm_i2l ii_mo_put_25 ?_
      refine sm_lconst (0 : Int64) ii_mo_put_26 (by decide) ?_
      refine sm_aload_n ii_mo_put_27 rfl ?_
      refine sm_getR 69 ii_mo_put_28 fl_mo_28 (k := 62) rfl ?_
      refine sm_iload_n ii_mo_put_31 rfl ?_
      refine sm_iald ii_mo_put_32 (k := 69) rfl (fun x4 => ?_)
      refine sm_iconst (1 : Int32) ii_mo_put_33 (by decide) ?_
      refine sm_isub ii_mo_put_34 ?_
      refine sm_i2l ii_mo_put_35 ?_
      refine sm_csI [.long (Int32.toInt64 a2), .long (0 : Int64), .long (Int32.toInt64 (x4 - (1 : Int32)))] [] rfl ii_mo_put_36 ml_mo_71 (mf_mo_in) (mv_mo_in) (Nat.le_of_ble_eq_true rfl) rfl rfl rfl (mc_mo_in ((Int32.toInt64 a2)) ((0 : Int64)) ((Int32.toInt64 (x4 - (1 : Int32)))) w2) (fun x5 w6 => ?_)
      refine sm_if_ne 48 ii_mo_put_39 (by decide) ?_ ?_
      · refine sm_aload_n ii_mo_put_42 rfl ?_
        refine sm_iconst (2 : Int32) ii_mo_put_43 (by decide) ?_
        refine sm_cvI [.int (2 : Int32)] [] rfl ii_mo_put_44 ml_mo_81 (mf_mo_find) (mv_mo_find) (Nat.le_of_ble_eq_true rfl) rfl 7 rfl rfl rfl rfl (mc_mo_find ((2 : Int32)) w6) (fun x9 w10 => ?_)
        exact sm_iret ii_mo_put_47 rfl
      · refine sm_aload_n ii_mo_put_48 rfl ?_
        refine sm_getR 70 ii_mo_put_49 fl_mo_31 (k := 62) rfl ?_
        refine sm_bipush (60 : Int32) ii_mo_put_52 (by decide) ?_
        refine sm_iload_n ii_mo_put_54 rfl ?_
        refine sm_imul ii_mo_put_55 ?_
        refine sm_iload_n ii_mo_put_56 rfl ?_
        refine sm_iadd ii_mo_put_57 ?_
        refine sm_iald ii_mo_put_58 (k := 70) rfl (fun x7 => ?_)
        refine sm_istore [some (.ref 62), some (.int a1), some (.int a2), some (.int a3), some (.int x7)] ii_mo_put_59 rfl rfl ?_
        refine sm_aload_n ii_mo_put_61 rfl ?_
        refine sm_getR 70 ii_mo_put_62 fl_mo_31 (k := 62) rfl ?_
        refine sm_bipush (60 : Int32) ii_mo_put_65 (by decide) ?_
        refine sm_iload_n ii_mo_put_67 rfl ?_
        refine sm_imul ii_mo_put_68 ?_
        refine sm_iload_n ii_mo_put_69 rfl ?_
        refine sm_iadd ii_mo_put_70 ?_
        refine sm_iload_n ii_mo_put_71 rfl ?_
        refine sm_i2b ii_mo_put_72 ?_
        refine sm_iast ii_mo_put_73 (k := 70) rfl (fun w8 => ?_)
        refine sm_iload ii_mo_put_74 rfl ?_
        refine sm_sipush (1000 : Int32) ii_mo_put_76 (by decide) ?_
        refine sm_iadd ii_mo_put_79 ?_
        exact sm_iret ii_mo_put_80 rfl
    · refine sm_aload_n ii_mo_put_18 rfl ?_
      refine sm_iconst (1 : Int32) ii_mo_put_19 (by decide) ?_
      refine sm_cvI [.int (1 : Int32)] [] rfl ii_mo_put_20 ml_mo_81 (mf_mo_find) (mv_mo_find) (Nat.le_of_ble_eq_true rfl) rfl 7 rfl rfl rfl rfl (mc_mo_find ((1 : Int32)) w2) (fun x11 w12 => ?_)
      exact sm_iret ii_mo_put_23 rfl
set_option maxHeartbeats 4000000 in
set_option maxRecDepth 100000 in
theorem mc_mo_put (a1 : Int32) (a2 : Int32) (a3 : Int32) (w : sm_Mem) : sm_MC mi_mo_put [.ref 62, .int a1, .int a2, .int a3] w (ff_mo_put a1 a2 a3 w) := sm_MC_of (0, fun _ => 0) (by decide +kernel) (by decide) rfl (Nat.le_of_ble_eq_true rfl) (ss_mo_put_0 a1 a2 a3 w)
abbrev mi_ho_kindOf : sm_MI := (⟨"HerOrders", "kindOf", "(I)I"⟩, prog_1_method_56_code, 2, (some .int), 1)
set_option maxRecDepth 100000 in
theorem mf_ho_kindOf : sm_MF mi_ho_kindOf 1 := ⟨List.mem_of_getElem? (i := 470) (by decide +kernel), List.mem_of_getElem? (i := 124) (by decide +kernel), ⟨by decide, by decide⟩, by decide +kernel⟩
set_option maxRecDepth 100000 in
theorem mv_ho_kindOf : sm_MFS mi_ho_kindOf := List.mem_of_getElem? (i := 469) (by decide +kernel)
set_option maxRecDepth 100000 in
theorem ii_ho_kindOf_0 : sm_D prog_1_method_56_code 0 1 1 (.iconst 0) := ⟨by decide +kernel, rfl⟩
set_option maxRecDepth 100000 in
theorem ii_ho_kindOf_1 : sm_D prog_1_method_56_code 1 1 2 (.istore_n 1) := ⟨by decide +kernel, rfl⟩
set_option maxRecDepth 100000 in
theorem ii_ho_kindOf_2 : sm_D prog_1_method_56_code 2 1 3 (.iload_n 1) := ⟨by decide +kernel, rfl⟩
set_option maxRecDepth 100000 in
theorem ii_ho_kindOf_3 : sm_D prog_1_method_56_code 3 2 5 (.bipush 6) := ⟨by decide +kernel, rfl⟩
set_option maxRecDepth 100000 in
theorem ii_ho_kindOf_5 : sm_D prog_1_method_56_code 5 3 8 (.if_icmp .ge 20) := ⟨by decide +kernel, rfl⟩
set_option maxRecDepth 100000 in
theorem ii_ho_kindOf_8 : sm_D prog_1_method_56_code 8 3 11 (.getstatic 345) := ⟨by decide +kernel, rfl⟩
set_option maxRecDepth 100000 in
theorem ii_ho_kindOf_11 : sm_D prog_1_method_56_code 11 1 12 (.iload_n 1) := ⟨by decide +kernel, rfl⟩
set_option maxRecDepth 100000 in
theorem ii_ho_kindOf_12 : sm_D prog_1_method_56_code 12 1 13 (.iaload) := ⟨by decide +kernel, rfl⟩
set_option maxRecDepth 100000 in
theorem ii_ho_kindOf_13 : sm_D prog_1_method_56_code 13 1 14 (.iload_n 0) := ⟨by decide +kernel, rfl⟩
set_option maxRecDepth 100000 in
theorem ii_ho_kindOf_14 : sm_D prog_1_method_56_code 14 3 17 (.if_icmp .ne 5) := ⟨by decide +kernel, rfl⟩
set_option maxRecDepth 100000 in
theorem ii_ho_kindOf_17 : sm_D prog_1_method_56_code 17 1 18 (.iload_n 1) := ⟨by decide +kernel, rfl⟩
set_option maxRecDepth 100000 in
theorem ii_ho_kindOf_18 : sm_D prog_1_method_56_code 18 1 19 (.ireturn) := ⟨by decide +kernel, rfl⟩
set_option maxRecDepth 100000 in
theorem ii_ho_kindOf_19 : sm_D prog_1_method_56_code 19 3 22 (.iinc 1 1) := ⟨by decide +kernel, rfl⟩
set_option maxRecDepth 100000 in
theorem ii_ho_kindOf_22 : sm_D prog_1_method_56_code 22 3 25 (.goto (-20)) := ⟨by decide +kernel, rfl⟩
set_option maxRecDepth 100000 in
theorem ii_ho_kindOf_25 : sm_D prog_1_method_56_code 25 2 27 (.bipush (-9)) := ⟨by decide +kernel, rfl⟩
set_option maxRecDepth 100000 in
theorem ii_ho_kindOf_27 : sm_D prog_1_method_56_code 27 1 28 (.ireturn) := ⟨by decide +kernel, rfl⟩
noncomputable def ff_ho_kindOf_2_b  (self2 : Int32 → Int32 → sm_Mem → sm_R) (a0 : Int32) (a1 : Int32) (w : sm_Mem) : sm_R := (if (6 : Int32) ≤ a1 then (some (.int (-9 : Int32), w)) else (Option.bind (sm_kd a1) fun x1 => (if x1 = a0 then (some (.int a1, w)) else self2 (a0) ((a1 + (1 : Int32))) w)))
noncomputable def ff_ho_kindOf_2_f  : Nat → Int32 → Int32 → sm_Mem → sm_R
  | 0, _, _, _ => none
  | n + 1, a0, a1, w => ff_ho_kindOf_2_b  (ff_ho_kindOf_2_f  n) a0 a1 w
noncomputable def ff_ho_kindOf_2  (a0 : Int32) (a1 : Int32) (w : sm_Mem) : sm_R := ff_ho_kindOf_2_f  sm_N a0 a1 w
set_option maxHeartbeats 4000000 in
set_option maxRecDepth 100000 in
theorem ss_ho_kindOf_2_b {E : Nat × (Nat → Int32)}  (self2 : Int32 → Int32 → sm_Mem → sm_R) (hself2 : ∀ (a0 : Int32) (a1 : Int32) (w : sm_Mem), sm_Sim E (mi_ho_kindOf) 2 [some (.int a0), some (.int a1)] [] w (self2 a0 a1 w)) (a0 : Int32) (a1 : Int32) (w : sm_Mem) : sm_Sim E (mi_ho_kindOf) 2 [some (.int a0), some (.int a1)] [] w (ff_ho_kindOf_2_b  self2 a0 a1 w) := by
  unfold ff_ho_kindOf_2_b
  refine sm_iload_n ii_ho_kindOf_2 rfl ?_
  refine sm_bipush (6 : Int32) ii_ho_kindOf_3 (by decide) ?_
  refine sm_icmp_ge 25 ii_ho_kindOf_5 (by decide) ?_ ?_
  · refine sm_bipush (-9 : Int32) ii_ho_kindOf_25 (by decide) ?_
    exact sm_iret ii_ho_kindOf_27 rfl
  · refine sm_gst ii_ho_kindOf_8 (List.mem_of_getElem? (i := 471) (by decide +kernel)) ?_
    refine sm_iload_n ii_ho_kindOf_11 rfl ?_
    refine sm_kald ii_ho_kindOf_12 (fun x1 => ?_)
    refine sm_iload_n ii_ho_kindOf_13 rfl ?_
    refine sm_icmp_ne 19 ii_ho_kindOf_14 (by decide) ?_ ?_
    · refine sm_iload_n ii_ho_kindOf_17 rfl ?_
      exact sm_iret ii_ho_kindOf_18 rfl
    · refine sm_iinc (a1 + (1 : Int32)) [some (.int a0), some (.int (a1 + (1 : Int32)))] ii_ho_kindOf_19 rfl rfl rfl rfl ?_
      refine sm_goto 2 ii_ho_kindOf_22 (by decide) ?_
      exact hself2 (a0) ((a1 + (1 : Int32))) w
set_option maxHeartbeats 4000000 in
set_option maxRecDepth 100000 in
theorem ss_ho_kindOf_2_f {E : Nat × (Nat → Int32)}  : ∀ (n : Nat) (a0 : Int32) (a1 : Int32) (w : sm_Mem), sm_Sim E (mi_ho_kindOf) 2 [some (.int a0), some (.int a1)] [] w (ff_ho_kindOf_2_f  n a0 a1 w)
  | 0, _, _, _ => fun _ _ h => by cases h
  | n + 1, a0, a1, w => ss_ho_kindOf_2_b  _ (ss_ho_kindOf_2_f  n) a0 a1 w
set_option maxHeartbeats 4000000 in
set_option maxRecDepth 100000 in
theorem ss_ho_kindOf_2 {E : Nat × (Nat → Int32)}  (a0 : Int32) (a1 : Int32) (w : sm_Mem) : sm_Sim E (mi_ho_kindOf) 2 [some (.int a0), some (.int a1)] [] w (ff_ho_kindOf_2  a0 a1 w) := ss_ho_kindOf_2_f  sm_N a0 a1 w
noncomputable def ff_ho_kindOf  (a0 : Int32) (w : sm_Mem) : sm_R := ff_ho_kindOf_2 (a0) ((0 : Int32)) w
set_option maxHeartbeats 4000000 in
set_option maxRecDepth 100000 in
theorem ss_ho_kindOf_0 {E : Nat × (Nat → Int32)}  (a0 : Int32) (w : sm_Mem) : sm_Sim E (mi_ho_kindOf) 0 [some (.int a0), none] [] w (ff_ho_kindOf  a0 w) := by
  unfold ff_ho_kindOf
  refine sm_iconst (0 : Int32) ii_ho_kindOf_0 (by decide) ?_
  refine sm_istore_n [some (.int a0), some (.int (0 : Int32))] ii_ho_kindOf_1 rfl rfl ?_
  exact ss_ho_kindOf_2 (a0) ((0 : Int32)) w
set_option maxHeartbeats 4000000 in
set_option maxRecDepth 100000 in
theorem mc_ho_kindOf (a0 : Int32) (w : sm_Mem) : sm_MC mi_ho_kindOf [.int a0] w (ff_ho_kindOf a0 w) := sm_MC_of (0, fun _ => 0) (by decide +kernel) (by decide) rfl (Nat.le_of_ble_eq_true rfl) (ss_ho_kindOf_0 a0 w)
abbrev mi_ho_faultOfItem : sm_MI := (⟨"HerOrders", "faultOfItem", "(LHerOrders$Row;I)I"⟩, prog_1_method_55_code, 8, (some .int), 2)
set_option maxRecDepth 100000 in
theorem mf_ho_faultOfItem : sm_MF mi_ho_faultOfItem 2 := ⟨List.mem_of_getElem? (i := 467) (by decide +kernel), List.mem_of_getElem? (i := 124) (by decide +kernel), ⟨by decide, by decide⟩, by decide +kernel⟩
set_option maxRecDepth 100000 in
theorem mv_ho_faultOfItem : sm_MFS mi_ho_faultOfItem := List.mem_of_getElem? (i := 466) (by decide +kernel)
set_option maxRecDepth 100000 in
theorem ii_ho_faultOfItem_0 : sm_D prog_1_method_55_code 0 1 1 (.aload_n 0) := ⟨by decide +kernel, rfl⟩
set_option maxRecDepth 100000 in
theorem ii_ho_faultOfItem_1 : sm_D prog_1_method_55_code 1 3 4 (.getfield 66) := ⟨by decide +kernel, rfl⟩
set_option maxRecDepth 100000 in
theorem ii_ho_faultOfItem_4 : sm_D prog_1_method_55_code 4 1 5 (.iload_n 1) := ⟨by decide +kernel, rfl⟩
set_option maxRecDepth 100000 in
theorem ii_ho_faultOfItem_5 : sm_D prog_1_method_55_code 5 1 6 (.iaload) := ⟨by decide +kernel, rfl⟩
set_option maxRecDepth 100000 in
theorem ii_ho_faultOfItem_6 : sm_D prog_1_method_55_code 6 3 9 (.invokestatic 342) := ⟨by decide +kernel, rfl⟩
set_option maxRecDepth 100000 in
theorem ii_ho_faultOfItem_9 : sm_D prog_1_method_55_code 9 2 11 (.bipush (-9)) := ⟨by decide +kernel, rfl⟩
set_option maxRecDepth 100000 in
theorem ii_ho_faultOfItem_11 : sm_D prog_1_method_55_code 11 3 14 (.if_icmp .ne 5) := ⟨by decide +kernel, rfl⟩
set_option maxRecDepth 100000 in
theorem ii_ho_faultOfItem_14 : sm_D prog_1_method_55_code 14 1 15 (.iload_n 1) := ⟨by decide +kernel, rfl⟩
set_option maxRecDepth 100000 in
theorem ii_ho_faultOfItem_15 : sm_D prog_1_method_55_code 15 1 16 (.ireturn) := ⟨by decide +kernel, rfl⟩
set_option maxRecDepth 100000 in
theorem ii_ho_faultOfItem_16 : sm_D prog_1_method_55_code 16 1 17 (.iconst 0) := ⟨by decide +kernel, rfl⟩
set_option maxRecDepth 100000 in
theorem ii_ho_faultOfItem_17 : sm_D prog_1_method_55_code 17 1 18 (.istore_n 2) := ⟨by decide +kernel, rfl⟩
set_option maxRecDepth 100000 in
theorem ii_ho_faultOfItem_18 : sm_D prog_1_method_55_code 18 1 19 (.iconst 1) := ⟨by decide +kernel, rfl⟩
set_option maxRecDepth 100000 in
theorem ii_ho_faultOfItem_19 : sm_D prog_1_method_55_code 19 1 20 (.istore_n 3) := ⟨by decide +kernel, rfl⟩
set_option maxRecDepth 100000 in
theorem ii_ho_faultOfItem_20 : sm_D prog_1_method_55_code 20 1 21 (.iload_n 3) := ⟨by decide +kernel, rfl⟩
set_option maxRecDepth 100000 in
theorem ii_ho_faultOfItem_21 : sm_D prog_1_method_55_code 21 1 22 (.iconst 5) := ⟨by decide +kernel, rfl⟩
set_option maxRecDepth 100000 in
theorem ii_ho_faultOfItem_22 : sm_D prog_1_method_55_code 22 3 25 (.if_icmp .ge 108) := ⟨by decide +kernel, rfl⟩
set_option maxRecDepth 100000 in
theorem ii_ho_faultOfItem_25 : sm_D prog_1_method_55_code 25 1 26 (.iload_n 1) := ⟨by decide +kernel, rfl⟩
set_option maxRecDepth 100000 in
theorem ii_ho_faultOfItem_26 : sm_D prog_1_method_55_code 26 1 27 (.iload_n 3) := ⟨by decide +kernel, rfl⟩
set_option maxRecDepth 100000 in
theorem ii_ho_faultOfItem_27 : sm_D prog_1_method_55_code 27 1 28 (.iadd) := ⟨by decide +kernel, rfl⟩
set_option maxRecDepth 100000 in
theorem ii_ho_faultOfItem_28 : sm_D prog_1_method_55_code 28 2 30 (.istore 4) := ⟨by decide +kernel, rfl⟩
set_option maxRecDepth 100000 in
theorem ii_ho_faultOfItem_30 : sm_D prog_1_method_55_code 30 2 32 (.iload 4) := ⟨by decide +kernel, rfl⟩
set_option maxRecDepth 100000 in
theorem ii_ho_faultOfItem_32 : sm_D prog_1_method_55_code 32 1 33 (.aload_n 0) := ⟨by decide +kernel, rfl⟩
set_option maxRecDepth 100000 in
theorem ii_ho_faultOfItem_33 : sm_D prog_1_method_55_code 33 3 36 (.getfield 78) := ⟨by decide +kernel, rfl⟩
set_option maxRecDepth 100000 in
theorem ii_ho_faultOfItem_36 : sm_D prog_1_method_55_code 36 3 39 (.if_icmp .lt 8) := ⟨by decide +kernel, rfl⟩
set_option maxRecDepth 100000 in
theorem ii_ho_faultOfItem_39 : sm_D prog_1_method_55_code 39 1 40 (.aload_n 0) := ⟨by decide +kernel, rfl⟩
set_option maxRecDepth 100000 in
theorem ii_ho_faultOfItem_40 : sm_D prog_1_method_55_code 40 3 43 (.getfield 78) := ⟨by decide +kernel, rfl⟩
set_option maxRecDepth 100000 in
theorem ii_ho_faultOfItem_43 : sm_D prog_1_method_55_code 43 1 44 (.ireturn) := ⟨by decide +kernel, rfl⟩
set_option maxRecDepth 100000 in
theorem ii_ho_faultOfItem_44 : sm_D prog_1_method_55_code 44 1 45 (.aload_n 0) := ⟨by decide +kernel, rfl⟩
set_option maxRecDepth 100000 in
theorem ii_ho_faultOfItem_45 : sm_D prog_1_method_55_code 45 3 48 (.getfield 66) := ⟨by decide +kernel, rfl⟩
set_option maxRecDepth 100000 in
theorem ii_ho_faultOfItem_48 : sm_D prog_1_method_55_code 48 2 50 (.iload 4) := ⟨by decide +kernel, rfl⟩
set_option maxRecDepth 100000 in
theorem ii_ho_faultOfItem_50 : sm_D prog_1_method_55_code 50 1 51 (.iaload) := ⟨by decide +kernel, rfl⟩
set_option maxRecDepth 100000 in
theorem ii_ho_faultOfItem_51 : sm_D prog_1_method_55_code 51 2 53 (.istore 5) := ⟨by decide +kernel, rfl⟩
set_option maxRecDepth 100000 in
theorem ii_ho_faultOfItem_53 : sm_D prog_1_method_55_code 53 1 54 (.iload_n 3) := ⟨by decide +kernel, rfl⟩
set_option maxRecDepth 100000 in
theorem ii_ho_faultOfItem_54 : sm_D prog_1_method_55_code 54 1 55 (.iconst 4) := ⟨by decide +kernel, rfl⟩
set_option maxRecDepth 100000 in
theorem ii_ho_faultOfItem_55 : sm_D prog_1_method_55_code 55 3 58 (.if_icmp .ne 8) := ⟨by decide +kernel, rfl⟩
set_option maxRecDepth 100000 in
theorem ii_ho_faultOfItem_58 : sm_D prog_1_method_55_code 58 2 60 (.bipush 49) := ⟨by decide +kernel, rfl⟩
set_option maxRecDepth 100000 in
theorem ii_ho_faultOfItem_60 : sm_D prog_1_method_55_code 60 3 63 (.goto 5) := ⟨by decide +kernel, rfl⟩
set_option maxRecDepth 100000 in
theorem ii_ho_faultOfItem_63 : sm_D prog_1_method_55_code 63 2 65 (.bipush 48) := ⟨by decide +kernel, rfl⟩
set_option maxRecDepth 100000 in
theorem ii_ho_faultOfItem_65 : sm_D prog_1_method_55_code 65 2 67 (.istore 6) := ⟨by decide +kernel, rfl⟩
set_option maxRecDepth 100000 in
theorem ii_ho_faultOfItem_67 : sm_D prog_1_method_55_code 67 1 68 (.iload_n 3) := ⟨by decide +kernel, rfl⟩
set_option maxRecDepth 100000 in
theorem ii_ho_faultOfItem_68 : sm_D prog_1_method_55_code 68 1 69 (.iconst 3) := ⟨by decide +kernel, rfl⟩
set_option maxRecDepth 100000 in
theorem ii_ho_faultOfItem_69 : sm_D prog_1_method_55_code 69 3 72 (.if_icmp .ne 8) := ⟨by decide +kernel, rfl⟩
set_option maxRecDepth 100000 in
theorem ii_ho_faultOfItem_72 : sm_D prog_1_method_55_code 72 2 74 (.bipush 53) := ⟨by decide +kernel, rfl⟩
set_option maxRecDepth 100000 in
theorem ii_ho_faultOfItem_74 : sm_D prog_1_method_55_code 74 3 77 (.goto 5) := ⟨by decide +kernel, rfl⟩
set_option maxRecDepth 100000 in
theorem ii_ho_faultOfItem_77 : sm_D prog_1_method_55_code 77 2 79 (.bipush 57) := ⟨by decide +kernel, rfl⟩
set_option maxRecDepth 100000 in
theorem ii_ho_faultOfItem_79 : sm_D prog_1_method_55_code 79 2 81 (.istore 7) := ⟨by decide +kernel, rfl⟩
set_option maxRecDepth 100000 in
theorem ii_ho_faultOfItem_81 : sm_D prog_1_method_55_code 81 2 83 (.iload 5) := ⟨by decide +kernel, rfl⟩
set_option maxRecDepth 100000 in
theorem ii_ho_faultOfItem_83 : sm_D prog_1_method_55_code 83 2 85 (.iload 6) := ⟨by decide +kernel, rfl⟩
set_option maxRecDepth 100000 in
theorem ii_ho_faultOfItem_85 : sm_D prog_1_method_55_code 85 3 88 (.if_icmp .lt 10) := ⟨by decide +kernel, rfl⟩
set_option maxRecDepth 100000 in
theorem ii_ho_faultOfItem_88 : sm_D prog_1_method_55_code 88 2 90 (.iload 5) := ⟨by decide +kernel, rfl⟩
set_option maxRecDepth 100000 in
theorem ii_ho_faultOfItem_90 : sm_D prog_1_method_55_code 90 2 92 (.iload 7) := ⟨by decide +kernel, rfl⟩
set_option maxRecDepth 100000 in
theorem ii_ho_faultOfItem_92 : sm_D prog_1_method_55_code 92 3 95 (.if_icmp .le 6) := ⟨by decide +kernel, rfl⟩
set_option maxRecDepth 100000 in
theorem ii_ho_faultOfItem_95 : sm_D prog_1_method_55_code 95 2 97 (.iload 4) := ⟨by decide +kernel, rfl⟩
set_option maxRecDepth 100000 in
theorem ii_ho_faultOfItem_97 : sm_D prog_1_method_55_code 97 1 98 (.ireturn) := ⟨by decide +kernel, rfl⟩
set_option maxRecDepth 100000 in
theorem ii_ho_faultOfItem_98 : sm_D prog_1_method_55_code 98 2 100 (.bipush 10) := ⟨by decide +kernel, rfl⟩
set_option maxRecDepth 100000 in
theorem ii_ho_faultOfItem_100 : sm_D prog_1_method_55_code 100 1 101 (.iload_n 2) := ⟨by decide +kernel, rfl⟩
set_option maxRecDepth 100000 in
theorem ii_ho_faultOfItem_101 : sm_D prog_1_method_55_code 101 1 102 (.imul) := ⟨by decide +kernel, rfl⟩
set_option maxRecDepth 100000 in
theorem ii_ho_faultOfItem_102 : sm_D prog_1_method_55_code 102 2 104 (.iload 5) := ⟨by decide +kernel, rfl⟩
set_option maxRecDepth 100000 in
theorem ii_ho_faultOfItem_104 : sm_D prog_1_method_55_code 104 1 105 (.iadd) := ⟨by decide +kernel, rfl⟩
set_option maxRecDepth 100000 in
theorem ii_ho_faultOfItem_105 : sm_D prog_1_method_55_code 105 2 107 (.bipush 48) := ⟨by decide +kernel, rfl⟩
set_option maxRecDepth 100000 in
theorem ii_ho_faultOfItem_107 : sm_D prog_1_method_55_code 107 1 108 (.isub) := ⟨by decide +kernel, rfl⟩
set_option maxRecDepth 100000 in
theorem ii_ho_faultOfItem_108 : sm_D prog_1_method_55_code 108 1 109 (.istore_n 2) := ⟨by decide +kernel, rfl⟩
set_option maxRecDepth 100000 in
theorem ii_ho_faultOfItem_109 : sm_D prog_1_method_55_code 109 1 110 (.iload_n 3) := ⟨by decide +kernel, rfl⟩
set_option maxRecDepth 100000 in
theorem ii_ho_faultOfItem_110 : sm_D prog_1_method_55_code 110 1 111 (.iconst 2) := ⟨by decide +kernel, rfl⟩
set_option maxRecDepth 100000 in
theorem ii_ho_faultOfItem_111 : sm_D prog_1_method_55_code 111 3 114 (.if_icmp .ne 13) := ⟨by decide +kernel, rfl⟩
set_option maxRecDepth 100000 in
theorem ii_ho_faultOfItem_114 : sm_D prog_1_method_55_code 114 1 115 (.iload_n 2) := ⟨by decide +kernel, rfl⟩
set_option maxRecDepth 100000 in
theorem ii_ho_faultOfItem_115 : sm_D prog_1_method_55_code 115 2 117 (.bipush 63) := ⟨by decide +kernel, rfl⟩
set_option maxRecDepth 100000 in
theorem ii_ho_faultOfItem_117 : sm_D prog_1_method_55_code 117 3 120 (.if_icmp .le 7) := ⟨by decide +kernel, rfl⟩
set_option maxRecDepth 100000 in
theorem ii_ho_faultOfItem_120 : sm_D prog_1_method_55_code 120 1 121 (.iload_n 1) := ⟨by decide +kernel, rfl⟩
set_option maxRecDepth 100000 in
theorem ii_ho_faultOfItem_121 : sm_D prog_1_method_55_code 121 1 122 (.iconst 1) := ⟨by decide +kernel, rfl⟩
set_option maxRecDepth 100000 in
theorem ii_ho_faultOfItem_122 : sm_D prog_1_method_55_code 122 1 123 (.iadd) := ⟨by decide +kernel, rfl⟩
set_option maxRecDepth 100000 in
theorem ii_ho_faultOfItem_123 : sm_D prog_1_method_55_code 123 1 124 (.ireturn) := ⟨by decide +kernel, rfl⟩
set_option maxRecDepth 100000 in
theorem ii_ho_faultOfItem_124 : sm_D prog_1_method_55_code 124 3 127 (.iinc 3 1) := ⟨by decide +kernel, rfl⟩
set_option maxRecDepth 100000 in
theorem ii_ho_faultOfItem_127 : sm_D prog_1_method_55_code 127 3 130 (.goto (-107)) := ⟨by decide +kernel, rfl⟩
set_option maxRecDepth 100000 in
theorem ii_ho_faultOfItem_130 : sm_D prog_1_method_55_code 130 2 132 (.bipush (-9)) := ⟨by decide +kernel, rfl⟩
set_option maxRecDepth 100000 in
theorem ii_ho_faultOfItem_132 : sm_D prog_1_method_55_code 132 1 133 (.ireturn) := ⟨by decide +kernel, rfl⟩
noncomputable def ff_ho_faultOfItem_79 (self20 : Nat → Int32 → Int32 → Int32 → sm_Mem → sm_R) (a0 : Nat) (a1 : Int32) (a2 : Int32) (a3 : Int32) (a4 : Int32) (a5 : Int32) (a6 : Int32) (b0 : Int32) (w : sm_Mem) : sm_R := (if a5 < a6 then (some (.int a4, w)) else (if a5 ≤ b0 then (if a3 = (2 : Int32) then (if ((((10 : Int32) * a2) + a5) - (48 : Int32)) ≤ (63 : Int32) then self20 (a0) (a1) (((((10 : Int32) * a2) + a5) - (48 : Int32))) ((a3 + (1 : Int32))) w else (some (.int (a1 + (1 : Int32)), w))) else self20 (a0) (a1) (((((10 : Int32) * a2) + a5) - (48 : Int32))) ((a3 + (1 : Int32))) w) else (some (.int a4, w))))
set_option maxHeartbeats 4000000 in
set_option maxRecDepth 100000 in
theorem ss_ho_faultOfItem_79 {E : Nat × (Nat → Int32)} (self20 : Nat → Int32 → Int32 → Int32 → sm_Mem → sm_R) (hself20 : ∀ (a0 : Nat) (a1 : Int32) (a2 : Int32) (a3 : Int32) (w : sm_Mem), sm_Sim E (mi_ho_faultOfItem) 20 [some (.ref a0), some (.int a1), some (.int a2), some (.int a3), none, none, none, none] [] w (self20 a0 a1 a2 a3 w)) (a0 : Nat) (a1 : Int32) (a2 : Int32) (a3 : Int32) (a4 : Int32) (a5 : Int32) (a6 : Int32) (b0 : Int32) (w : sm_Mem) : sm_Sim E (mi_ho_faultOfItem) 79 [some (.ref a0), some (.int a1), some (.int a2), some (.int a3), some (.int a4), some (.int a5), some (.int a6), none] [.int b0] w (ff_ho_faultOfItem_79 self20 a0 a1 a2 a3 a4 a5 a6 b0 w) := by
  unfold ff_ho_faultOfItem_79
  refine sm_istore [some (.ref a0), some (.int a1), some (.int a2), some (.int a3), some (.int a4), some (.int a5), some (.int a6), some (.int b0)] ii_ho_faultOfItem_79 rfl rfl ?_
  refine sm_iload ii_ho_faultOfItem_81 rfl ?_
  refine sm_iload ii_ho_faultOfItem_83 rfl ?_
  refine sm_icmp_lt 95 ii_ho_faultOfItem_85 (by decide) ?_ ?_
  · refine sm_iload ii_ho_faultOfItem_95 rfl ?_
    exact sm_iret ii_ho_faultOfItem_97 rfl
  · refine sm_iload ii_ho_faultOfItem_88 rfl ?_
    refine sm_iload ii_ho_faultOfItem_90 rfl ?_
    refine sm_icmp_le 98 ii_ho_faultOfItem_92 (by decide) ?_ ?_
    · refine sm_bipush (10 : Int32) ii_ho_faultOfItem_98 (by decide) ?_
      refine sm_iload_n ii_ho_faultOfItem_100 rfl ?_
      refine sm_imul ii_ho_faultOfItem_101 ?_
      refine sm_iload ii_ho_faultOfItem_102 rfl ?_
      refine sm_iadd ii_ho_faultOfItem_104 ?_
      refine sm_bipush (48 : Int32) ii_ho_faultOfItem_105 (by decide) ?_
      refine sm_isub ii_ho_faultOfItem_107 ?_
      refine sm_istore_n [some (.ref a0), some (.int a1), some (.int ((((10 : Int32) * a2) + a5) - (48 : Int32))), some (.int a3), some (.int a4), some (.int a5), some (.int a6), some (.int b0)] ii_ho_faultOfItem_108 rfl rfl ?_
      refine sm_iload_n ii_ho_faultOfItem_109 rfl ?_
      refine sm_iconst (2 : Int32) ii_ho_faultOfItem_110 (by decide) ?_
      refine sm_icmp_ne 124 ii_ho_faultOfItem_111 (by decide) ?_ ?_
      · refine sm_iload_n ii_ho_faultOfItem_114 rfl ?_
        refine sm_bipush (63 : Int32) ii_ho_faultOfItem_115 (by decide) ?_
        refine sm_icmp_le 124 ii_ho_faultOfItem_117 (by decide) ?_ ?_
        · refine sm_iinc (a3 + (1 : Int32)) [some (.ref a0), some (.int a1), some (.int ((((10 : Int32) * a2) + a5) - (48 : Int32))), some (.int (a3 + (1 : Int32))), some (.int a4), some (.int a5), some (.int a6), some (.int b0)] ii_ho_faultOfItem_124 rfl rfl rfl rfl ?_
          refine sm_goto 20 ii_ho_faultOfItem_127 (by decide) ?_
          refine sm_msk [true, true, true, true, false, false, false, false] [some (.ref a0), some (.int a1), some (.int ((((10 : Int32) * a2) + a5) - (48 : Int32))), some (.int (a3 + (1 : Int32))), none, none, none, none] rfl ?_
          exact hself20 (a0) (a1) (((((10 : Int32) * a2) + a5) - (48 : Int32))) ((a3 + (1 : Int32))) w
        · refine sm_iload_n ii_ho_faultOfItem_120 rfl ?_
          refine sm_iconst (1 : Int32) ii_ho_faultOfItem_121 (by decide) ?_
          refine sm_iadd ii_ho_faultOfItem_122 ?_
          exact sm_iret ii_ho_faultOfItem_123 rfl
      · refine sm_iinc (a3 + (1 : Int32)) [some (.ref a0), some (.int a1), some (.int ((((10 : Int32) * a2) + a5) - (48 : Int32))), some (.int (a3 + (1 : Int32))), some (.int a4), some (.int a5), some (.int a6), some (.int b0)] ii_ho_faultOfItem_124 rfl rfl rfl rfl ?_
        refine sm_goto 20 ii_ho_faultOfItem_127 (by decide) ?_
        refine sm_msk [true, true, true, true, false, false, false, false] [some (.ref a0), some (.int a1), some (.int ((((10 : Int32) * a2) + a5) - (48 : Int32))), some (.int (a3 + (1 : Int32))), none, none, none, none] rfl ?_
        exact hself20 (a0) (a1) (((((10 : Int32) * a2) + a5) - (48 : Int32))) ((a3 + (1 : Int32))) w
    · refine sm_iload ii_ho_faultOfItem_95 rfl ?_
      exact sm_iret ii_ho_faultOfItem_97 rfl
noncomputable def ff_ho_faultOfItem_65 (self20 : Nat → Int32 → Int32 → Int32 → sm_Mem → sm_R) (a0 : Nat) (a1 : Int32) (a2 : Int32) (a3 : Int32) (a4 : Int32) (a5 : Int32) (b0 : Int32) (w : sm_Mem) : sm_R := (if a3 = (3 : Int32) then ff_ho_faultOfItem_79 self20 (a0) (a1) (a2) (a3) (a4) (a5) (b0) ((53 : Int32)) w else ff_ho_faultOfItem_79 self20 (a0) (a1) (a2) (a3) (a4) (a5) (b0) ((57 : Int32)) w)
set_option maxHeartbeats 4000000 in
set_option maxRecDepth 100000 in
theorem ss_ho_faultOfItem_65 {E : Nat × (Nat → Int32)} (self20 : Nat → Int32 → Int32 → Int32 → sm_Mem → sm_R) (hself20 : ∀ (a0 : Nat) (a1 : Int32) (a2 : Int32) (a3 : Int32) (w : sm_Mem), sm_Sim E (mi_ho_faultOfItem) 20 [some (.ref a0), some (.int a1), some (.int a2), some (.int a3), none, none, none, none] [] w (self20 a0 a1 a2 a3 w)) (a0 : Nat) (a1 : Int32) (a2 : Int32) (a3 : Int32) (a4 : Int32) (a5 : Int32) (b0 : Int32) (w : sm_Mem) : sm_Sim E (mi_ho_faultOfItem) 65 [some (.ref a0), some (.int a1), some (.int a2), some (.int a3), some (.int a4), some (.int a5), none, none] [.int b0] w (ff_ho_faultOfItem_65 self20 a0 a1 a2 a3 a4 a5 b0 w) := by
  unfold ff_ho_faultOfItem_65
  refine sm_istore [some (.ref a0), some (.int a1), some (.int a2), some (.int a3), some (.int a4), some (.int a5), some (.int b0), none] ii_ho_faultOfItem_65 rfl rfl ?_
  refine sm_iload_n ii_ho_faultOfItem_67 rfl ?_
  refine sm_iconst (3 : Int32) ii_ho_faultOfItem_68 (by decide) ?_
  refine sm_icmp_ne 77 ii_ho_faultOfItem_69 (by decide) ?_ ?_
  · refine sm_bipush (53 : Int32) ii_ho_faultOfItem_72 (by decide) ?_
    refine sm_goto 79 ii_ho_faultOfItem_74 (by decide) ?_
    exact ss_ho_faultOfItem_79 self20 hself20 (a0) (a1) (a2) (a3) (a4) (a5) (b0) ((53 : Int32)) w
  · refine sm_bipush (57 : Int32) ii_ho_faultOfItem_77 (by decide) ?_
    exact ss_ho_faultOfItem_79 self20 hself20 (a0) (a1) (a2) (a3) (a4) (a5) (b0) ((57 : Int32)) w
noncomputable def ff_ho_faultOfItem_20_b  (self20 : Nat → Int32 → Int32 → Int32 → sm_Mem → sm_R) (a0 : Nat) (a1 : Int32) (a2 : Int32) (a3 : Int32) (w : sm_Mem) : sm_R := (if (5 : Int32) ≤ a3 then (some (.int (-9 : Int32), w)) else (Option.bind (sm_gI w a0 2 1) fun x1 => (if (a1 + a3) < x1 then (Option.bind (sm_fk a0 2 0 2) fun r2 => (Option.bind (sm_rds w r2 (a1 + a3)) fun x3 => (if a3 = (4 : Int32) then ff_ho_faultOfItem_65 self20 (a0) (a1) (a2) (a3) ((a1 + a3)) (x3) ((49 : Int32)) w else ff_ho_faultOfItem_65 self20 (a0) (a1) (a2) (a3) ((a1 + a3)) (x3) ((48 : Int32)) w))) else (Option.bind (sm_gI w a0 2 1) fun x4 => (some (.int x4, w))))))
noncomputable def ff_ho_faultOfItem_20_f  : Nat → Nat → Int32 → Int32 → Int32 → sm_Mem → sm_R
  | 0, _, _, _, _, _ => none
  | n + 1, a0, a1, a2, a3, w => ff_ho_faultOfItem_20_b  (ff_ho_faultOfItem_20_f  n) a0 a1 a2 a3 w
noncomputable def ff_ho_faultOfItem_20  (a0 : Nat) (a1 : Int32) (a2 : Int32) (a3 : Int32) (w : sm_Mem) : sm_R := ff_ho_faultOfItem_20_f  sm_N a0 a1 a2 a3 w
set_option maxHeartbeats 4000000 in
set_option maxRecDepth 100000 in
theorem ss_ho_faultOfItem_20_b {E : Nat × (Nat → Int32)}  (self20 : Nat → Int32 → Int32 → Int32 → sm_Mem → sm_R) (hself20 : ∀ (a0 : Nat) (a1 : Int32) (a2 : Int32) (a3 : Int32) (w : sm_Mem), sm_Sim E (mi_ho_faultOfItem) 20 [some (.ref a0), some (.int a1), some (.int a2), some (.int a3), none, none, none, none] [] w (self20 a0 a1 a2 a3 w)) (a0 : Nat) (a1 : Int32) (a2 : Int32) (a3 : Int32) (w : sm_Mem) : sm_Sim E (mi_ho_faultOfItem) 20 [some (.ref a0), some (.int a1), some (.int a2), some (.int a3), none, none, none, none] [] w (ff_ho_faultOfItem_20_b  self20 a0 a1 a2 a3 w) := by
  unfold ff_ho_faultOfItem_20_b
  refine sm_iload_n ii_ho_faultOfItem_20 rfl ?_
  refine sm_iconst (5 : Int32) ii_ho_faultOfItem_21 (by decide) ?_
  refine sm_icmp_ge 130 ii_ho_faultOfItem_22 (by decide) ?_ ?_
  · refine sm_bipush (-9 : Int32) ii_ho_faultOfItem_130 (by decide) ?_
    exact sm_iret ii_ho_faultOfItem_132 rfl
  · refine sm_iload_n ii_ho_faultOfItem_25 rfl ?_
    refine sm_iload_n ii_ho_faultOfItem_26 rfl ?_
    refine sm_iadd ii_ho_faultOfItem_27 ?_
    refine sm_istore [some (.ref a0), some (.int a1), some (.int a2), some (.int a3), some (.int (a1 + a3)), none, none, none] ii_ho_faultOfItem_28 rfl rfl ?_
    refine sm_iload ii_ho_faultOfItem_30 rfl ?_
    refine sm_aload_n ii_ho_faultOfItem_32 rfl ?_
    refine sm_getIs ii_ho_faultOfItem_33 fl_ho_78 (fun x1 => ?_)
    refine sm_icmp_lt 44 ii_ho_faultOfItem_36 (by decide) ?_ ?_
    · refine sm_aload_n ii_ho_faultOfItem_44 rfl ?_
      refine sm_getRs ii_ho_faultOfItem_45 fl_ho_66 (fun r2 => ?_)
      refine sm_iload ii_ho_faultOfItem_48 rfl ?_
      refine sm_ialds ii_ho_faultOfItem_50 (fun x3 => ?_)
      refine sm_istore [some (.ref a0), some (.int a1), some (.int a2), some (.int a3), some (.int (a1 + a3)), some (.int x3), none, none] ii_ho_faultOfItem_51 rfl rfl ?_
      refine sm_iload_n ii_ho_faultOfItem_53 rfl ?_
      refine sm_iconst (4 : Int32) ii_ho_faultOfItem_54 (by decide) ?_
      refine sm_icmp_ne 63 ii_ho_faultOfItem_55 (by decide) ?_ ?_
      · refine sm_bipush (49 : Int32) ii_ho_faultOfItem_58 (by decide) ?_
        refine sm_goto 65 ii_ho_faultOfItem_60 (by decide) ?_
        exact ss_ho_faultOfItem_65 self20 hself20 (a0) (a1) (a2) (a3) ((a1 + a3)) (x3) ((49 : Int32)) w
      · refine sm_bipush (48 : Int32) ii_ho_faultOfItem_63 (by decide) ?_
        exact ss_ho_faultOfItem_65 self20 hself20 (a0) (a1) (a2) (a3) ((a1 + a3)) (x3) ((48 : Int32)) w
    · refine sm_aload_n ii_ho_faultOfItem_39 rfl ?_
      refine sm_getIs ii_ho_faultOfItem_40 fl_ho_78 (fun x4 => ?_)
      exact sm_iret ii_ho_faultOfItem_43 rfl
set_option maxHeartbeats 4000000 in
set_option maxRecDepth 100000 in
theorem ss_ho_faultOfItem_20_f {E : Nat × (Nat → Int32)}  : ∀ (n : Nat) (a0 : Nat) (a1 : Int32) (a2 : Int32) (a3 : Int32) (w : sm_Mem), sm_Sim E (mi_ho_faultOfItem) 20 [some (.ref a0), some (.int a1), some (.int a2), some (.int a3), none, none, none, none] [] w (ff_ho_faultOfItem_20_f  n a0 a1 a2 a3 w)
  | 0, _, _, _, _, _ => fun _ _ h => by cases h
  | n + 1, a0, a1, a2, a3, w => ss_ho_faultOfItem_20_b  _ (ss_ho_faultOfItem_20_f  n) a0 a1 a2 a3 w
set_option maxHeartbeats 4000000 in
set_option maxRecDepth 100000 in
theorem ss_ho_faultOfItem_20 {E : Nat × (Nat → Int32)}  (a0 : Nat) (a1 : Int32) (a2 : Int32) (a3 : Int32) (w : sm_Mem) : sm_Sim E (mi_ho_faultOfItem) 20 [some (.ref a0), some (.int a1), some (.int a2), some (.int a3), none, none, none, none] [] w (ff_ho_faultOfItem_20  a0 a1 a2 a3 w) := ss_ho_faultOfItem_20_f  sm_N a0 a1 a2 a3 w
noncomputable def ff_ho_faultOfItem  (a0 : Nat) (a1 : Int32) (w : sm_Mem) : sm_R := (Option.bind (sm_fk a0 2 0 2) fun r5 => (Option.bind (sm_rds w r5 a1) fun x6 => (sm_cI (ff_ho_kindOf (x6) w) fun x7 w8 => (if x7 = (-9 : Int32) then (some (.int a1, w8)) else ff_ho_faultOfItem_20 (a0) (a1) ((0 : Int32)) ((1 : Int32)) w8))))
set_option maxHeartbeats 4000000 in
set_option maxRecDepth 100000 in
theorem ss_ho_faultOfItem_0 {E : Nat × (Nat → Int32)}  (a0 : Nat) (a1 : Int32) (w : sm_Mem) : sm_Sim E (mi_ho_faultOfItem) 0 [some (.ref a0), some (.int a1), none, none, none, none, none, none] [] w (ff_ho_faultOfItem  a0 a1 w) := by
  unfold ff_ho_faultOfItem
  refine sm_aload_n ii_ho_faultOfItem_0 rfl ?_
  refine sm_getRs ii_ho_faultOfItem_1 fl_ho_66 (fun r5 => ?_)
  refine sm_iload_n ii_ho_faultOfItem_4 rfl ?_
  refine sm_ialds ii_ho_faultOfItem_5 (fun x6 => ?_)
  refine sm_csI [.int x6] [] rfl ii_ho_faultOfItem_6 ml_ho_342 (mf_ho_kindOf) (mv_ho_kindOf) (Nat.le_of_ble_eq_true rfl) rfl rfl rfl (mc_ho_kindOf (x6) w) (fun x7 w8 => ?_)
  refine sm_bipush (-9 : Int32) ii_ho_faultOfItem_9 (by decide) ?_
  refine sm_icmp_ne 16 ii_ho_faultOfItem_11 (by decide) ?_ ?_
  · refine sm_iload_n ii_ho_faultOfItem_14 rfl ?_
    exact sm_iret ii_ho_faultOfItem_15 rfl
  · refine sm_iconst (0 : Int32) ii_ho_faultOfItem_16 (by decide) ?_
    refine sm_istore_n [some (.ref a0), some (.int a1), some (.int (0 : Int32)), none, none, none, none, none] ii_ho_faultOfItem_17 rfl rfl ?_
    refine sm_iconst (1 : Int32) ii_ho_faultOfItem_18 (by decide) ?_
    refine sm_istore_n [some (.ref a0), some (.int a1), some (.int (0 : Int32)), some (.int (1 : Int32)), none, none, none, none] ii_ho_faultOfItem_19 rfl rfl ?_
    exact ss_ho_faultOfItem_20 (a0) (a1) ((0 : Int32)) ((1 : Int32)) w8
set_option maxHeartbeats 4000000 in
set_option maxRecDepth 100000 in
theorem mc_ho_faultOfItem (a0 : Nat) (a1 : Int32) (w : sm_Mem) : sm_MC mi_ho_faultOfItem [.ref a0, .int a1] w (ff_ho_faultOfItem a0 a1 w) := sm_MC_of (0, fun _ => 0) (by decide +kernel) (by decide) rfl (Nat.le_of_ble_eq_true rfl) (ss_ho_faultOfItem_0 a0 a1 w)
abbrev mi_ho_faultOf : sm_MI := (⟨"HerOrders", "faultOf", "(LHerOrders$Row;)I"⟩, prog_1_method_54_code, 4, (some .int), 3)
set_option maxRecDepth 100000 in
theorem mf_ho_faultOf : sm_MF mi_ho_faultOf 1 := ⟨List.mem_of_getElem? (i := 464) (by decide +kernel), List.mem_of_getElem? (i := 124) (by decide +kernel), ⟨by decide, by decide⟩, by decide +kernel⟩
set_option maxRecDepth 100000 in
theorem mv_ho_faultOf : sm_MFS mi_ho_faultOf := List.mem_of_getElem? (i := 463) (by decide +kernel)
set_option maxRecDepth 100000 in
theorem ii_ho_faultOf_0 : sm_D prog_1_method_54_code 0 1 1 (.iconst 0) := ⟨by decide +kernel, rfl⟩
set_option maxRecDepth 100000 in
theorem ii_ho_faultOf_1 : sm_D prog_1_method_54_code 1 1 2 (.istore_n 1) := ⟨by decide +kernel, rfl⟩
set_option maxRecDepth 100000 in
theorem ii_ho_faultOf_2 : sm_D prog_1_method_54_code 2 1 3 (.iconst 0) := ⟨by decide +kernel, rfl⟩
set_option maxRecDepth 100000 in
theorem ii_ho_faultOf_3 : sm_D prog_1_method_54_code 3 1 4 (.istore_n 2) := ⟨by decide +kernel, rfl⟩
set_option maxRecDepth 100000 in
theorem ii_ho_faultOf_4 : sm_D prog_1_method_54_code 4 1 5 (.iload_n 2) := ⟨by decide +kernel, rfl⟩
set_option maxRecDepth 100000 in
theorem ii_ho_faultOf_5 : sm_D prog_1_method_54_code 5 1 6 (.aload_n 0) := ⟨by decide +kernel, rfl⟩
set_option maxRecDepth 100000 in
theorem ii_ho_faultOf_6 : sm_D prog_1_method_54_code 6 3 9 (.getfield 78) := ⟨by decide +kernel, rfl⟩
set_option maxRecDepth 100000 in
theorem ii_ho_faultOf_9 : sm_D prog_1_method_54_code 9 3 12 (.if_icmp .ge 51) := ⟨by decide +kernel, rfl⟩
set_option maxRecDepth 100000 in
theorem ii_ho_faultOf_12 : sm_D prog_1_method_54_code 12 1 13 (.aload_n 0) := ⟨by decide +kernel, rfl⟩
set_option maxRecDepth 100000 in
theorem ii_ho_faultOf_13 : sm_D prog_1_method_54_code 13 3 16 (.getfield 66) := ⟨by decide +kernel, rfl⟩
set_option maxRecDepth 100000 in
theorem ii_ho_faultOf_16 : sm_D prog_1_method_54_code 16 1 17 (.iload_n 2) := ⟨by decide +kernel, rfl⟩
set_option maxRecDepth 100000 in
theorem ii_ho_faultOf_17 : sm_D prog_1_method_54_code 17 1 18 (.iaload) := ⟨by decide +kernel, rfl⟩
set_option maxRecDepth 100000 in
theorem ii_ho_faultOf_18 : sm_D prog_1_method_54_code 18 2 20 (.bipush 32) := ⟨by decide +kernel, rfl⟩
set_option maxRecDepth 100000 in
theorem ii_ho_faultOf_20 : sm_D prog_1_method_54_code 20 3 23 (.if_icmp .ne 6) := ⟨by decide +kernel, rfl⟩
set_option maxRecDepth 100000 in
theorem ii_ho_faultOf_23 : sm_D prog_1_method_54_code 23 3 26 (.goto 31) := ⟨by decide +kernel, rfl⟩
set_option maxRecDepth 100000 in
theorem ii_ho_faultOf_26 : sm_D prog_1_method_54_code 26 1 27 (.iload_n 1) := ⟨by decide +kernel, rfl⟩
set_option maxRecDepth 100000 in
theorem ii_ho_faultOf_27 : sm_D prog_1_method_54_code 27 2 29 (.bipush 6) := ⟨by decide +kernel, rfl⟩
set_option maxRecDepth 100000 in
theorem ii_ho_faultOf_29 : sm_D prog_1_method_54_code 29 3 32 (.if_icmp .ne 5) := ⟨by decide +kernel, rfl⟩
set_option maxRecDepth 100000 in
theorem ii_ho_faultOf_32 : sm_D prog_1_method_54_code 32 1 33 (.iload_n 2) := ⟨by decide +kernel, rfl⟩
set_option maxRecDepth 100000 in
theorem ii_ho_faultOf_33 : sm_D prog_1_method_54_code 33 1 34 (.ireturn) := ⟨by decide +kernel, rfl⟩
set_option maxRecDepth 100000 in
theorem ii_ho_faultOf_34 : sm_D prog_1_method_54_code 34 1 35 (.aload_n 0) := ⟨by decide +kernel, rfl⟩
set_option maxRecDepth 100000 in
theorem ii_ho_faultOf_35 : sm_D prog_1_method_54_code 35 1 36 (.iload_n 2) := ⟨by decide +kernel, rfl⟩
set_option maxRecDepth 100000 in
theorem ii_ho_faultOf_36 : sm_D prog_1_method_54_code 36 3 39 (.invokestatic 338) := ⟨by decide +kernel, rfl⟩
set_option maxRecDepth 100000 in
theorem ii_ho_faultOf_39 : sm_D prog_1_method_54_code 39 1 40 (.istore_n 3) := ⟨by decide +kernel, rfl⟩
set_option maxRecDepth 100000 in
theorem ii_ho_faultOf_40 : sm_D prog_1_method_54_code 40 1 41 (.iload_n 3) := ⟨by decide +kernel, rfl⟩
set_option maxRecDepth 100000 in
theorem ii_ho_faultOf_41 : sm_D prog_1_method_54_code 41 2 43 (.bipush (-9)) := ⟨by decide +kernel, rfl⟩
set_option maxRecDepth 100000 in
theorem ii_ho_faultOf_43 : sm_D prog_1_method_54_code 43 3 46 (.if_icmp .eq 5) := ⟨by decide +kernel, rfl⟩
set_option maxRecDepth 100000 in
theorem ii_ho_faultOf_46 : sm_D prog_1_method_54_code 46 1 47 (.iload_n 3) := ⟨by decide +kernel, rfl⟩
set_option maxRecDepth 100000 in
theorem ii_ho_faultOf_47 : sm_D prog_1_method_54_code 47 1 48 (.ireturn) := ⟨by decide +kernel, rfl⟩
set_option maxRecDepth 100000 in
theorem ii_ho_faultOf_48 : sm_D prog_1_method_54_code 48 3 51 (.iinc 1 1) := ⟨by decide +kernel, rfl⟩
set_option maxRecDepth 100000 in
theorem ii_ho_faultOf_51 : sm_D prog_1_method_54_code 51 3 54 (.iinc 2 4) := ⟨by decide +kernel, rfl⟩
set_option maxRecDepth 100000 in
theorem ii_ho_faultOf_54 : sm_D prog_1_method_54_code 54 3 57 (.iinc 2 1) := ⟨by decide +kernel, rfl⟩
set_option maxRecDepth 100000 in
theorem ii_ho_faultOf_57 : sm_D prog_1_method_54_code 57 3 60 (.goto (-53)) := ⟨by decide +kernel, rfl⟩
set_option maxRecDepth 100000 in
theorem ii_ho_faultOf_60 : sm_D prog_1_method_54_code 60 1 61 (.iload_n 1) := ⟨by decide +kernel, rfl⟩
set_option maxRecDepth 100000 in
theorem ii_ho_faultOf_61 : sm_D prog_1_method_54_code 61 3 64 (.ifCond .ne 10) := ⟨by decide +kernel, rfl⟩
set_option maxRecDepth 100000 in
theorem ii_ho_faultOf_64 : sm_D prog_1_method_54_code 64 1 65 (.aload_n 0) := ⟨by decide +kernel, rfl⟩
set_option maxRecDepth 100000 in
theorem ii_ho_faultOf_65 : sm_D prog_1_method_54_code 65 3 68 (.getfield 78) := ⟨by decide +kernel, rfl⟩
set_option maxRecDepth 100000 in
theorem ii_ho_faultOf_68 : sm_D prog_1_method_54_code 68 3 71 (.goto 5) := ⟨by decide +kernel, rfl⟩
set_option maxRecDepth 100000 in
theorem ii_ho_faultOf_71 : sm_D prog_1_method_54_code 71 2 73 (.bipush (-9)) := ⟨by decide +kernel, rfl⟩
set_option maxRecDepth 100000 in
theorem ii_ho_faultOf_73 : sm_D prog_1_method_54_code 73 1 74 (.ireturn) := ⟨by decide +kernel, rfl⟩
noncomputable def ff_ho_faultOf_4_b  (self4 : Nat → Int32 → Int32 → sm_Mem → sm_R) (a0 : Nat) (a1 : Int32) (a2 : Int32) (w : sm_Mem) : sm_R := (Option.bind (sm_gI w a0 2 1) fun x1 => (if x1 ≤ a2 then (if a1 = (0 : Int32) then (Option.bind (sm_gI w a0 2 1) fun x2 => (some (.int x2, w))) else (some (.int (-9 : Int32), w))) else (Option.bind (sm_fk a0 2 0 2) fun r3 => (Option.bind (sm_rds w r3 a2) fun x4 => (if x4 = (32 : Int32) then self4 (a0) (a1) ((a2 + (1 : Int32))) w else (if a1 = (6 : Int32) then (some (.int a2, w)) else (sm_cI (ff_ho_faultOfItem (a0) (a2) w) fun x5 w6 => (if x5 = (-9 : Int32) then self4 (a0) ((a1 + (1 : Int32))) (((a2 + (4 : Int32)) + (1 : Int32))) w6 else (some (.int x5, w6))))))))))
noncomputable def ff_ho_faultOf_4_f  : Nat → Nat → Int32 → Int32 → sm_Mem → sm_R
  | 0, _, _, _, _ => none
  | n + 1, a0, a1, a2, w => ff_ho_faultOf_4_b  (ff_ho_faultOf_4_f  n) a0 a1 a2 w
noncomputable def ff_ho_faultOf_4  (a0 : Nat) (a1 : Int32) (a2 : Int32) (w : sm_Mem) : sm_R := ff_ho_faultOf_4_f  sm_N a0 a1 a2 w
set_option maxHeartbeats 4000000 in
set_option maxRecDepth 100000 in
theorem ss_ho_faultOf_4_b {E : Nat × (Nat → Int32)}  (self4 : Nat → Int32 → Int32 → sm_Mem → sm_R) (hself4 : ∀ (a0 : Nat) (a1 : Int32) (a2 : Int32) (w : sm_Mem), sm_Sim E (mi_ho_faultOf) 4 [some (.ref a0), some (.int a1), some (.int a2), none] [] w (self4 a0 a1 a2 w)) (a0 : Nat) (a1 : Int32) (a2 : Int32) (w : sm_Mem) : sm_Sim E (mi_ho_faultOf) 4 [some (.ref a0), some (.int a1), some (.int a2), none] [] w (ff_ho_faultOf_4_b  self4 a0 a1 a2 w) := by
  unfold ff_ho_faultOf_4_b
  refine sm_iload_n ii_ho_faultOf_4 rfl ?_
  refine sm_aload_n ii_ho_faultOf_5 rfl ?_
  refine sm_getIs ii_ho_faultOf_6 fl_ho_78 (fun x1 => ?_)
  refine sm_icmp_ge 60 ii_ho_faultOf_9 (by decide) ?_ ?_
  · refine sm_iload_n ii_ho_faultOf_60 rfl ?_
    refine sm_if_ne 71 ii_ho_faultOf_61 (by decide) ?_ ?_
    · refine sm_aload_n ii_ho_faultOf_64 rfl ?_
      refine sm_getIs ii_ho_faultOf_65 fl_ho_78 (fun x2 => ?_)
      refine sm_goto 73 ii_ho_faultOf_68 (by decide) ?_
      exact sm_iret ii_ho_faultOf_73 rfl
    · refine sm_bipush (-9 : Int32) ii_ho_faultOf_71 (by decide) ?_
      exact sm_iret ii_ho_faultOf_73 rfl
  · refine sm_aload_n ii_ho_faultOf_12 rfl ?_
    refine sm_getRs ii_ho_faultOf_13 fl_ho_66 (fun r3 => ?_)
    refine sm_iload_n ii_ho_faultOf_16 rfl ?_
    refine sm_ialds ii_ho_faultOf_17 (fun x4 => ?_)
    refine sm_bipush (32 : Int32) ii_ho_faultOf_18 (by decide) ?_
    refine sm_icmp_ne 26 ii_ho_faultOf_20 (by decide) ?_ ?_
    · refine sm_goto 54 ii_ho_faultOf_23 (by decide) ?_
      refine sm_iinc (a2 + (1 : Int32)) [some (.ref a0), some (.int a1), some (.int (a2 + (1 : Int32))), none] ii_ho_faultOf_54 rfl rfl rfl rfl ?_
      refine sm_goto 4 ii_ho_faultOf_57 (by decide) ?_
      exact hself4 (a0) (a1) ((a2 + (1 : Int32))) w
    · refine sm_iload_n ii_ho_faultOf_26 rfl ?_
      refine sm_bipush (6 : Int32) ii_ho_faultOf_27 (by decide) ?_
      refine sm_icmp_ne 34 ii_ho_faultOf_29 (by decide) ?_ ?_
      · refine sm_iload_n ii_ho_faultOf_32 rfl ?_
        exact sm_iret ii_ho_faultOf_33 rfl
      · refine sm_aload_n ii_ho_faultOf_34 rfl ?_
        refine sm_iload_n ii_ho_faultOf_35 rfl ?_
        refine sm_csI [.ref a0, .int a2] [] rfl ii_ho_faultOf_36 ml_ho_338 (mf_ho_faultOfItem) (mv_ho_faultOfItem) (Nat.le_of_ble_eq_true rfl) rfl rfl rfl (mc_ho_faultOfItem (a0) (a2) w) (fun x5 w6 => ?_)
        refine sm_istore_n [some (.ref a0), some (.int a1), some (.int a2), some (.int x5)] ii_ho_faultOf_39 rfl rfl ?_
        refine sm_iload_n ii_ho_faultOf_40 rfl ?_
        refine sm_bipush (-9 : Int32) ii_ho_faultOf_41 (by decide) ?_
        refine sm_icmp_eq 48 ii_ho_faultOf_43 (by decide) ?_ ?_
        · refine sm_iinc (a1 + (1 : Int32)) [some (.ref a0), some (.int (a1 + (1 : Int32))), some (.int a2), some (.int x5)] ii_ho_faultOf_48 rfl rfl rfl rfl ?_
          refine sm_iinc (a2 + (4 : Int32)) [some (.ref a0), some (.int (a1 + (1 : Int32))), some (.int (a2 + (4 : Int32))), some (.int x5)] ii_ho_faultOf_51 rfl rfl rfl rfl ?_
          refine sm_iinc ((a2 + (4 : Int32)) + (1 : Int32)) [some (.ref a0), some (.int (a1 + (1 : Int32))), some (.int ((a2 + (4 : Int32)) + (1 : Int32))), some (.int x5)] ii_ho_faultOf_54 rfl rfl rfl rfl ?_
          refine sm_goto 4 ii_ho_faultOf_57 (by decide) ?_
          refine sm_msk [true, true, true, false] [some (.ref a0), some (.int (a1 + (1 : Int32))), some (.int ((a2 + (4 : Int32)) + (1 : Int32))), none] rfl ?_
          exact hself4 (a0) ((a1 + (1 : Int32))) (((a2 + (4 : Int32)) + (1 : Int32))) w6
        · refine sm_iload_n ii_ho_faultOf_46 rfl ?_
          exact sm_iret ii_ho_faultOf_47 rfl
set_option maxHeartbeats 4000000 in
set_option maxRecDepth 100000 in
theorem ss_ho_faultOf_4_f {E : Nat × (Nat → Int32)}  : ∀ (n : Nat) (a0 : Nat) (a1 : Int32) (a2 : Int32) (w : sm_Mem), sm_Sim E (mi_ho_faultOf) 4 [some (.ref a0), some (.int a1), some (.int a2), none] [] w (ff_ho_faultOf_4_f  n a0 a1 a2 w)
  | 0, _, _, _, _ => fun _ _ h => by cases h
  | n + 1, a0, a1, a2, w => ss_ho_faultOf_4_b  _ (ss_ho_faultOf_4_f  n) a0 a1 a2 w
set_option maxHeartbeats 4000000 in
set_option maxRecDepth 100000 in
theorem ss_ho_faultOf_4 {E : Nat × (Nat → Int32)}  (a0 : Nat) (a1 : Int32) (a2 : Int32) (w : sm_Mem) : sm_Sim E (mi_ho_faultOf) 4 [some (.ref a0), some (.int a1), some (.int a2), none] [] w (ff_ho_faultOf_4  a0 a1 a2 w) := ss_ho_faultOf_4_f  sm_N a0 a1 a2 w
noncomputable def ff_ho_faultOf  (a0 : Nat) (w : sm_Mem) : sm_R := ff_ho_faultOf_4 (a0) ((0 : Int32)) ((0 : Int32)) w
set_option maxHeartbeats 4000000 in
set_option maxRecDepth 100000 in
theorem ss_ho_faultOf_0 {E : Nat × (Nat → Int32)}  (a0 : Nat) (w : sm_Mem) : sm_Sim E (mi_ho_faultOf) 0 [some (.ref a0), none, none, none] [] w (ff_ho_faultOf  a0 w) := by
  unfold ff_ho_faultOf
  refine sm_iconst (0 : Int32) ii_ho_faultOf_0 (by decide) ?_
  refine sm_istore_n [some (.ref a0), some (.int (0 : Int32)), none, none] ii_ho_faultOf_1 rfl rfl ?_
  refine sm_iconst (0 : Int32) ii_ho_faultOf_2 (by decide) ?_
  refine sm_istore_n [some (.ref a0), some (.int (0 : Int32)), some (.int (0 : Int32)), none] ii_ho_faultOf_3 rfl rfl ?_
  exact ss_ho_faultOf_4 (a0) ((0 : Int32)) ((0 : Int32)) w
set_option maxHeartbeats 4000000 in
set_option maxRecDepth 100000 in
theorem mc_ho_faultOf (a0 : Nat) (w : sm_Mem) : sm_MC mi_ho_faultOf [.ref a0] w (ff_ho_faultOf a0 w) := sm_MC_of (0, fun _ => 0) (by decide +kernel) (by decide) rfl (Nat.le_of_ble_eq_true rfl) (ss_ho_faultOf_0 a0 w)
abbrev mi_ho_fault : sm_MI := (⟨"HerOrders", "fault", "(I)I"⟩, prog_1_method_10_code, 3, (some .int), 4)
set_option maxRecDepth 100000 in
theorem mf_ho_fault : sm_MF mi_ho_fault 1 := ⟨List.mem_of_getElem? (i := 461) (by decide +kernel), List.mem_of_getElem? (i := 124) (by decide +kernel), ⟨by decide, by decide⟩, by decide +kernel⟩
set_option maxRecDepth 100000 in
theorem mv_ho_fault : sm_MFV mi_ho_fault := ⟨List.mem_of_getElem? (i := 459) (by decide +kernel), List.mem_of_getElem? (i := 460) (by decide +kernel)⟩
set_option maxRecDepth 100000 in
theorem ii_ho_fault_0 : sm_D prog_1_method_10_code 0 1 1 (.aload_n 0) := ⟨by decide +kernel, rfl⟩
set_option maxRecDepth 100000 in
theorem ii_ho_fault_1 : sm_D prog_1_method_10_code 1 1 2 (.aload_n 0) := ⟨by decide +kernel, rfl⟩
set_option maxRecDepth 100000 in
theorem ii_ho_fault_2 : sm_D prog_1_method_10_code 2 3 5 (.getfield 18) := ⟨by decide +kernel, rfl⟩
set_option maxRecDepth 100000 in
theorem ii_ho_fault_5 : sm_D prog_1_method_10_code 5 1 6 (.iload_n 1) := ⟨by decide +kernel, rfl⟩
set_option maxRecDepth 100000 in
theorem ii_ho_fault_6 : sm_D prog_1_method_10_code 6 3 9 (.invokevirtual 74) := ⟨by decide +kernel, rfl⟩
set_option maxRecDepth 100000 in
theorem ii_ho_fault_9 : sm_D prog_1_method_10_code 9 1 10 (.istore_n 2) := ⟨by decide +kernel, rfl⟩
set_option maxRecDepth 100000 in
theorem ii_ho_fault_10 : sm_D prog_1_method_10_code 10 1 11 (.iload_n 2) := ⟨by decide +kernel, rfl⟩
set_option maxRecDepth 100000 in
theorem ii_ho_fault_11 : sm_D prog_1_method_10_code 11 3 14 (.ifCond .eq 5) := ⟨by decide +kernel, rfl⟩
set_option maxRecDepth 100000 in
theorem ii_ho_fault_14 : sm_D prog_1_method_10_code 14 1 15 (.iload_n 2) := ⟨by decide +kernel, rfl⟩
set_option maxRecDepth 100000 in
theorem ii_ho_fault_15 : sm_D prog_1_method_10_code 15 1 16 (.ireturn) := ⟨by decide +kernel, rfl⟩
set_option maxRecDepth 100000 in
theorem ii_ho_fault_16 : sm_D prog_1_method_10_code 16 1 17 (.aload_n 0) := ⟨by decide +kernel, rfl⟩
set_option maxRecDepth 100000 in
theorem ii_ho_fault_17 : sm_D prog_1_method_10_code 17 3 20 (.getfield 18) := ⟨by decide +kernel, rfl⟩
set_option maxRecDepth 100000 in
theorem ii_ho_fault_20 : sm_D prog_1_method_10_code 20 1 21 (.iload_n 1) := ⟨by decide +kernel, rfl⟩
set_option maxRecDepth 100000 in
theorem ii_ho_fault_21 : sm_D prog_1_method_10_code 21 1 22 (.aaload) := ⟨by decide +kernel, rfl⟩
set_option maxRecDepth 100000 in
theorem ii_ho_fault_22 : sm_D prog_1_method_10_code 22 3 25 (.invokestatic 106) := ⟨by decide +kernel, rfl⟩
set_option maxRecDepth 100000 in
theorem ii_ho_fault_25 : sm_D prog_1_method_10_code 25 1 26 (.ireturn) := ⟨by decide +kernel, rfl⟩
noncomputable def ff_ho_fault  (a1 : Int32) (w : sm_Mem) : sm_R := (sm_cI (ff_ho_refusalOfMissing (14) (a1) w) fun x1 w2 => (if x1 = (0 : Int32) then (Option.bind (sm_rr 14 a1) fun r3 => (sm_cI (ff_ho_faultOf (r3) w2) fun x4 w5 => (some (.int x4, w5)))) else (some (.int x1, w2))))
set_option maxHeartbeats 4000000 in
set_option maxRecDepth 100000 in
theorem ss_ho_fault_0 {E : Nat × (Nat → Int32)}  (a1 : Int32) (w : sm_Mem) : sm_Sim E (mi_ho_fault) 0 [some (.ref 0), some (.int a1), none] [] w (ff_ho_fault  a1 w) := by
  unfold ff_ho_fault
  refine sm_aload_n ii_ho_fault_0 rfl ?_
  refine sm_aload_n ii_ho_fault_1 rfl ?_
  refine sm_getR 14 ii_ho_fault_2 fl_ho_18 (k := 0) rfl ?_
  refine sm_iload_n ii_ho_fault_5 rfl ?_
  refine sm_cvI [.ref 14, .int a1] [] rfl ii_ho_fault_6 ml_ho_74 (mf_ho_refusalOfMissing) (mv_ho_refusalOfMissing) (Nat.le_of_ble_eq_true rfl) rfl 6 rfl rfl rfl rfl (mc_ho_refusalOfMissing (14) (a1) w) (fun x1 w2 => ?_)
  refine sm_istore_n [some (.ref 0), some (.int a1), some (.int x1)] ii_ho_fault_9 rfl rfl ?_
  refine sm_iload_n ii_ho_fault_10 rfl ?_
  refine sm_if_eq 16 ii_ho_fault_11 (by decide) ?_ ?_
  · refine sm_aload_n ii_ho_fault_16 rfl ?_
    refine sm_getR 14 ii_ho_fault_17 fl_ho_18 (k := 0) rfl ?_
    refine sm_iload_n ii_ho_fault_20 rfl ?_
    refine sm_aald ii_ho_fault_21 (fun r3 => ?_)
    refine sm_csI [.ref r3] [] rfl ii_ho_fault_22 ml_ho_106 (mf_ho_faultOf) (mv_ho_faultOf) (Nat.le_of_ble_eq_true rfl) rfl rfl rfl (mc_ho_faultOf (r3) w2) (fun x4 w5 => ?_)
    exact sm_iret ii_ho_fault_25 rfl
  · refine sm_iload_n ii_ho_fault_14 rfl ?_
    exact sm_iret ii_ho_fault_15 rfl
set_option maxHeartbeats 4000000 in
set_option maxRecDepth 100000 in
theorem mc_ho_fault (a1 : Int32) (w : sm_Mem) : sm_MC mi_ho_fault [.ref 0, .int a1] w (ff_ho_fault a1 w) := sm_MC_of (0, fun _ => 0) (by decide +kernel) (by decide) rfl (Nat.le_of_ble_eq_true rfl) (ss_ho_fault_0 a1 w)
abbrev mi_mo_here : sm_MI := (⟨"HerOrdersModel", "here", "()I"⟩, prog_9_method_20_code, 1, (some .int), 1)
set_option maxRecDepth 100000 in
theorem mf_mo_here : sm_MF mi_mo_here 0 := ⟨List.mem_of_getElem? (i := 1111) (by decide +kernel), List.mem_of_getElem? (i := 132) (by decide +kernel), ⟨by decide, by decide⟩, by decide +kernel⟩
set_option maxRecDepth 100000 in
theorem mv_mo_here : sm_MFV mi_mo_here := ⟨List.mem_of_getElem? (i := 1110) (by decide +kernel), List.mem_of_getElem? (i := 80) (by decide +kernel)⟩
set_option maxRecDepth 100000 in
theorem ii_mo_here_0 : sm_D prog_9_method_20_code 0 1 1 (.aload_n 0) := ⟨by decide +kernel, rfl⟩
set_option maxRecDepth 100000 in
theorem ii_mo_here_1 : sm_D prog_9_method_20_code 1 3 4 (.getfield 31) := ⟨by decide +kernel, rfl⟩
set_option maxRecDepth 100000 in
theorem ii_mo_here_4 : sm_D prog_9_method_20_code 4 1 5 (.aload_n 0) := ⟨by decide +kernel, rfl⟩
set_option maxRecDepth 100000 in
theorem ii_mo_here_5 : sm_D prog_9_method_20_code 5 3 8 (.getfield 103) := ⟨by decide +kernel, rfl⟩
set_option maxRecDepth 100000 in
theorem ii_mo_here_8 : sm_D prog_9_method_20_code 8 1 9 (.aload_n 0) := ⟨by decide +kernel, rfl⟩
set_option maxRecDepth 100000 in
theorem ii_mo_here_9 : sm_D prog_9_method_20_code 9 3 12 (.getfield 106) := ⟨by decide +kernel, rfl⟩
set_option maxRecDepth 100000 in
theorem ii_mo_here_12 : sm_D prog_9_method_20_code 12 1 13 (.iadd) := ⟨by decide +kernel, rfl⟩
set_option maxRecDepth 100000 in
theorem ii_mo_here_13 : sm_D prog_9_method_20_code 13 1 14 (.iaload) := ⟨by decide +kernel, rfl⟩
set_option maxRecDepth 100000 in
theorem ii_mo_here_14 : sm_D prog_9_method_20_code 14 1 15 (.ireturn) := ⟨by decide +kernel, rfl⟩
noncomputable def ff_mo_here   (w : sm_Mem) : sm_R := (Option.bind (sm_rd w 70 240 ((w.1 62 14) + (w.1 62 15))) fun x1 => (some (.int x1, w)))
set_option maxHeartbeats 4000000 in
set_option maxRecDepth 100000 in
theorem ss_mo_here_0 {E : Nat × (Nat → Int32)}   (w : sm_Mem) : sm_Sim E (mi_mo_here) 0 [some (.ref 62)] [] w (ff_mo_here   w) := by
  unfold ff_mo_here
  refine sm_aload_n ii_mo_here_0 rfl ?_
  refine sm_getR 70 ii_mo_here_1 fl_mo_31 (k := 62) rfl ?_
  refine sm_aload_n ii_mo_here_4 rfl ?_
  refine sm_getI ii_mo_here_5 fl_mo_103 (k := 62) rfl ?_
  refine sm_aload_n ii_mo_here_8 rfl ?_
  refine sm_getI ii_mo_here_9 fl_mo_106 (k := 62) rfl ?_
  refine sm_iadd ii_mo_here_12 ?_
  refine sm_iald ii_mo_here_13 (k := 70) rfl (fun x1 => ?_)
  exact sm_iret ii_mo_here_14 rfl
set_option maxHeartbeats 4000000 in
set_option maxRecDepth 100000 in
theorem mc_mo_here  (w : sm_Mem) : sm_MC mi_mo_here [.ref 62] w (ff_mo_here  w) := sm_MC_of (0, fun _ => 0) (by decide +kernel) (by decide) rfl (Nat.le_of_ble_eq_true rfl) (ss_mo_here_0  w)
abbrev mi_mo_skip : sm_MI := (⟨"HerOrdersModel", "skip", "()V"⟩, prog_9_method_21_code, 1, none, 2)
set_option maxRecDepth 100000 in
theorem mf_mo_skip : sm_MF mi_mo_skip 0 := ⟨List.mem_of_getElem? (i := 1107) (by decide +kernel), List.mem_of_getElem? (i := 132) (by decide +kernel), ⟨by decide, by decide⟩, by decide +kernel⟩
set_option maxRecDepth 100000 in
theorem mv_mo_skip : sm_MFV mi_mo_skip := ⟨List.mem_of_getElem? (i := 1106) (by decide +kernel), List.mem_of_getElem? (i := 79) (by decide +kernel)⟩
set_option maxRecDepth 100000 in
theorem ii_mo_skip_0 : sm_D prog_9_method_21_code 0 1 1 (.aload_n 0) := ⟨by decide +kernel, rfl⟩
set_option maxRecDepth 100000 in
theorem ii_mo_skip_1 : sm_D prog_9_method_21_code 1 3 4 (.getfield 106) := ⟨by decide +kernel, rfl⟩
set_option maxRecDepth 100000 in
theorem ii_mo_skip_4 : sm_D prog_9_method_21_code 4 1 5 (.aload_n 0) := ⟨by decide +kernel, rfl⟩
set_option maxRecDepth 100000 in
theorem ii_mo_skip_5 : sm_D prog_9_method_21_code 5 3 8 (.getfield 109) := ⟨by decide +kernel, rfl⟩
set_option maxRecDepth 100000 in
theorem ii_mo_skip_8 : sm_D prog_9_method_21_code 8 3 11 (.if_icmp .ge 25) := ⟨by decide +kernel, rfl⟩
set_option maxRecDepth 100000 in
theorem ii_mo_skip_11 : sm_D prog_9_method_21_code 11 1 12 (.aload_n 0) := ⟨by decide +kernel, rfl⟩
set_option maxRecDepth 100000 in
theorem ii_mo_skip_12 : sm_D prog_9_method_21_code 12 3 15 (.invokevirtual 112) := ⟨by decide +kernel, rfl⟩
set_option maxRecDepth 100000 in
theorem ii_mo_skip_15 : sm_D prog_9_method_21_code 15 2 17 (.bipush 32) := ⟨by decide +kernel, rfl⟩
set_option maxRecDepth 100000 in
theorem ii_mo_skip_17 : sm_D prog_9_method_21_code 17 3 20 (.if_icmp .ne 16) := ⟨by decide +kernel, rfl⟩
set_option maxRecDepth 100000 in
theorem ii_mo_skip_20 : sm_D prog_9_method_21_code 20 1 21 (.aload_n 0) := ⟨by decide +kernel, rfl⟩
set_option maxRecDepth 100000 in
theorem ii_mo_skip_21 : sm_D prog_9_method_21_code 21 1 22 (.dup) := ⟨by decide +kernel, rfl⟩
set_option maxRecDepth 100000 in
theorem ii_mo_skip_22 : sm_D prog_9_method_21_code 22 3 25 (.getfield 106) := ⟨by decide +kernel, rfl⟩
set_option maxRecDepth 100000 in
theorem ii_mo_skip_25 : sm_D prog_9_method_21_code 25 1 26 (.iconst 1) := ⟨by decide +kernel, rfl⟩
set_option maxRecDepth 100000 in
theorem ii_mo_skip_26 : sm_D prog_9_method_21_code 26 1 27 (.iadd) := ⟨by decide +kernel, rfl⟩
set_option maxRecDepth 100000 in
theorem ii_mo_skip_27 : sm_D prog_9_method_21_code 27 3 30 (.putfield 106) := ⟨by decide +kernel, rfl⟩
set_option maxRecDepth 100000 in
theorem ii_mo_skip_30 : sm_D prog_9_method_21_code 30 3 33 (.goto (-30)) := ⟨by decide +kernel, rfl⟩
set_option maxRecDepth 100000 in
theorem ii_mo_skip_33 : sm_D prog_9_method_21_code 33 1 34 (.return_) := ⟨by decide +kernel, rfl⟩
noncomputable def ff_mo_skip_0_b  (self0 : sm_Mem → sm_R)  (w : sm_Mem) : sm_R := (if (w.1 62 16) ≤ (w.1 62 15) then (some (.null, w)) else (sm_cI (ff_mo_here  w) fun x1 w2 => (if x1 = (32 : Int32) then (sm_let (sm_wI w2 62 15 ((w2.1 62 15) + (1 : Int32))) fun w3 => self0  w3) else (some (.null, w2)))))
noncomputable def ff_mo_skip_0_f  : Nat → sm_Mem → sm_R
  | 0, _ => none
  | n + 1, w => ff_mo_skip_0_b  (ff_mo_skip_0_f  n)  w
noncomputable def ff_mo_skip_0   (w : sm_Mem) : sm_R := ff_mo_skip_0_f  sm_N  w
set_option maxHeartbeats 4000000 in
set_option maxRecDepth 100000 in
theorem ss_mo_skip_0_b {E : Nat × (Nat → Int32)}  (self0 : sm_Mem → sm_R) (hself0 : ∀  (w : sm_Mem), sm_Sim E (mi_mo_skip) 0 [some (.ref 62)] [] w (self0  w))  (w : sm_Mem) : sm_Sim E (mi_mo_skip) 0 [some (.ref 62)] [] w (ff_mo_skip_0_b  self0  w) := by
  unfold ff_mo_skip_0_b
  refine sm_aload_n ii_mo_skip_0 rfl ?_
  refine sm_getI ii_mo_skip_1 fl_mo_106 (k := 62) rfl ?_
  refine sm_aload_n ii_mo_skip_4 rfl ?_
  refine sm_getI ii_mo_skip_5 fl_mo_109 (k := 62) rfl ?_
  refine sm_icmp_ge 33 ii_mo_skip_8 (by decide) ?_ ?_
  · exact sm_vret ii_mo_skip_33 rfl
  · refine sm_aload_n ii_mo_skip_11 rfl ?_
    refine sm_cvI [] [] rfl ii_mo_skip_12 ml_mo_112 (mf_mo_here) (mv_mo_here) (Nat.le_of_ble_eq_true rfl) rfl 7 rfl rfl rfl rfl (mc_mo_here  w) (fun x1 w2 => ?_)
    refine sm_bipush (32 : Int32) ii_mo_skip_15 (by decide) ?_
    refine sm_icmp_ne 33 ii_mo_skip_17 (by decide) ?_ ?_
    · refine sm_aload_n ii_mo_skip_20 rfl ?_
      refine sm_dupR ii_mo_skip_21 ?_
      refine sm_getI ii_mo_skip_22 fl_mo_106 (k := 62) rfl ?_
      refine sm_iconst (1 : Int32) ii_mo_skip_25 (by decide) ?_
      refine sm_iadd ii_mo_skip_26 ?_
      refine sm_putI ii_mo_skip_27 fp_mo_106 (k := 62) rfl (fun w3 => ?_)
      refine sm_goto 0 ii_mo_skip_30 (by decide) ?_
      exact hself0  w3
    · exact sm_vret ii_mo_skip_33 rfl
set_option maxHeartbeats 4000000 in
set_option maxRecDepth 100000 in
theorem ss_mo_skip_0_f {E : Nat × (Nat → Int32)}  : ∀ (n : Nat)  (w : sm_Mem), sm_Sim E (mi_mo_skip) 0 [some (.ref 62)] [] w (ff_mo_skip_0_f  n  w)
  | 0, _ => fun _ _ h => by cases h
  | n + 1, w => ss_mo_skip_0_b  _ (ss_mo_skip_0_f  n)  w
set_option maxHeartbeats 4000000 in
set_option maxRecDepth 100000 in
theorem ss_mo_skip_0 {E : Nat × (Nat → Int32)}   (w : sm_Mem) : sm_Sim E (mi_mo_skip) 0 [some (.ref 62)] [] w (ff_mo_skip_0   w) := ss_mo_skip_0_f  sm_N  w
noncomputable def ff_mo_skip  (w : sm_Mem) : sm_R := ff_mo_skip_0  w
set_option maxHeartbeats 4000000 in
set_option maxRecDepth 100000 in
theorem mc_mo_skip  (w : sm_Mem) : sm_MC mi_mo_skip [.ref 62] w (ff_mo_skip  w) := sm_MC_of (0, fun _ => 0) (by decide +kernel) (by decide) rfl (Nat.le_of_ble_eq_true rfl) (ss_mo_skip_0  w)
abbrev mi_mo_kindOfLetter : sm_MI := (⟨"HerOrdersModel", "kindOfLetter", "(I)I"⟩, prog_9_method_23_code, 1, (some .int), 1)
set_option maxRecDepth 100000 in
theorem mf_mo_kindOfLetter : sm_MF mi_mo_kindOfLetter 1 := ⟨List.mem_of_getElem? (i := 1118) (by decide +kernel), List.mem_of_getElem? (i := 132) (by decide +kernel), ⟨by decide, by decide⟩, by decide +kernel⟩
set_option maxRecDepth 100000 in
theorem mv_mo_kindOfLetter : sm_MFS mi_mo_kindOfLetter := List.mem_of_getElem? (i := 1117) (by decide +kernel)
set_option maxRecDepth 100000 in
theorem ii_mo_kindOfLetter_0 : sm_D prog_9_method_23_code 0 1 1 (.iload_n 0) := ⟨by decide +kernel, rfl⟩
set_option maxRecDepth 100000 in
theorem ii_mo_kindOfLetter_1 : sm_D prog_9_method_23_code 1 2 3 (.bipush 118) := ⟨by decide +kernel, rfl⟩
set_option maxRecDepth 100000 in
theorem ii_mo_kindOfLetter_3 : sm_D prog_9_method_23_code 3 3 6 (.if_icmp .ne 7) := ⟨by decide +kernel, rfl⟩
set_option maxRecDepth 100000 in
theorem ii_mo_kindOfLetter_6 : sm_D prog_9_method_23_code 6 1 7 (.iconst 0) := ⟨by decide +kernel, rfl⟩
set_option maxRecDepth 100000 in
theorem ii_mo_kindOfLetter_7 : sm_D prog_9_method_23_code 7 3 10 (.goto 55) := ⟨by decide +kernel, rfl⟩
set_option maxRecDepth 100000 in
theorem ii_mo_kindOfLetter_10 : sm_D prog_9_method_23_code 10 1 11 (.iload_n 0) := ⟨by decide +kernel, rfl⟩
set_option maxRecDepth 100000 in
theorem ii_mo_kindOfLetter_11 : sm_D prog_9_method_23_code 11 2 13 (.bipush 112) := ⟨by decide +kernel, rfl⟩
set_option maxRecDepth 100000 in
theorem ii_mo_kindOfLetter_13 : sm_D prog_9_method_23_code 13 3 16 (.if_icmp .ne 7) := ⟨by decide +kernel, rfl⟩
set_option maxRecDepth 100000 in
theorem ii_mo_kindOfLetter_16 : sm_D prog_9_method_23_code 16 1 17 (.iconst 1) := ⟨by decide +kernel, rfl⟩
set_option maxRecDepth 100000 in
theorem ii_mo_kindOfLetter_17 : sm_D prog_9_method_23_code 17 3 20 (.goto 45) := ⟨by decide +kernel, rfl⟩
set_option maxRecDepth 100000 in
theorem ii_mo_kindOfLetter_20 : sm_D prog_9_method_23_code 20 1 21 (.iload_n 0) := ⟨by decide +kernel, rfl⟩
set_option maxRecDepth 100000 in
theorem ii_mo_kindOfLetter_21 : sm_D prog_9_method_23_code 21 2 23 (.bipush 115) := ⟨by decide +kernel, rfl⟩
set_option maxRecDepth 100000 in
theorem ii_mo_kindOfLetter_23 : sm_D prog_9_method_23_code 23 3 26 (.if_icmp .ne 7) := ⟨by decide +kernel, rfl⟩
set_option maxRecDepth 100000 in
theorem ii_mo_kindOfLetter_26 : sm_D prog_9_method_23_code 26 1 27 (.iconst 2) := ⟨by decide +kernel, rfl⟩
set_option maxRecDepth 100000 in
theorem ii_mo_kindOfLetter_27 : sm_D prog_9_method_23_code 27 3 30 (.goto 35) := ⟨by decide +kernel, rfl⟩
set_option maxRecDepth 100000 in
theorem ii_mo_kindOfLetter_30 : sm_D prog_9_method_23_code 30 1 31 (.iload_n 0) := ⟨by decide +kernel, rfl⟩
set_option maxRecDepth 100000 in
theorem ii_mo_kindOfLetter_31 : sm_D prog_9_method_23_code 31 2 33 (.bipush 110) := ⟨by decide +kernel, rfl⟩
set_option maxRecDepth 100000 in
theorem ii_mo_kindOfLetter_33 : sm_D prog_9_method_23_code 33 3 36 (.if_icmp .ne 7) := ⟨by decide +kernel, rfl⟩
set_option maxRecDepth 100000 in
theorem ii_mo_kindOfLetter_36 : sm_D prog_9_method_23_code 36 1 37 (.iconst 3) := ⟨by decide +kernel, rfl⟩
set_option maxRecDepth 100000 in
theorem ii_mo_kindOfLetter_37 : sm_D prog_9_method_23_code 37 3 40 (.goto 25) := ⟨by decide +kernel, rfl⟩
set_option maxRecDepth 100000 in
theorem ii_mo_kindOfLetter_40 : sm_D prog_9_method_23_code 40 1 41 (.iload_n 0) := ⟨by decide +kernel, rfl⟩
set_option maxRecDepth 100000 in
theorem ii_mo_kindOfLetter_41 : sm_D prog_9_method_23_code 41 2 43 (.bipush 109) := ⟨by decide +kernel, rfl⟩
set_option maxRecDepth 100000 in
theorem ii_mo_kindOfLetter_43 : sm_D prog_9_method_23_code 43 3 46 (.if_icmp .ne 7) := ⟨by decide +kernel, rfl⟩
set_option maxRecDepth 100000 in
theorem ii_mo_kindOfLetter_46 : sm_D prog_9_method_23_code 46 1 47 (.iconst 4) := ⟨by decide +kernel, rfl⟩
set_option maxRecDepth 100000 in
theorem ii_mo_kindOfLetter_47 : sm_D prog_9_method_23_code 47 3 50 (.goto 15) := ⟨by decide +kernel, rfl⟩
set_option maxRecDepth 100000 in
theorem ii_mo_kindOfLetter_50 : sm_D prog_9_method_23_code 50 1 51 (.iload_n 0) := ⟨by decide +kernel, rfl⟩
set_option maxRecDepth 100000 in
theorem ii_mo_kindOfLetter_51 : sm_D prog_9_method_23_code 51 2 53 (.bipush 99) := ⟨by decide +kernel, rfl⟩
set_option maxRecDepth 100000 in
theorem ii_mo_kindOfLetter_53 : sm_D prog_9_method_23_code 53 3 56 (.if_icmp .ne 7) := ⟨by decide +kernel, rfl⟩
set_option maxRecDepth 100000 in
theorem ii_mo_kindOfLetter_56 : sm_D prog_9_method_23_code 56 1 57 (.iconst 5) := ⟨by decide +kernel, rfl⟩
set_option maxRecDepth 100000 in
theorem ii_mo_kindOfLetter_57 : sm_D prog_9_method_23_code 57 3 60 (.goto 5) := ⟨by decide +kernel, rfl⟩
set_option maxRecDepth 100000 in
theorem ii_mo_kindOfLetter_60 : sm_D prog_9_method_23_code 60 2 62 (.bipush (-9)) := ⟨by decide +kernel, rfl⟩
set_option maxRecDepth 100000 in
theorem ii_mo_kindOfLetter_62 : sm_D prog_9_method_23_code 62 1 63 (.ireturn) := ⟨by decide +kernel, rfl⟩
noncomputable def ff_mo_kindOfLetter  (a0 : Int32) (w : sm_Mem) : sm_R := (if a0 = (118 : Int32) then (some (.int (0 : Int32), w)) else (if a0 = (112 : Int32) then (some (.int (1 : Int32), w)) else (if a0 = (115 : Int32) then (some (.int (2 : Int32), w)) else (if a0 = (110 : Int32) then (some (.int (3 : Int32), w)) else (if a0 = (109 : Int32) then (some (.int (4 : Int32), w)) else (if a0 = (99 : Int32) then (some (.int (5 : Int32), w)) else (some (.int (-9 : Int32), w))))))))
set_option maxHeartbeats 4000000 in
set_option maxRecDepth 100000 in
theorem ss_mo_kindOfLetter_0 {E : Nat × (Nat → Int32)}  (a0 : Int32) (w : sm_Mem) : sm_Sim E (mi_mo_kindOfLetter) 0 [some (.int a0)] [] w (ff_mo_kindOfLetter  a0 w) := by
  unfold ff_mo_kindOfLetter
  refine sm_iload_n ii_mo_kindOfLetter_0 rfl ?_
  refine sm_bipush (118 : Int32) ii_mo_kindOfLetter_1 (by decide) ?_
  refine sm_icmp_ne 10 ii_mo_kindOfLetter_3 (by decide) ?_ ?_
  · refine sm_iconst (0 : Int32) ii_mo_kindOfLetter_6 (by decide) ?_
    refine sm_goto 62 ii_mo_kindOfLetter_7 (by decide) ?_
    exact sm_iret ii_mo_kindOfLetter_62 rfl
  · refine sm_iload_n ii_mo_kindOfLetter_10 rfl ?_
    refine sm_bipush (112 : Int32) ii_mo_kindOfLetter_11 (by decide) ?_
    refine sm_icmp_ne 20 ii_mo_kindOfLetter_13 (by decide) ?_ ?_
    · refine sm_iconst (1 : Int32) ii_mo_kindOfLetter_16 (by decide) ?_
      refine sm_goto 62 ii_mo_kindOfLetter_17 (by decide) ?_
      exact sm_iret ii_mo_kindOfLetter_62 rfl
    · refine sm_iload_n ii_mo_kindOfLetter_20 rfl ?_
      refine sm_bipush (115 : Int32) ii_mo_kindOfLetter_21 (by decide) ?_
      refine sm_icmp_ne 30 ii_mo_kindOfLetter_23 (by decide) ?_ ?_
      · refine sm_iconst (2 : Int32) ii_mo_kindOfLetter_26 (by decide) ?_
        refine sm_goto 62 ii_mo_kindOfLetter_27 (by decide) ?_
        exact sm_iret ii_mo_kindOfLetter_62 rfl
      · refine sm_iload_n ii_mo_kindOfLetter_30 rfl ?_
        refine sm_bipush (110 : Int32) ii_mo_kindOfLetter_31 (by decide) ?_
        refine sm_icmp_ne 40 ii_mo_kindOfLetter_33 (by decide) ?_ ?_
        · refine sm_iconst (3 : Int32) ii_mo_kindOfLetter_36 (by decide) ?_
          refine sm_goto 62 ii_mo_kindOfLetter_37 (by decide) ?_
          exact sm_iret ii_mo_kindOfLetter_62 rfl
        · refine sm_iload_n ii_mo_kindOfLetter_40 rfl ?_
          refine sm_bipush (109 : Int32) ii_mo_kindOfLetter_41 (by decide) ?_
          refine sm_icmp_ne 50 ii_mo_kindOfLetter_43 (by decide) ?_ ?_
          · refine sm_iconst (4 : Int32) ii_mo_kindOfLetter_46 (by decide) ?_
            refine sm_goto 62 ii_mo_kindOfLetter_47 (by decide) ?_
            exact sm_iret ii_mo_kindOfLetter_62 rfl
          · refine sm_iload_n ii_mo_kindOfLetter_50 rfl ?_
            refine sm_bipush (99 : Int32) ii_mo_kindOfLetter_51 (by decide) ?_
            refine sm_icmp_ne 60 ii_mo_kindOfLetter_53 (by decide) ?_ ?_
            · refine sm_iconst (5 : Int32) ii_mo_kindOfLetter_56 (by decide) ?_
              refine sm_goto 62 ii_mo_kindOfLetter_57 (by decide) ?_
              exact sm_iret ii_mo_kindOfLetter_62 rfl
            · refine sm_bipush (-9 : Int32) ii_mo_kindOfLetter_60 (by decide) ?_
              exact sm_iret ii_mo_kindOfLetter_62 rfl
set_option maxHeartbeats 4000000 in
set_option maxRecDepth 100000 in
theorem mc_mo_kindOfLetter (a0 : Int32) (w : sm_Mem) : sm_MC mi_mo_kindOfLetter [.int a0] w (ff_mo_kindOfLetter a0 w) := sm_MC_of (0, fun _ => 0) (by decide +kernel) (by decide) rfl (Nat.le_of_ble_eq_true rfl) (ss_mo_kindOfLetter_0 a0 w)
abbrev mi_mo_figure : sm_MI := (⟨"HerOrdersModel", "figure", "(II)I"⟩, prog_9_method_22_code, 3, (some .int), 2)
set_option maxRecDepth 100000 in
theorem mf_mo_figure : sm_MF mi_mo_figure 2 := ⟨List.mem_of_getElem? (i := 1122) (by decide +kernel), List.mem_of_getElem? (i := 132) (by decide +kernel), ⟨by decide, by decide⟩, by decide +kernel⟩
set_option maxRecDepth 100000 in
theorem mv_mo_figure : sm_MFV mi_mo_figure := ⟨List.mem_of_getElem? (i := 1121) (by decide +kernel), List.mem_of_getElem? (i := 82) (by decide +kernel)⟩
set_option maxRecDepth 100000 in
theorem ii_mo_figure_0 : sm_D prog_9_method_22_code 0 1 1 (.aload_n 0) := ⟨by decide +kernel, rfl⟩
set_option maxRecDepth 100000 in
theorem ii_mo_figure_1 : sm_D prog_9_method_22_code 1 3 4 (.getfield 106) := ⟨by decide +kernel, rfl⟩
set_option maxRecDepth 100000 in
theorem ii_mo_figure_4 : sm_D prog_9_method_22_code 4 1 5 (.aload_n 0) := ⟨by decide +kernel, rfl⟩
set_option maxRecDepth 100000 in
theorem ii_mo_figure_5 : sm_D prog_9_method_22_code 5 3 8 (.getfield 109) := ⟨by decide +kernel, rfl⟩
set_option maxRecDepth 100000 in
theorem ii_mo_figure_8 : sm_D prog_9_method_22_code 8 3 11 (.if_icmp .eq 24) := ⟨by decide +kernel, rfl⟩
set_option maxRecDepth 100000 in
theorem ii_mo_figure_11 : sm_D prog_9_method_22_code 11 1 12 (.aload_n 0) := ⟨by decide +kernel, rfl⟩
set_option maxRecDepth 100000 in
theorem ii_mo_figure_12 : sm_D prog_9_method_22_code 12 3 15 (.invokevirtual 112) := ⟨by decide +kernel, rfl⟩
set_option maxRecDepth 100000 in
theorem ii_mo_figure_15 : sm_D prog_9_method_22_code 15 1 16 (.i2l) := ⟨by decide +kernel, rfl⟩
set_option maxRecDepth 100000 in
theorem ii_mo_figure_16 : sm_D prog_9_method_22_code 16 2 18 (.bipush 48) := ⟨by decide +kernel, rfl⟩
set_option maxRecDepth 100000 in
theorem ii_mo_figure_18 : sm_D prog_9_method_22_code 18 1 19 (.iload_n 1) := ⟨by decide +kernel, rfl⟩
set_option maxRecDepth 100000 in
theorem ii_mo_figure_19 : sm_D prog_9_method_22_code 19 1 20 (.iadd) := ⟨by decide +kernel, rfl⟩
set_option maxRecDepth 100000 in
theorem ii_mo_figure_20 : sm_D prog_9_method_22_code 20 1 21 (.i2l) := ⟨by decide +kernel, rfl⟩
set_option maxRecDepth 100000 in
theorem ii_mo_figure_21 : sm_D prog_9_method_22_code 21 2 23 (.bipush 48) := ⟨by decide +kernel, rfl⟩
set_option maxRecDepth 100000 in
theorem ii_mo_figure_23 : sm_D prog_9_method_22_code 23 1 24 (.iload_n 2) := ⟨by decide +kernel, rfl⟩
set_option maxRecDepth 100000 in
theorem ii_mo_figure_24 : sm_D prog_9_method_22_code 24 1 25 (.iadd) := ⟨by decide +kernel, rfl⟩
set_option maxRecDepth 100000 in
theorem ii_mo_figure_25 : sm_D prog_9_method_22_code 25 1 26 (.i2l) := ⟨by decide +kernel, rfl⟩
set_option maxRecDepth 100000 in
theorem ii_mo_figure_26 : sm_D prog_9_method_22_code 26 3 29 (.invokestatic 71) := ⟨by decide +kernel, rfl⟩
set_option maxRecDepth 100000 in
theorem ii_mo_figure_29 : sm_D prog_9_method_22_code 29 3 32 (.ifCond .ne 6) := ⟨by decide +kernel, rfl⟩
set_option maxRecDepth 100000 in
theorem ii_mo_figure_32 : sm_D prog_9_method_22_code 32 2 34 (.bipush (-9)) := ⟨by decide +kernel, rfl⟩
set_option maxRecDepth 100000 in
theorem ii_mo_figure_34 : sm_D prog_9_method_22_code 34 1 35 (.ireturn) := ⟨by decide +kernel, rfl⟩
set_option maxRecDepth 100000 in
theorem ii_mo_figure_35 : sm_D prog_9_method_22_code 35 1 36 (.aload_n 0) := ⟨by decide +kernel, rfl⟩
set_option maxRecDepth 100000 in
theorem ii_mo_figure_36 : sm_D prog_9_method_22_code 36 1 37 (.dup) := ⟨by decide +kernel, rfl⟩
set_option maxRecDepth 100000 in
theorem ii_mo_figure_37 : sm_D prog_9_method_22_code 37 3 40 (.getfield 106) := ⟨by decide +kernel, rfl⟩
set_option maxRecDepth 100000 in
theorem ii_mo_figure_40 : sm_D prog_9_method_22_code 40 1 41 (.iconst 1) := ⟨by decide +kernel, rfl⟩
set_option maxRecDepth 100000 in
theorem ii_mo_figure_41 : sm_D prog_9_method_22_code 41 1 42 (.iadd) := ⟨by decide +kernel, rfl⟩
set_option maxRecDepth 100000 in
theorem ii_mo_figure_42 : sm_D prog_9_method_22_code 42 3 45 (.putfield 106) := ⟨by decide +kernel, rfl⟩
set_option maxRecDepth 100000 in
theorem ii_mo_figure_45 : sm_D prog_9_method_22_code 45 1 46 (.aload_n 0) := ⟨by decide +kernel, rfl⟩
set_option maxRecDepth 100000 in
theorem ii_mo_figure_46 : sm_D prog_9_method_22_code 46 3 49 (.getfield 31) := ⟨by decide +kernel, rfl⟩
set_option maxRecDepth 100000 in
theorem ii_mo_figure_49 : sm_D prog_9_method_22_code 49 1 50 (.aload_n 0) := ⟨by decide +kernel, rfl⟩
set_option maxRecDepth 100000 in
theorem ii_mo_figure_50 : sm_D prog_9_method_22_code 50 3 53 (.getfield 103) := ⟨by decide +kernel, rfl⟩
set_option maxRecDepth 100000 in
theorem ii_mo_figure_53 : sm_D prog_9_method_22_code 53 1 54 (.aload_n 0) := ⟨by decide +kernel, rfl⟩
set_option maxRecDepth 100000 in
theorem ii_mo_figure_54 : sm_D prog_9_method_22_code 54 3 57 (.getfield 106) := ⟨by decide +kernel, rfl⟩
set_option maxRecDepth 100000 in
theorem ii_mo_figure_57 : sm_D prog_9_method_22_code 57 1 58 (.iadd) := ⟨by decide +kernel, rfl⟩
set_option maxRecDepth 100000 in
theorem ii_mo_figure_58 : sm_D prog_9_method_22_code 58 1 59 (.iconst 1) := ⟨by decide +kernel, rfl⟩
set_option maxRecDepth 100000 in
theorem ii_mo_figure_59 : sm_D prog_9_method_22_code 59 1 60 (.isub) := ⟨by decide +kernel, rfl⟩
set_option maxRecDepth 100000 in
theorem ii_mo_figure_60 : sm_D prog_9_method_22_code 60 1 61 (.iaload) := ⟨by decide +kernel, rfl⟩
set_option maxRecDepth 100000 in
theorem ii_mo_figure_61 : sm_D prog_9_method_22_code 61 2 63 (.bipush 48) := ⟨by decide +kernel, rfl⟩
set_option maxRecDepth 100000 in
theorem ii_mo_figure_63 : sm_D prog_9_method_22_code 63 1 64 (.isub) := ⟨by decide +kernel, rfl⟩
set_option maxRecDepth 100000 in
theorem ii_mo_figure_64 : sm_D prog_9_method_22_code 64 1 65 (.ireturn) := ⟨by decide +kernel, rfl⟩
noncomputable def ff_mo_figure  (a1 : Int32) (a2 : Int32) (w : sm_Mem) : sm_R := (if (w.1 62 15) = (w.1 62 16) then (some (.int (-9 : Int32), w)) else (sm_cI (ff_mo_here  w) fun x1 w2 => (sm_cI (ff_mo_in ((Int32.toInt64 x1)) ((Int32.toInt64 ((48 : Int32) + a1))) ((Int32.toInt64 ((48 : Int32) + a2))) w2) fun x3 w4 => (if x3 = (0 : Int32) then (some (.int (-9 : Int32), w4)) else (sm_let (sm_wI w4 62 15 ((w4.1 62 15) + (1 : Int32))) fun w5 => (Option.bind (sm_rd w5 70 240 (((w5.1 62 14) + (w5.1 62 15)) - (1 : Int32))) fun x6 => (some (.int (x6 - (48 : Int32)), w5))))))))
set_option maxHeartbeats 4000000 in
set_option maxRecDepth 100000 in
theorem ss_mo_figure_0 {E : Nat × (Nat → Int32)}  (a1 : Int32) (a2 : Int32) (w : sm_Mem) : sm_Sim E (mi_mo_figure) 0 [some (.ref 62), some (.int a1), some (.int a2)] [] w (ff_mo_figure  a1 a2 w) := by
  unfold ff_mo_figure
  refine sm_aload_n ii_mo_figure_0 rfl ?_
  refine sm_getI ii_mo_figure_1 fl_mo_106 (k := 62) rfl ?_
  refine sm_aload_n ii_mo_figure_4 rfl ?_
  refine sm_getI ii_mo_figure_5 fl_mo_109 (k := 62) rfl ?_
  refine sm_icmp_eq 32 ii_mo_figure_8 (by decide) ?_ ?_
  · refine sm_bipush (-9 : Int32) ii_mo_figure_32 (by decide) ?_
    exact sm_iret ii_mo_figure_34 rfl
  · refine sm_aload_n ii_mo_figure_11 rfl ?_
    refine sm_cvI [] [] rfl ii_mo_figure_12 ml_mo_112 (mf_mo_here) (mv_mo_here) (Nat.le_of_ble_eq_true rfl) rfl 7 rfl rfl rfl rfl (mc_mo_here  w) (fun x1 w2 => ?_)
    refine sm_i2l ii_mo_figure_15 ?_
    refine sm_bipush (48 : Int32) ii_mo_figure_16 (by decide) ?_
    refine sm_iload_n ii_mo_figure_18 rfl ?_
    refine sm_iadd ii_mo_figure_19 ?_
    refine sm_i2l ii_mo_figure_20 ?_
    refine sm_bipush (48 : Int32) ii_mo_figure_21 (by decide) ?_
    refine sm_iload_n ii_mo_figure_23 rfl ?_
    refine sm_iadd ii_mo_figure_24 ?_
    refine sm_i2l ii_mo_figure_25 ?_
    refine sm_csI [.long (Int32.toInt64 x1), .long (Int32.toInt64 ((48 : Int32) + a1)), .long (Int32.toInt64 ((48 : Int32) + a2))] [] rfl ii_mo_figure_26 ml_mo_71 (mf_mo_in) (mv_mo_in) (Nat.le_of_ble_eq_true rfl) rfl rfl rfl (mc_mo_in ((Int32.toInt64 x1)) ((Int32.toInt64 ((48 : Int32) + a1))) ((Int32.toInt64 ((48 : Int32) + a2))) w2) (fun x3 w4 => ?_)
    refine sm_if_ne 35 ii_mo_figure_29 (by decide) ?_ ?_
    · refine sm_bipush (-9 : Int32) ii_mo_figure_32 (by decide) ?_
      exact sm_iret ii_mo_figure_34 rfl
    · refine sm_aload_n ii_mo_figure_35 rfl ?_
      refine sm_dupR ii_mo_figure_36 ?_
      refine sm_getI ii_mo_figure_37 fl_mo_106 (k := 62) rfl ?_
      refine sm_iconst (1 : Int32) ii_mo_figure_40 (by decide) ?_
      refine sm_iadd ii_mo_figure_41 ?_
      refine sm_putI ii_mo_figure_42 fp_mo_106 (k := 62) rfl (fun w5 => ?_)
      refine sm_aload_n ii_mo_figure_45 rfl ?_
      refine sm_getR 70 ii_mo_figure_46 fl_mo_31 (k := 62) rfl ?_
      refine sm_aload_n ii_mo_figure_49 rfl ?_
      refine sm_getI ii_mo_figure_50 fl_mo_103 (k := 62) rfl ?_
      refine sm_aload_n ii_mo_figure_53 rfl ?_
      refine sm_getI ii_mo_figure_54 fl_mo_106 (k := 62) rfl ?_
      refine sm_iadd ii_mo_figure_57 ?_
      refine sm_iconst (1 : Int32) ii_mo_figure_58 (by decide) ?_
      refine sm_isub ii_mo_figure_59 ?_
      refine sm_iald ii_mo_figure_60 (k := 70) rfl (fun x6 => ?_)
      refine sm_bipush (48 : Int32) ii_mo_figure_61 (by decide) ?_
      refine sm_isub ii_mo_figure_63 ?_
      exact sm_iret ii_mo_figure_64 rfl
set_option maxHeartbeats 4000000 in
set_option maxRecDepth 100000 in
theorem mc_mo_figure (a1 : Int32) (a2 : Int32) (w : sm_Mem) : sm_MC mi_mo_figure [.ref 62, .int a1, .int a2] w (ff_mo_figure a1 a2 w) := sm_MC_of (0, fun _ => 0) (by decide +kernel) (by decide) rfl (Nat.le_of_ble_eq_true rfl) (ss_mo_figure_0 a1 a2 w)
abbrev mi_mo_readsSpeaker : sm_MI := (⟨"HerOrdersModel", "readsSpeaker", "()Z"⟩, prog_9_method_24_code, 8, (some .boolean), 3)
set_option maxRecDepth 100000 in
theorem mf_mo_readsSpeaker : sm_MF mi_mo_readsSpeaker 0 := ⟨List.mem_of_getElem? (i := 1115) (by decide +kernel), List.mem_of_getElem? (i := 132) (by decide +kernel), ⟨by decide, by decide⟩, by decide +kernel⟩
set_option maxRecDepth 100000 in
theorem mv_mo_readsSpeaker : sm_MFV mi_mo_readsSpeaker := ⟨List.mem_of_getElem? (i := 1114) (by decide +kernel), List.mem_of_getElem? (i := 81) (by decide +kernel)⟩
set_option maxRecDepth 100000 in
theorem ii_mo_readsSpeaker_0 : sm_D prog_9_method_24_code 0 1 1 (.iconst 4) := ⟨by decide +kernel, rfl⟩
set_option maxRecDepth 100000 in
theorem ii_mo_readsSpeaker_1 : sm_D prog_9_method_24_code 1 1 2 (.aload_n 0) := ⟨by decide +kernel, rfl⟩
set_option maxRecDepth 100000 in
theorem ii_mo_readsSpeaker_2 : sm_D prog_9_method_24_code 2 3 5 (.getfield 116) := ⟨by decide +kernel, rfl⟩
set_option maxRecDepth 100000 in
theorem ii_mo_readsSpeaker_5 : sm_D prog_9_method_24_code 5 1 6 (.imul) := ⟨by decide +kernel, rfl⟩
set_option maxRecDepth 100000 in
theorem ii_mo_readsSpeaker_6 : sm_D prog_9_method_24_code 6 1 7 (.istore_n 1) := ⟨by decide +kernel, rfl⟩
set_option maxRecDepth 100000 in
theorem ii_mo_readsSpeaker_7 : sm_D prog_9_method_24_code 7 1 8 (.aload_n 0) := ⟨by decide +kernel, rfl⟩
set_option maxRecDepth 100000 in
theorem ii_mo_readsSpeaker_8 : sm_D prog_9_method_24_code 8 3 11 (.invokevirtual 112) := ⟨by decide +kernel, rfl⟩
set_option maxRecDepth 100000 in
theorem ii_mo_readsSpeaker_11 : sm_D prog_9_method_24_code 11 3 14 (.invokestatic 119) := ⟨by decide +kernel, rfl⟩
set_option maxRecDepth 100000 in
theorem ii_mo_readsSpeaker_14 : sm_D prog_9_method_24_code 14 1 15 (.istore_n 2) := ⟨by decide +kernel, rfl⟩
set_option maxRecDepth 100000 in
theorem ii_mo_readsSpeaker_15 : sm_D prog_9_method_24_code 15 1 16 (.iload_n 2) := ⟨by decide +kernel, rfl⟩
set_option maxRecDepth 100000 in
theorem ii_mo_readsSpeaker_16 : sm_D prog_9_method_24_code 16 2 18 (.bipush (-9)) := ⟨by decide +kernel, rfl⟩
set_option maxRecDepth 100000 in
theorem ii_mo_readsSpeaker_18 : sm_D prog_9_method_24_code 18 3 21 (.if_icmp .eq 12) := ⟨by decide +kernel, rfl⟩
set_option maxRecDepth 100000 in
theorem ii_mo_readsSpeaker_21 : sm_D prog_9_method_24_code 21 1 22 (.aload_n 0) := ⟨by decide +kernel, rfl⟩
set_option maxRecDepth 100000 in
theorem ii_mo_readsSpeaker_22 : sm_D prog_9_method_24_code 22 3 25 (.getfield 116) := ⟨by decide +kernel, rfl⟩
set_option maxRecDepth 100000 in
theorem ii_mo_readsSpeaker_25 : sm_D prog_9_method_24_code 25 2 27 (.bipush 6) := ⟨by decide +kernel, rfl⟩
set_option maxRecDepth 100000 in
theorem ii_mo_readsSpeaker_27 : sm_D prog_9_method_24_code 27 3 30 (.if_icmp .ne 5) := ⟨by decide +kernel, rfl⟩
set_option maxRecDepth 100000 in
theorem ii_mo_readsSpeaker_30 : sm_D prog_9_method_24_code 30 1 31 (.iconst 0) := ⟨by decide +kernel, rfl⟩
set_option maxRecDepth 100000 in
theorem ii_mo_readsSpeaker_31 : sm_D prog_9_method_24_code 31 1 32 (.ireturn) := ⟨by decide +kernel, rfl⟩
set_option maxRecDepth 100000 in
theorem ii_mo_readsSpeaker_32 : sm_D prog_9_method_24_code 32 1 33 (.aload_n 0) := ⟨by decide +kernel, rfl⟩
set_option maxRecDepth 100000 in
theorem ii_mo_readsSpeaker_33 : sm_D prog_9_method_24_code 33 1 34 (.dup) := ⟨by decide +kernel, rfl⟩
set_option maxRecDepth 100000 in
theorem ii_mo_readsSpeaker_34 : sm_D prog_9_method_24_code 34 3 37 (.getfield 106) := ⟨by decide +kernel, rfl⟩
set_option maxRecDepth 100000 in
theorem ii_mo_readsSpeaker_37 : sm_D prog_9_method_24_code 37 1 38 (.iconst 1) := ⟨by decide +kernel, rfl⟩
set_option maxRecDepth 100000 in
theorem ii_mo_readsSpeaker_38 : sm_D prog_9_method_24_code 38 1 39 (.iadd) := ⟨by decide +kernel, rfl⟩
set_option maxRecDepth 100000 in
theorem ii_mo_readsSpeaker_39 : sm_D prog_9_method_24_code 39 3 42 (.putfield 106) := ⟨by decide +kernel, rfl⟩
set_option maxRecDepth 100000 in
theorem ii_mo_readsSpeaker_42 : sm_D prog_9_method_24_code 42 1 43 (.aload_n 0) := ⟨by decide +kernel, rfl⟩
set_option maxRecDepth 100000 in
theorem ii_mo_readsSpeaker_43 : sm_D prog_9_method_24_code 43 3 46 (.getfield 106) := ⟨by decide +kernel, rfl⟩
set_option maxRecDepth 100000 in
theorem ii_mo_readsSpeaker_46 : sm_D prog_9_method_24_code 46 1 47 (.istore_n 3) := ⟨by decide +kernel, rfl⟩
set_option maxRecDepth 100000 in
theorem ii_mo_readsSpeaker_47 : sm_D prog_9_method_24_code 47 1 48 (.aload_n 0) := ⟨by decide +kernel, rfl⟩
set_option maxRecDepth 100000 in
theorem ii_mo_readsSpeaker_48 : sm_D prog_9_method_24_code 48 1 49 (.iconst 0) := ⟨by decide +kernel, rfl⟩
set_option maxRecDepth 100000 in
theorem ii_mo_readsSpeaker_49 : sm_D prog_9_method_24_code 49 2 51 (.bipush 9) := ⟨by decide +kernel, rfl⟩
set_option maxRecDepth 100000 in
theorem ii_mo_readsSpeaker_51 : sm_D prog_9_method_24_code 51 3 54 (.invokevirtual 122) := ⟨by decide +kernel, rfl⟩
set_option maxRecDepth 100000 in
theorem ii_mo_readsSpeaker_54 : sm_D prog_9_method_24_code 54 2 56 (.istore 4) := ⟨by decide +kernel, rfl⟩
set_option maxRecDepth 100000 in
theorem ii_mo_readsSpeaker_56 : sm_D prog_9_method_24_code 56 2 58 (.iload 4) := ⟨by decide +kernel, rfl⟩
set_option maxRecDepth 100000 in
theorem ii_mo_readsSpeaker_58 : sm_D prog_9_method_24_code 58 2 60 (.bipush (-9)) := ⟨by decide +kernel, rfl⟩
set_option maxRecDepth 100000 in
theorem ii_mo_readsSpeaker_60 : sm_D prog_9_method_24_code 60 3 63 (.if_icmp .ne 8) := ⟨by decide +kernel, rfl⟩
set_option maxRecDepth 100000 in
theorem ii_mo_readsSpeaker_63 : sm_D prog_9_method_24_code 63 2 65 (.bipush (-9)) := ⟨by decide +kernel, rfl⟩
set_option maxRecDepth 100000 in
theorem ii_mo_readsSpeaker_65 : sm_D prog_9_method_24_code 65 3 68 (.goto 10) := ⟨by decide +kernel, rfl⟩
set_option maxRecDepth 100000 in
theorem ii_mo_readsSpeaker_68 : sm_D prog_9_method_24_code 68 1 69 (.aload_n 0) := ⟨by decide +kernel, rfl⟩
set_option maxRecDepth 100000 in
theorem ii_mo_readsSpeaker_69 : sm_D prog_9_method_24_code 69 1 70 (.iconst 0) := ⟨by decide +kernel, rfl⟩
set_option maxRecDepth 100000 in
theorem ii_mo_readsSpeaker_70 : sm_D prog_9_method_24_code 70 2 72 (.bipush 9) := ⟨by decide +kernel, rfl⟩
set_option maxRecDepth 100000 in
theorem ii_mo_readsSpeaker_72 : sm_D prog_9_method_24_code 72 3 75 (.invokevirtual 122) := ⟨by decide +kernel, rfl⟩
set_option maxRecDepth 100000 in
theorem ii_mo_readsSpeaker_75 : sm_D prog_9_method_24_code 75 2 77 (.istore 5) := ⟨by decide +kernel, rfl⟩
set_option maxRecDepth 100000 in
theorem ii_mo_readsSpeaker_77 : sm_D prog_9_method_24_code 77 2 79 (.iload 5) := ⟨by decide +kernel, rfl⟩
set_option maxRecDepth 100000 in
theorem ii_mo_readsSpeaker_79 : sm_D prog_9_method_24_code 79 2 81 (.bipush (-9)) := ⟨by decide +kernel, rfl⟩
set_option maxRecDepth 100000 in
theorem ii_mo_readsSpeaker_81 : sm_D prog_9_method_24_code 81 3 84 (.if_icmp .ne 5) := ⟨by decide +kernel, rfl⟩
set_option maxRecDepth 100000 in
theorem ii_mo_readsSpeaker_84 : sm_D prog_9_method_24_code 84 1 85 (.iconst 0) := ⟨by decide +kernel, rfl⟩
set_option maxRecDepth 100000 in
theorem ii_mo_readsSpeaker_85 : sm_D prog_9_method_24_code 85 1 86 (.ireturn) := ⟨by decide +kernel, rfl⟩
set_option maxRecDepth 100000 in
theorem ii_mo_readsSpeaker_86 : sm_D prog_9_method_24_code 86 2 88 (.bipush 10) := ⟨by decide +kernel, rfl⟩
set_option maxRecDepth 100000 in
theorem ii_mo_readsSpeaker_88 : sm_D prog_9_method_24_code 88 2 90 (.iload 4) := ⟨by decide +kernel, rfl⟩
set_option maxRecDepth 100000 in
theorem ii_mo_readsSpeaker_90 : sm_D prog_9_method_24_code 90 1 91 (.imul) := ⟨by decide +kernel, rfl⟩
set_option maxRecDepth 100000 in
theorem ii_mo_readsSpeaker_91 : sm_D prog_9_method_24_code 91 2 93 (.iload 5) := ⟨by decide +kernel, rfl⟩
set_option maxRecDepth 100000 in
theorem ii_mo_readsSpeaker_93 : sm_D prog_9_method_24_code 93 1 94 (.iadd) := ⟨by decide +kernel, rfl⟩
set_option maxRecDepth 100000 in
theorem ii_mo_readsSpeaker_94 : sm_D prog_9_method_24_code 94 2 96 (.bipush 63) := ⟨by decide +kernel, rfl⟩
set_option maxRecDepth 100000 in
theorem ii_mo_readsSpeaker_96 : sm_D prog_9_method_24_code 96 3 99 (.if_icmp .le 10) := ⟨by decide +kernel, rfl⟩
set_option maxRecDepth 100000 in
theorem ii_mo_readsSpeaker_99 : sm_D prog_9_method_24_code 99 1 100 (.aload_n 0) := ⟨by decide +kernel, rfl⟩
set_option maxRecDepth 100000 in
theorem ii_mo_readsSpeaker_100 : sm_D prog_9_method_24_code 100 1 101 (.iload_n 3) := ⟨by decide +kernel, rfl⟩
set_option maxRecDepth 100000 in
theorem ii_mo_readsSpeaker_101 : sm_D prog_9_method_24_code 101 3 104 (.putfield 106) := ⟨by decide +kernel, rfl⟩
set_option maxRecDepth 100000 in
theorem ii_mo_readsSpeaker_104 : sm_D prog_9_method_24_code 104 1 105 (.iconst 0) := ⟨by decide +kernel, rfl⟩
set_option maxRecDepth 100000 in
theorem ii_mo_readsSpeaker_105 : sm_D prog_9_method_24_code 105 1 106 (.ireturn) := ⟨by decide +kernel, rfl⟩
set_option maxRecDepth 100000 in
theorem ii_mo_readsSpeaker_106 : sm_D prog_9_method_24_code 106 1 107 (.aload_n 0) := ⟨by decide +kernel, rfl⟩
set_option maxRecDepth 100000 in
theorem ii_mo_readsSpeaker_107 : sm_D prog_9_method_24_code 107 1 108 (.iconst 0) := ⟨by decide +kernel, rfl⟩
set_option maxRecDepth 100000 in
theorem ii_mo_readsSpeaker_108 : sm_D prog_9_method_24_code 108 1 109 (.iconst 5) := ⟨by decide +kernel, rfl⟩
set_option maxRecDepth 100000 in
theorem ii_mo_readsSpeaker_109 : sm_D prog_9_method_24_code 109 3 112 (.invokevirtual 122) := ⟨by decide +kernel, rfl⟩
set_option maxRecDepth 100000 in
theorem ii_mo_readsSpeaker_112 : sm_D prog_9_method_24_code 112 2 114 (.istore 6) := ⟨by decide +kernel, rfl⟩
set_option maxRecDepth 100000 in
theorem ii_mo_readsSpeaker_114 : sm_D prog_9_method_24_code 114 2 116 (.iload 6) := ⟨by decide +kernel, rfl⟩
set_option maxRecDepth 100000 in
theorem ii_mo_readsSpeaker_116 : sm_D prog_9_method_24_code 116 2 118 (.bipush (-9)) := ⟨by decide +kernel, rfl⟩
set_option maxRecDepth 100000 in
theorem ii_mo_readsSpeaker_118 : sm_D prog_9_method_24_code 118 3 121 (.if_icmp .ne 8) := ⟨by decide +kernel, rfl⟩
set_option maxRecDepth 100000 in
theorem ii_mo_readsSpeaker_121 : sm_D prog_9_method_24_code 121 2 123 (.bipush (-9)) := ⟨by decide +kernel, rfl⟩
set_option maxRecDepth 100000 in
theorem ii_mo_readsSpeaker_123 : sm_D prog_9_method_24_code 123 3 126 (.goto 10) := ⟨by decide +kernel, rfl⟩
set_option maxRecDepth 100000 in
theorem ii_mo_readsSpeaker_126 : sm_D prog_9_method_24_code 126 1 127 (.aload_n 0) := ⟨by decide +kernel, rfl⟩
set_option maxRecDepth 100000 in
theorem ii_mo_readsSpeaker_127 : sm_D prog_9_method_24_code 127 1 128 (.iconst 1) := ⟨by decide +kernel, rfl⟩
set_option maxRecDepth 100000 in
theorem ii_mo_readsSpeaker_128 : sm_D prog_9_method_24_code 128 2 130 (.bipush 9) := ⟨by decide +kernel, rfl⟩
set_option maxRecDepth 100000 in
theorem ii_mo_readsSpeaker_130 : sm_D prog_9_method_24_code 130 3 133 (.invokevirtual 122) := ⟨by decide +kernel, rfl⟩
set_option maxRecDepth 100000 in
theorem ii_mo_readsSpeaker_133 : sm_D prog_9_method_24_code 133 2 135 (.istore 7) := ⟨by decide +kernel, rfl⟩
set_option maxRecDepth 100000 in
theorem ii_mo_readsSpeaker_135 : sm_D prog_9_method_24_code 135 2 137 (.iload 7) := ⟨by decide +kernel, rfl⟩
set_option maxRecDepth 100000 in
theorem ii_mo_readsSpeaker_137 : sm_D prog_9_method_24_code 137 2 139 (.bipush (-9)) := ⟨by decide +kernel, rfl⟩
set_option maxRecDepth 100000 in
theorem ii_mo_readsSpeaker_139 : sm_D prog_9_method_24_code 139 3 142 (.if_icmp .ne 5) := ⟨by decide +kernel, rfl⟩
set_option maxRecDepth 100000 in
theorem ii_mo_readsSpeaker_142 : sm_D prog_9_method_24_code 142 1 143 (.iconst 0) := ⟨by decide +kernel, rfl⟩
set_option maxRecDepth 100000 in
theorem ii_mo_readsSpeaker_143 : sm_D prog_9_method_24_code 143 1 144 (.ireturn) := ⟨by decide +kernel, rfl⟩
set_option maxRecDepth 100000 in
theorem ii_mo_readsSpeaker_144 : sm_D prog_9_method_24_code 144 1 145 (.aload_n 0) := ⟨by decide +kernel, rfl⟩
set_option maxRecDepth 100000 in
theorem ii_mo_readsSpeaker_145 : sm_D prog_9_method_24_code 145 3 148 (.getfield 41) := ⟨by decide +kernel, rfl⟩
set_option maxRecDepth 100000 in
theorem ii_mo_readsSpeaker_148 : sm_D prog_9_method_24_code 148 1 149 (.iload_n 1) := ⟨by decide +kernel, rfl⟩
set_option maxRecDepth 100000 in
theorem ii_mo_readsSpeaker_149 : sm_D prog_9_method_24_code 149 1 150 (.iload_n 2) := ⟨by decide +kernel, rfl⟩
set_option maxRecDepth 100000 in
theorem ii_mo_readsSpeaker_150 : sm_D prog_9_method_24_code 150 1 151 (.iastore) := ⟨by decide +kernel, rfl⟩
set_option maxRecDepth 100000 in
theorem ii_mo_readsSpeaker_151 : sm_D prog_9_method_24_code 151 1 152 (.aload_n 0) := ⟨by decide +kernel, rfl⟩
set_option maxRecDepth 100000 in
theorem ii_mo_readsSpeaker_152 : sm_D prog_9_method_24_code 152 3 155 (.getfield 41) := ⟨by decide +kernel, rfl⟩
set_option maxRecDepth 100000 in
theorem ii_mo_readsSpeaker_155 : sm_D prog_9_method_24_code 155 1 156 (.iload_n 1) := ⟨by decide +kernel, rfl⟩
set_option maxRecDepth 100000 in
theorem ii_mo_readsSpeaker_156 : sm_D prog_9_method_24_code 156 1 157 (.iconst 1) := ⟨by decide +kernel, rfl⟩
set_option maxRecDepth 100000 in
theorem ii_mo_readsSpeaker_157 : sm_D prog_9_method_24_code 157 1 158 (.iadd) := ⟨by decide +kernel, rfl⟩
set_option maxRecDepth 100000 in
theorem ii_mo_readsSpeaker_158 : sm_D prog_9_method_24_code 158 2 160 (.bipush 10) := ⟨by decide +kernel, rfl⟩
set_option maxRecDepth 100000 in
theorem ii_mo_readsSpeaker_160 : sm_D prog_9_method_24_code 160 2 162 (.iload 4) := ⟨by decide +kernel, rfl⟩
set_option maxRecDepth 100000 in
theorem ii_mo_readsSpeaker_162 : sm_D prog_9_method_24_code 162 1 163 (.imul) := ⟨by decide +kernel, rfl⟩
set_option maxRecDepth 100000 in
theorem ii_mo_readsSpeaker_163 : sm_D prog_9_method_24_code 163 2 165 (.iload 5) := ⟨by decide +kernel, rfl⟩
set_option maxRecDepth 100000 in
theorem ii_mo_readsSpeaker_165 : sm_D prog_9_method_24_code 165 1 166 (.iadd) := ⟨by decide +kernel, rfl⟩
set_option maxRecDepth 100000 in
theorem ii_mo_readsSpeaker_166 : sm_D prog_9_method_24_code 166 1 167 (.iastore) := ⟨by decide +kernel, rfl⟩
set_option maxRecDepth 100000 in
theorem ii_mo_readsSpeaker_167 : sm_D prog_9_method_24_code 167 1 168 (.aload_n 0) := ⟨by decide +kernel, rfl⟩
set_option maxRecDepth 100000 in
theorem ii_mo_readsSpeaker_168 : sm_D prog_9_method_24_code 168 3 171 (.getfield 41) := ⟨by decide +kernel, rfl⟩
set_option maxRecDepth 100000 in
theorem ii_mo_readsSpeaker_171 : sm_D prog_9_method_24_code 171 1 172 (.iload_n 1) := ⟨by decide +kernel, rfl⟩
set_option maxRecDepth 100000 in
theorem ii_mo_readsSpeaker_172 : sm_D prog_9_method_24_code 172 1 173 (.iconst 2) := ⟨by decide +kernel, rfl⟩
set_option maxRecDepth 100000 in
theorem ii_mo_readsSpeaker_173 : sm_D prog_9_method_24_code 173 1 174 (.iadd) := ⟨by decide +kernel, rfl⟩
set_option maxRecDepth 100000 in
theorem ii_mo_readsSpeaker_174 : sm_D prog_9_method_24_code 174 2 176 (.iload 6) := ⟨by decide +kernel, rfl⟩
set_option maxRecDepth 100000 in
theorem ii_mo_readsSpeaker_176 : sm_D prog_9_method_24_code 176 1 177 (.iastore) := ⟨by decide +kernel, rfl⟩
set_option maxRecDepth 100000 in
theorem ii_mo_readsSpeaker_177 : sm_D prog_9_method_24_code 177 1 178 (.aload_n 0) := ⟨by decide +kernel, rfl⟩
set_option maxRecDepth 100000 in
theorem ii_mo_readsSpeaker_178 : sm_D prog_9_method_24_code 178 3 181 (.getfield 41) := ⟨by decide +kernel, rfl⟩
set_option maxRecDepth 100000 in
theorem ii_mo_readsSpeaker_181 : sm_D prog_9_method_24_code 181 1 182 (.iload_n 1) := ⟨by decide +kernel, rfl⟩
set_option maxRecDepth 100000 in
theorem ii_mo_readsSpeaker_182 : sm_D prog_9_method_24_code 182 1 183 (.iconst 3) := ⟨by decide +kernel, rfl⟩
set_option maxRecDepth 100000 in
theorem ii_mo_readsSpeaker_183 : sm_D prog_9_method_24_code 183 1 184 (.iadd) := ⟨by decide +kernel, rfl⟩
set_option maxRecDepth 100000 in
theorem ii_mo_readsSpeaker_184 : sm_D prog_9_method_24_code 184 2 186 (.iload 7) := ⟨by decide +kernel, rfl⟩
set_option maxRecDepth 100000 in
theorem ii_mo_readsSpeaker_186 : sm_D prog_9_method_24_code 186 1 187 (.iastore) := ⟨by decide +kernel, rfl⟩
set_option maxRecDepth 100000 in
theorem ii_mo_readsSpeaker_187 : sm_D prog_9_method_24_code 187 1 188 (.aload_n 0) := ⟨by decide +kernel, rfl⟩
set_option maxRecDepth 100000 in
theorem ii_mo_readsSpeaker_188 : sm_D prog_9_method_24_code 188 1 189 (.dup) := ⟨by decide +kernel, rfl⟩
set_option maxRecDepth 100000 in
theorem ii_mo_readsSpeaker_189 : sm_D prog_9_method_24_code 189 3 192 (.getfield 116) := ⟨by decide +kernel, rfl⟩
set_option maxRecDepth 100000 in
theorem ii_mo_readsSpeaker_192 : sm_D prog_9_method_24_code 192 1 193 (.iconst 1) := ⟨by decide +kernel, rfl⟩
set_option maxRecDepth 100000 in
theorem ii_mo_readsSpeaker_193 : sm_D prog_9_method_24_code 193 1 194 (.iadd) := ⟨by decide +kernel, rfl⟩
set_option maxRecDepth 100000 in
theorem ii_mo_readsSpeaker_194 : sm_D prog_9_method_24_code 194 3 197 (.putfield 116) := ⟨by decide +kernel, rfl⟩
set_option maxRecDepth 100000 in
theorem ii_mo_readsSpeaker_197 : sm_D prog_9_method_24_code 197 1 198 (.iconst 1) := ⟨by decide +kernel, rfl⟩
set_option maxRecDepth 100000 in
theorem ii_mo_readsSpeaker_198 : sm_D prog_9_method_24_code 198 1 199 (.ireturn) := ⟨by decide +kernel, rfl⟩
noncomputable def ff_mo_readsSpeaker_133  (a1 : Int32) (a2 : Int32) (a4 : Int32) (a5 : Int32) (a6 : Int32) (b0 : Int32) (w : sm_Mem) : sm_R := (if b0 = (-9 : Int32) then (some (.int (0 : Int32), w)) else (Option.bind (sm_wr w 72 24 a1 a2) fun w1 => (Option.bind (sm_wr w1 72 24 (a1 + (1 : Int32)) (((10 : Int32) * a4) + a5)) fun w2 => (Option.bind (sm_wr w2 72 24 (a1 + (2 : Int32)) a6) fun w3 => (Option.bind (sm_wr w3 72 24 (a1 + (3 : Int32)) b0) fun w4 => (sm_let (sm_wI w4 62 18 ((w4.1 62 18) + (1 : Int32))) fun w5 => (some (.int (1 : Int32), w5))))))))
set_option maxHeartbeats 4000000 in
set_option maxRecDepth 100000 in
theorem ss_mo_readsSpeaker_133 {E : Nat × (Nat → Int32)}  (a1 : Int32) (a2 : Int32) (a4 : Int32) (a5 : Int32) (a6 : Int32) (b0 : Int32) (w : sm_Mem) : sm_Sim E (mi_mo_readsSpeaker) 133 [some (.ref 62), some (.int a1), some (.int a2), none, some (.int a4), some (.int a5), some (.int a6), none] [.int b0] w (ff_mo_readsSpeaker_133  a1 a2 a4 a5 a6 b0 w) := by
  unfold ff_mo_readsSpeaker_133
  refine sm_istore [some (.ref 62), some (.int a1), some (.int a2), none, some (.int a4), some (.int a5), some (.int a6), some (.int b0)] ii_mo_readsSpeaker_133 rfl rfl ?_
  refine sm_iload ii_mo_readsSpeaker_135 rfl ?_
  refine sm_bipush (-9 : Int32) ii_mo_readsSpeaker_137 (by decide) ?_
  refine sm_icmp_ne 144 ii_mo_readsSpeaker_139 (by decide) ?_ ?_
  · refine sm_iconst (0 : Int32) ii_mo_readsSpeaker_142 (by decide) ?_
    exact sm_zret1 ii_mo_readsSpeaker_143 rfl (by decide)
  · refine sm_aload_n ii_mo_readsSpeaker_144 rfl ?_
    refine sm_getR 72 ii_mo_readsSpeaker_145 fl_mo_41 (k := 62) rfl ?_
    refine sm_iload_n ii_mo_readsSpeaker_148 rfl ?_
    refine sm_iload_n ii_mo_readsSpeaker_149 rfl ?_
    refine sm_iast ii_mo_readsSpeaker_150 (k := 72) rfl (fun w1 => ?_)
    refine sm_aload_n ii_mo_readsSpeaker_151 rfl ?_
    refine sm_getR 72 ii_mo_readsSpeaker_152 fl_mo_41 (k := 62) rfl ?_
    refine sm_iload_n ii_mo_readsSpeaker_155 rfl ?_
    refine sm_iconst (1 : Int32) ii_mo_readsSpeaker_156 (by decide) ?_
    refine sm_iadd ii_mo_readsSpeaker_157 ?_
    refine sm_bipush (10 : Int32) ii_mo_readsSpeaker_158 (by decide) ?_
    refine sm_iload ii_mo_readsSpeaker_160 rfl ?_
    refine sm_imul ii_mo_readsSpeaker_162 ?_
    refine sm_iload ii_mo_readsSpeaker_163 rfl ?_
    refine sm_iadd ii_mo_readsSpeaker_165 ?_
    refine sm_iast ii_mo_readsSpeaker_166 (k := 72) rfl (fun w2 => ?_)
    refine sm_aload_n ii_mo_readsSpeaker_167 rfl ?_
    refine sm_getR 72 ii_mo_readsSpeaker_168 fl_mo_41 (k := 62) rfl ?_
    refine sm_iload_n ii_mo_readsSpeaker_171 rfl ?_
    refine sm_iconst (2 : Int32) ii_mo_readsSpeaker_172 (by decide) ?_
    refine sm_iadd ii_mo_readsSpeaker_173 ?_
    refine sm_iload ii_mo_readsSpeaker_174 rfl ?_
    refine sm_iast ii_mo_readsSpeaker_176 (k := 72) rfl (fun w3 => ?_)
    refine sm_aload_n ii_mo_readsSpeaker_177 rfl ?_
    refine sm_getR 72 ii_mo_readsSpeaker_178 fl_mo_41 (k := 62) rfl ?_
    refine sm_iload_n ii_mo_readsSpeaker_181 rfl ?_
    refine sm_iconst (3 : Int32) ii_mo_readsSpeaker_182 (by decide) ?_
    refine sm_iadd ii_mo_readsSpeaker_183 ?_
    refine sm_iload ii_mo_readsSpeaker_184 rfl ?_
    refine sm_iast ii_mo_readsSpeaker_186 (k := 72) rfl (fun w4 => ?_)
    refine sm_aload_n ii_mo_readsSpeaker_187 rfl ?_
    refine sm_dupR ii_mo_readsSpeaker_188 ?_
    refine sm_getI ii_mo_readsSpeaker_189 fl_mo_116 (k := 62) rfl ?_
    refine sm_iconst (1 : Int32) ii_mo_readsSpeaker_192 (by decide) ?_
    refine sm_iadd ii_mo_readsSpeaker_193 ?_
    refine sm_putI ii_mo_readsSpeaker_194 fp_mo_116 (k := 62) rfl (fun w5 => ?_)
    refine sm_iconst (1 : Int32) ii_mo_readsSpeaker_197 (by decide) ?_
    exact sm_zret1 ii_mo_readsSpeaker_198 rfl (by decide)
noncomputable def ff_mo_readsSpeaker_75  (a1 : Int32) (a2 : Int32) (a3 : Int32) (a4 : Int32) (b0 : Int32) (w : sm_Mem) : sm_R := (if b0 = (-9 : Int32) then (some (.int (0 : Int32), w)) else (if (((10 : Int32) * a4) + b0) ≤ (63 : Int32) then (sm_cI (ff_mo_figure ((0 : Int32)) ((5 : Int32)) w) fun x6 w7 => (if x6 = (-9 : Int32) then ff_mo_readsSpeaker_133 (a1) (a2) (a4) (b0) (x6) ((-9 : Int32)) w7 else (sm_cI (ff_mo_figure ((1 : Int32)) ((9 : Int32)) w7) fun x8 w9 => ff_mo_readsSpeaker_133 (a1) (a2) (a4) (b0) (x6) (x8) w9))) else (sm_let (sm_wI w 62 15 a3) fun w10 => (some (.int (0 : Int32), w10)))))
set_option maxHeartbeats 4000000 in
set_option maxRecDepth 100000 in
theorem ss_mo_readsSpeaker_75 {E : Nat × (Nat → Int32)}  (a1 : Int32) (a2 : Int32) (a3 : Int32) (a4 : Int32) (b0 : Int32) (w : sm_Mem) : sm_Sim E (mi_mo_readsSpeaker) 75 [some (.ref 62), some (.int a1), some (.int a2), some (.int a3), some (.int a4), none, none, none] [.int b0] w (ff_mo_readsSpeaker_75  a1 a2 a3 a4 b0 w) := by
  unfold ff_mo_readsSpeaker_75
  refine sm_istore [some (.ref 62), some (.int a1), some (.int a2), some (.int a3), some (.int a4), some (.int b0), none, none] ii_mo_readsSpeaker_75 rfl rfl ?_
  refine sm_iload ii_mo_readsSpeaker_77 rfl ?_
  refine sm_bipush (-9 : Int32) ii_mo_readsSpeaker_79 (by decide) ?_
  refine sm_icmp_ne 86 ii_mo_readsSpeaker_81 (by decide) ?_ ?_
  · refine sm_iconst (0 : Int32) ii_mo_readsSpeaker_84 (by decide) ?_
    exact sm_zret1 ii_mo_readsSpeaker_85 rfl (by decide)
  · refine sm_bipush (10 : Int32) ii_mo_readsSpeaker_86 (by decide) ?_
    refine sm_iload ii_mo_readsSpeaker_88 rfl ?_
    refine sm_imul ii_mo_readsSpeaker_90 ?_
    refine sm_iload ii_mo_readsSpeaker_91 rfl ?_
    refine sm_iadd ii_mo_readsSpeaker_93 ?_
    refine sm_bipush (63 : Int32) ii_mo_readsSpeaker_94 (by decide) ?_
    refine sm_icmp_le 106 ii_mo_readsSpeaker_96 (by decide) ?_ ?_
    · refine sm_aload_n ii_mo_readsSpeaker_106 rfl ?_
      refine sm_iconst (0 : Int32) ii_mo_readsSpeaker_107 (by decide) ?_
      refine sm_iconst (5 : Int32) ii_mo_readsSpeaker_108 (by decide) ?_
      refine sm_cvI [.int (0 : Int32), .int (5 : Int32)] [] rfl ii_mo_readsSpeaker_109 ml_mo_122 (mf_mo_figure) (mv_mo_figure) (Nat.le_of_ble_eq_true rfl) rfl 7 rfl rfl rfl rfl (mc_mo_figure ((0 : Int32)) ((5 : Int32)) w) (fun x6 w7 => ?_)
      refine sm_istore [some (.ref 62), some (.int a1), some (.int a2), some (.int a3), some (.int a4), some (.int b0), some (.int x6), none] ii_mo_readsSpeaker_112 rfl rfl ?_
      refine sm_iload ii_mo_readsSpeaker_114 rfl ?_
      refine sm_bipush (-9 : Int32) ii_mo_readsSpeaker_116 (by decide) ?_
      refine sm_icmp_ne 126 ii_mo_readsSpeaker_118 (by decide) ?_ ?_
      · refine sm_bipush (-9 : Int32) ii_mo_readsSpeaker_121 (by decide) ?_
        refine sm_goto 133 ii_mo_readsSpeaker_123 (by decide) ?_
        refine sm_msk [true, true, true, false, true, true, true, false] [some (.ref 62), some (.int a1), some (.int a2), none, some (.int a4), some (.int b0), some (.int x6), none] rfl ?_
        exact ss_mo_readsSpeaker_133 (a1) (a2) (a4) (b0) (x6) ((-9 : Int32)) w7
      · refine sm_aload_n ii_mo_readsSpeaker_126 rfl ?_
        refine sm_iconst (1 : Int32) ii_mo_readsSpeaker_127 (by decide) ?_
        refine sm_bipush (9 : Int32) ii_mo_readsSpeaker_128 (by decide) ?_
        refine sm_cvI [.int (1 : Int32), .int (9 : Int32)] [] rfl ii_mo_readsSpeaker_130 ml_mo_122 (mf_mo_figure) (mv_mo_figure) (Nat.le_of_ble_eq_true rfl) rfl 7 rfl rfl rfl rfl (mc_mo_figure ((1 : Int32)) ((9 : Int32)) w7) (fun x8 w9 => ?_)
        refine sm_msk [true, true, true, false, true, true, true, false] [some (.ref 62), some (.int a1), some (.int a2), none, some (.int a4), some (.int b0), some (.int x6), none] rfl ?_
        exact ss_mo_readsSpeaker_133 (a1) (a2) (a4) (b0) (x6) (x8) w9
    · refine sm_aload_n ii_mo_readsSpeaker_99 rfl ?_
      refine sm_iload_n ii_mo_readsSpeaker_100 rfl ?_
      refine sm_putI ii_mo_readsSpeaker_101 fp_mo_106 (k := 62) rfl (fun w10 => ?_)
      refine sm_iconst (0 : Int32) ii_mo_readsSpeaker_104 (by decide) ?_
      exact sm_zret1 ii_mo_readsSpeaker_105 rfl (by decide)
noncomputable def ff_mo_readsSpeaker   (w : sm_Mem) : sm_R := (sm_cI (ff_mo_here  w) fun x11 w12 => (sm_cI (ff_mo_kindOfLetter (x11) w12) fun x13 w14 => (if x13 = (-9 : Int32) then (some (.int (0 : Int32), w14)) else (if (w14.1 62 18) = (6 : Int32) then (some (.int (0 : Int32), w14)) else (sm_let (sm_wI w14 62 15 ((w14.1 62 15) + (1 : Int32))) fun w15 => (sm_cI (ff_mo_figure ((0 : Int32)) ((9 : Int32)) w15) fun x16 w17 => (if x16 = (-9 : Int32) then ff_mo_readsSpeaker_75 (((4 : Int32) * (w.1 62 18))) (x13) ((w15.1 62 15)) (x16) ((-9 : Int32)) w17 else (sm_cI (ff_mo_figure ((0 : Int32)) ((9 : Int32)) w17) fun x18 w19 => ff_mo_readsSpeaker_75 (((4 : Int32) * (w.1 62 18))) (x13) ((w15.1 62 15)) (x16) (x18) w19))))))))
set_option maxHeartbeats 4000000 in
set_option maxRecDepth 100000 in
theorem ss_mo_readsSpeaker_0 {E : Nat × (Nat → Int32)}   (w : sm_Mem) : sm_Sim E (mi_mo_readsSpeaker) 0 [some (.ref 62), none, none, none, none, none, none, none] [] w (ff_mo_readsSpeaker   w) := by
  unfold ff_mo_readsSpeaker
  refine sm_iconst (4 : Int32) ii_mo_readsSpeaker_0 (by decide) ?_
  refine sm_aload_n ii_mo_readsSpeaker_1 rfl ?_
  refine sm_getI ii_mo_readsSpeaker_2 fl_mo_116 (k := 62) rfl ?_
  refine sm_imul ii_mo_readsSpeaker_5 ?_
  refine sm_istore_n [some (.ref 62), some (.int ((4 : Int32) * (w.1 62 18))), none, none, none, none, none, none] ii_mo_readsSpeaker_6 rfl rfl ?_
  refine sm_aload_n ii_mo_readsSpeaker_7 rfl ?_
  refine sm_cvI [] [] rfl ii_mo_readsSpeaker_8 ml_mo_112 (mf_mo_here) (mv_mo_here) (Nat.le_of_ble_eq_true rfl) rfl 7 rfl rfl rfl rfl (mc_mo_here  w) (fun x11 w12 => ?_)
  refine sm_csI [.int x11] [] rfl ii_mo_readsSpeaker_11 ml_mo_119 (mf_mo_kindOfLetter) (mv_mo_kindOfLetter) (Nat.le_of_ble_eq_true rfl) rfl rfl rfl (mc_mo_kindOfLetter (x11) w12) (fun x13 w14 => ?_)
  refine sm_istore_n [some (.ref 62), some (.int ((4 : Int32) * (w.1 62 18))), some (.int x13), none, none, none, none, none] ii_mo_readsSpeaker_14 rfl rfl ?_
  refine sm_iload_n ii_mo_readsSpeaker_15 rfl ?_
  refine sm_bipush (-9 : Int32) ii_mo_readsSpeaker_16 (by decide) ?_
  refine sm_icmp_eq 30 ii_mo_readsSpeaker_18 (by decide) ?_ ?_
  · refine sm_iconst (0 : Int32) ii_mo_readsSpeaker_30 (by decide) ?_
    exact sm_zret1 ii_mo_readsSpeaker_31 rfl (by decide)
  · refine sm_aload_n ii_mo_readsSpeaker_21 rfl ?_
    refine sm_getI ii_mo_readsSpeaker_22 fl_mo_116 (k := 62) rfl ?_
    refine sm_bipush (6 : Int32) ii_mo_readsSpeaker_25 (by decide) ?_
    refine sm_icmp_ne 32 ii_mo_readsSpeaker_27 (by decide) ?_ ?_
    · refine sm_iconst (0 : Int32) ii_mo_readsSpeaker_30 (by decide) ?_
      exact sm_zret1 ii_mo_readsSpeaker_31 rfl (by decide)
    · refine sm_aload_n ii_mo_readsSpeaker_32 rfl ?_
      refine sm_dupR ii_mo_readsSpeaker_33 ?_
      refine sm_getI ii_mo_readsSpeaker_34 fl_mo_106 (k := 62) rfl ?_
      refine sm_iconst (1 : Int32) ii_mo_readsSpeaker_37 (by decide) ?_
      refine sm_iadd ii_mo_readsSpeaker_38 ?_
      refine sm_putI ii_mo_readsSpeaker_39 fp_mo_106 (k := 62) rfl (fun w15 => ?_)
      refine sm_aload_n ii_mo_readsSpeaker_42 rfl ?_
      refine sm_getI ii_mo_readsSpeaker_43 fl_mo_106 (k := 62) rfl ?_
      refine sm_istore_n [some (.ref 62), some (.int ((4 : Int32) * (w.1 62 18))), some (.int x13), some (.int (w15.1 62 15)), none, none, none, none] ii_mo_readsSpeaker_46 rfl rfl ?_
      refine sm_aload_n ii_mo_readsSpeaker_47 rfl ?_
      refine sm_iconst (0 : Int32) ii_mo_readsSpeaker_48 (by decide) ?_
      refine sm_bipush (9 : Int32) ii_mo_readsSpeaker_49 (by decide) ?_
      refine sm_cvI [.int (0 : Int32), .int (9 : Int32)] [] rfl ii_mo_readsSpeaker_51 ml_mo_122 (mf_mo_figure) (mv_mo_figure) (Nat.le_of_ble_eq_true rfl) rfl 7 rfl rfl rfl rfl (mc_mo_figure ((0 : Int32)) ((9 : Int32)) w15) (fun x16 w17 => ?_)
      refine sm_istore [some (.ref 62), some (.int ((4 : Int32) * (w.1 62 18))), some (.int x13), some (.int (w15.1 62 15)), some (.int x16), none, none, none] ii_mo_readsSpeaker_54 rfl rfl ?_
      refine sm_iload ii_mo_readsSpeaker_56 rfl ?_
      refine sm_bipush (-9 : Int32) ii_mo_readsSpeaker_58 (by decide) ?_
      refine sm_icmp_ne 68 ii_mo_readsSpeaker_60 (by decide) ?_ ?_
      · refine sm_bipush (-9 : Int32) ii_mo_readsSpeaker_63 (by decide) ?_
        refine sm_goto 75 ii_mo_readsSpeaker_65 (by decide) ?_
        exact ss_mo_readsSpeaker_75 (((4 : Int32) * (w.1 62 18))) (x13) ((w15.1 62 15)) (x16) ((-9 : Int32)) w17
      · refine sm_aload_n ii_mo_readsSpeaker_68 rfl ?_
        refine sm_iconst (0 : Int32) ii_mo_readsSpeaker_69 (by decide) ?_
        refine sm_bipush (9 : Int32) ii_mo_readsSpeaker_70 (by decide) ?_
        refine sm_cvI [.int (0 : Int32), .int (9 : Int32)] [] rfl ii_mo_readsSpeaker_72 ml_mo_122 (mf_mo_figure) (mv_mo_figure) (Nat.le_of_ble_eq_true rfl) rfl 7 rfl rfl rfl rfl (mc_mo_figure ((0 : Int32)) ((9 : Int32)) w17) (fun x18 w19 => ?_)
        exact ss_mo_readsSpeaker_75 (((4 : Int32) * (w.1 62 18))) (x13) ((w15.1 62 15)) (x16) (x18) w19
set_option maxHeartbeats 4000000 in
set_option maxRecDepth 100000 in
theorem mc_mo_readsSpeaker  (w : sm_Mem) : sm_MC mi_mo_readsSpeaker [.ref 62] w (ff_mo_readsSpeaker  w) := sm_MC_of (0, fun _ => 0) (by decide +kernel) (by decide) rfl (Nat.le_of_ble_eq_true rfl) (ss_mo_readsSpeaker_0  w)
abbrev mi_mo_faultOf : sm_MI := (⟨"HerOrdersModel", "faultOf", "(I)I"⟩, prog_9_method_25_code, 3, (some .int), 4)
set_option maxRecDepth 100000 in
theorem mf_mo_faultOf : sm_MF mi_mo_faultOf 1 := ⟨List.mem_of_getElem? (i := 1103) (by decide +kernel), List.mem_of_getElem? (i := 132) (by decide +kernel), ⟨by decide, by decide⟩, by decide +kernel⟩
set_option maxRecDepth 100000 in
theorem mv_mo_faultOf : sm_MFV mi_mo_faultOf := ⟨List.mem_of_getElem? (i := 1102) (by decide +kernel), List.mem_of_getElem? (i := 78) (by decide +kernel)⟩
set_option maxRecDepth 100000 in
theorem ii_mo_faultOf_0 : sm_D prog_9_method_25_code 0 1 1 (.aload_n 0) := ⟨by decide +kernel, rfl⟩
set_option maxRecDepth 100000 in
theorem ii_mo_faultOf_1 : sm_D prog_9_method_25_code 1 2 3 (.bipush 60) := ⟨by decide +kernel, rfl⟩
set_option maxRecDepth 100000 in
theorem ii_mo_faultOf_3 : sm_D prog_9_method_25_code 3 1 4 (.iload_n 1) := ⟨by decide +kernel, rfl⟩
set_option maxRecDepth 100000 in
theorem ii_mo_faultOf_4 : sm_D prog_9_method_25_code 4 1 5 (.imul) := ⟨by decide +kernel, rfl⟩
set_option maxRecDepth 100000 in
theorem ii_mo_faultOf_5 : sm_D prog_9_method_25_code 5 3 8 (.putfield 103) := ⟨by decide +kernel, rfl⟩
set_option maxRecDepth 100000 in
theorem ii_mo_faultOf_8 : sm_D prog_9_method_25_code 8 1 9 (.aload_n 0) := ⟨by decide +kernel, rfl⟩
set_option maxRecDepth 100000 in
theorem ii_mo_faultOf_9 : sm_D prog_9_method_25_code 9 1 10 (.iconst 0) := ⟨by decide +kernel, rfl⟩
set_option maxRecDepth 100000 in
theorem ii_mo_faultOf_10 : sm_D prog_9_method_25_code 10 3 13 (.putfield 106) := ⟨by decide +kernel, rfl⟩
set_option maxRecDepth 100000 in
theorem ii_mo_faultOf_13 : sm_D prog_9_method_25_code 13 1 14 (.aload_n 0) := ⟨by decide +kernel, rfl⟩
set_option maxRecDepth 100000 in
theorem ii_mo_faultOf_14 : sm_D prog_9_method_25_code 14 1 15 (.aload_n 0) := ⟨by decide +kernel, rfl⟩
set_option maxRecDepth 100000 in
theorem ii_mo_faultOf_15 : sm_D prog_9_method_25_code 15 3 18 (.getfield 28) := ⟨by decide +kernel, rfl⟩
set_option maxRecDepth 100000 in
theorem ii_mo_faultOf_18 : sm_D prog_9_method_25_code 18 1 19 (.iload_n 1) := ⟨by decide +kernel, rfl⟩
set_option maxRecDepth 100000 in
theorem ii_mo_faultOf_19 : sm_D prog_9_method_25_code 19 1 20 (.iaload) := ⟨by decide +kernel, rfl⟩
set_option maxRecDepth 100000 in
theorem ii_mo_faultOf_20 : sm_D prog_9_method_25_code 20 3 23 (.putfield 109) := ⟨by decide +kernel, rfl⟩
set_option maxRecDepth 100000 in
theorem ii_mo_faultOf_23 : sm_D prog_9_method_25_code 23 1 24 (.aload_n 0) := ⟨by decide +kernel, rfl⟩
set_option maxRecDepth 100000 in
theorem ii_mo_faultOf_24 : sm_D prog_9_method_25_code 24 1 25 (.iconst 0) := ⟨by decide +kernel, rfl⟩
set_option maxRecDepth 100000 in
theorem ii_mo_faultOf_25 : sm_D prog_9_method_25_code 25 3 28 (.putfield 116) := ⟨by decide +kernel, rfl⟩
set_option maxRecDepth 100000 in
theorem ii_mo_faultOf_28 : sm_D prog_9_method_25_code 28 1 29 (.iconst 1) := ⟨by decide +kernel, rfl⟩
set_option maxRecDepth 100000 in
theorem ii_mo_faultOf_29 : sm_D prog_9_method_25_code 29 1 30 (.istore_n 2) := ⟨by decide +kernel, rfl⟩
set_option maxRecDepth 100000 in
theorem ii_mo_faultOf_30 : sm_D prog_9_method_25_code 30 1 31 (.aload_n 0) := ⟨by decide +kernel, rfl⟩
set_option maxRecDepth 100000 in
theorem ii_mo_faultOf_31 : sm_D prog_9_method_25_code 31 3 34 (.invokevirtual 125) := ⟨by decide +kernel, rfl⟩
set_option maxRecDepth 100000 in
theorem ii_mo_faultOf_34 : sm_D prog_9_method_25_code 34 1 35 (.iload_n 2) := ⟨by decide +kernel, rfl⟩
set_option maxRecDepth 100000 in
theorem ii_mo_faultOf_35 : sm_D prog_9_method_25_code 35 3 38 (.ifCond .eq 30) := ⟨by decide +kernel, rfl⟩
set_option maxRecDepth 100000 in
theorem ii_mo_faultOf_38 : sm_D prog_9_method_25_code 38 1 39 (.aload_n 0) := ⟨by decide +kernel, rfl⟩
set_option maxRecDepth 100000 in
theorem ii_mo_faultOf_39 : sm_D prog_9_method_25_code 39 3 42 (.getfield 106) := ⟨by decide +kernel, rfl⟩
set_option maxRecDepth 100000 in
theorem ii_mo_faultOf_42 : sm_D prog_9_method_25_code 42 1 43 (.aload_n 0) := ⟨by decide +kernel, rfl⟩
set_option maxRecDepth 100000 in
theorem ii_mo_faultOf_43 : sm_D prog_9_method_25_code 43 3 46 (.getfield 109) := ⟨by decide +kernel, rfl⟩
set_option maxRecDepth 100000 in
theorem ii_mo_faultOf_46 : sm_D prog_9_method_25_code 46 3 49 (.if_icmp .ge 19) := ⟨by decide +kernel, rfl⟩
set_option maxRecDepth 100000 in
theorem ii_mo_faultOf_49 : sm_D prog_9_method_25_code 49 1 50 (.aload_n 0) := ⟨by decide +kernel, rfl⟩
set_option maxRecDepth 100000 in
theorem ii_mo_faultOf_50 : sm_D prog_9_method_25_code 50 3 53 (.invokevirtual 128) := ⟨by decide +kernel, rfl⟩
set_option maxRecDepth 100000 in
theorem ii_mo_faultOf_53 : sm_D prog_9_method_25_code 53 1 54 (.istore_n 2) := ⟨by decide +kernel, rfl⟩
set_option maxRecDepth 100000 in
theorem ii_mo_faultOf_54 : sm_D prog_9_method_25_code 54 1 55 (.iload_n 2) := ⟨by decide +kernel, rfl⟩
set_option maxRecDepth 100000 in
theorem ii_mo_faultOf_55 : sm_D prog_9_method_25_code 55 3 58 (.ifCond .eq (-21)) := ⟨by decide +kernel, rfl⟩
set_option maxRecDepth 100000 in
theorem ii_mo_faultOf_58 : sm_D prog_9_method_25_code 58 1 59 (.aload_n 0) := ⟨by decide +kernel, rfl⟩
set_option maxRecDepth 100000 in
theorem ii_mo_faultOf_59 : sm_D prog_9_method_25_code 59 3 62 (.invokevirtual 125) := ⟨by decide +kernel, rfl⟩
set_option maxRecDepth 100000 in
theorem ii_mo_faultOf_62 : sm_D prog_9_method_25_code 62 3 65 (.goto (-28)) := ⟨by decide +kernel, rfl⟩
set_option maxRecDepth 100000 in
theorem ii_mo_faultOf_65 : sm_D prog_9_method_25_code 65 1 66 (.iload_n 2) := ⟨by decide +kernel, rfl⟩
set_option maxRecDepth 100000 in
theorem ii_mo_faultOf_66 : sm_D prog_9_method_25_code 66 3 69 (.ifCond .eq 15) := ⟨by decide +kernel, rfl⟩
set_option maxRecDepth 100000 in
theorem ii_mo_faultOf_69 : sm_D prog_9_method_25_code 69 1 70 (.aload_n 0) := ⟨by decide +kernel, rfl⟩
set_option maxRecDepth 100000 in
theorem ii_mo_faultOf_70 : sm_D prog_9_method_25_code 70 3 73 (.getfield 116) := ⟨by decide +kernel, rfl⟩
set_option maxRecDepth 100000 in
theorem ii_mo_faultOf_73 : sm_D prog_9_method_25_code 73 3 76 (.ifCond .le 8) := ⟨by decide +kernel, rfl⟩
set_option maxRecDepth 100000 in
theorem ii_mo_faultOf_76 : sm_D prog_9_method_25_code 76 2 78 (.bipush (-9)) := ⟨by decide +kernel, rfl⟩
set_option maxRecDepth 100000 in
theorem ii_mo_faultOf_78 : sm_D prog_9_method_25_code 78 3 81 (.goto 7) := ⟨by decide +kernel, rfl⟩
set_option maxRecDepth 100000 in
theorem ii_mo_faultOf_81 : sm_D prog_9_method_25_code 81 1 82 (.aload_n 0) := ⟨by decide +kernel, rfl⟩
set_option maxRecDepth 100000 in
theorem ii_mo_faultOf_82 : sm_D prog_9_method_25_code 82 3 85 (.getfield 106) := ⟨by decide +kernel, rfl⟩
set_option maxRecDepth 100000 in
theorem ii_mo_faultOf_85 : sm_D prog_9_method_25_code 85 1 86 (.ireturn) := ⟨by decide +kernel, rfl⟩
noncomputable def ff_mo_faultOf_81   (w : sm_Mem) : sm_R := (some (.int (w.1 62 15), w))
set_option maxHeartbeats 4000000 in
set_option maxRecDepth 100000 in
theorem ss_mo_faultOf_81 {E : Nat × (Nat → Int32)}   (w : sm_Mem) : sm_Sim E (mi_mo_faultOf) 81 [some (.ref 62), none, none] [] w (ff_mo_faultOf_81   w) := by
  unfold ff_mo_faultOf_81
  refine sm_aload_n ii_mo_faultOf_81 rfl ?_
  refine sm_getI ii_mo_faultOf_82 fl_mo_106 (k := 62) rfl ?_
  exact sm_iret ii_mo_faultOf_85 rfl
noncomputable def ff_mo_faultOf_65  (a2 : Int32) (w : sm_Mem) : sm_R := (if a2 = (0 : Int32) then ff_mo_faultOf_81  w else (if (w.1 62 18) ≤ (0 : Int32) then ff_mo_faultOf_81  w else (some (.int (-9 : Int32), w))))
set_option maxHeartbeats 4000000 in
set_option maxRecDepth 100000 in
theorem ss_mo_faultOf_65 {E : Nat × (Nat → Int32)}  (a2 : Int32) (w : sm_Mem) : sm_Sim E (mi_mo_faultOf) 65 [some (.ref 62), none, some (.int a2)] [] w (ff_mo_faultOf_65  a2 w) := by
  unfold ff_mo_faultOf_65
  refine sm_iload_n ii_mo_faultOf_65 rfl ?_
  refine sm_if_eq 81 ii_mo_faultOf_66 (by decide) ?_ ?_
  · refine sm_msk [true, false, false] [some (.ref 62), none, none] rfl ?_
    exact ss_mo_faultOf_81  w
  · refine sm_aload_n ii_mo_faultOf_69 rfl ?_
    refine sm_getI ii_mo_faultOf_70 fl_mo_116 (k := 62) rfl ?_
    refine sm_if_le 81 ii_mo_faultOf_73 (by decide) ?_ ?_
    · refine sm_msk [true, false, false] [some (.ref 62), none, none] rfl ?_
      exact ss_mo_faultOf_81  w
    · refine sm_bipush (-9 : Int32) ii_mo_faultOf_76 (by decide) ?_
      refine sm_goto 85 ii_mo_faultOf_78 (by decide) ?_
      exact sm_iret ii_mo_faultOf_85 rfl
noncomputable def ff_mo_faultOf_34_b  (self34 : Int32 → sm_Mem → sm_R) (a2 : Int32) (w : sm_Mem) : sm_R := (if a2 = (0 : Int32) then ff_mo_faultOf_65 (a2) w else (if (w.1 62 16) ≤ (w.1 62 15) then ff_mo_faultOf_65 (a2) w else (sm_cI (ff_mo_readsSpeaker  w) fun x1 w2 => (if x1 = (0 : Int32) then self34 (x1) w2 else (sm_cV (ff_mo_skip  w2) fun w4 => self34 (x1) w4)))))
noncomputable def ff_mo_faultOf_34_f  : Nat → Int32 → sm_Mem → sm_R
  | 0, _, _ => none
  | n + 1, a2, w => ff_mo_faultOf_34_b  (ff_mo_faultOf_34_f  n) a2 w
noncomputable def ff_mo_faultOf_34  (a2 : Int32) (w : sm_Mem) : sm_R := ff_mo_faultOf_34_f  sm_N a2 w
set_option maxHeartbeats 4000000 in
set_option maxRecDepth 100000 in
theorem ss_mo_faultOf_34_b {E : Nat × (Nat → Int32)}  (self34 : Int32 → sm_Mem → sm_R) (hself34 : ∀ (a2 : Int32) (w : sm_Mem), sm_Sim E (mi_mo_faultOf) 34 [some (.ref 62), none, some (.int a2)] [] w (self34 a2 w)) (a2 : Int32) (w : sm_Mem) : sm_Sim E (mi_mo_faultOf) 34 [some (.ref 62), none, some (.int a2)] [] w (ff_mo_faultOf_34_b  self34 a2 w) := by
  unfold ff_mo_faultOf_34_b
  refine sm_iload_n ii_mo_faultOf_34 rfl ?_
  refine sm_if_eq 65 ii_mo_faultOf_35 (by decide) ?_ ?_
  · exact ss_mo_faultOf_65 (a2) w
  · refine sm_aload_n ii_mo_faultOf_38 rfl ?_
    refine sm_getI ii_mo_faultOf_39 fl_mo_106 (k := 62) rfl ?_
    refine sm_aload_n ii_mo_faultOf_42 rfl ?_
    refine sm_getI ii_mo_faultOf_43 fl_mo_109 (k := 62) rfl ?_
    refine sm_icmp_ge 65 ii_mo_faultOf_46 (by decide) ?_ ?_
    · exact ss_mo_faultOf_65 (a2) w
    · refine sm_aload_n ii_mo_faultOf_49 rfl ?_
      refine sm_cvI [] [] rfl ii_mo_faultOf_50 ml_mo_128 (mf_mo_readsSpeaker) (mv_mo_readsSpeaker) (Nat.le_of_ble_eq_true rfl) rfl 7 rfl rfl rfl rfl (mc_mo_readsSpeaker  w) (fun x1 w2 => ?_)
      refine sm_istore_n [some (.ref 62), none, some (.int x1)] ii_mo_faultOf_53 rfl rfl ?_
      refine sm_iload_n ii_mo_faultOf_54 rfl ?_
      refine sm_if_eq 34 ii_mo_faultOf_55 (by decide) ?_ ?_
      · exact hself34 (x1) w2
      · refine sm_aload_n ii_mo_faultOf_58 rfl ?_
        refine sm_cvV [] [] rfl ii_mo_faultOf_59 ml_mo_125 (mf_mo_skip) (mv_mo_skip) (Nat.le_of_ble_eq_true rfl) rfl 7 rfl rfl rfl rfl (mc_mo_skip  w2) (fun w4 => ?_)
        refine sm_goto 34 ii_mo_faultOf_62 (by decide) ?_
        exact hself34 (x1) w4
set_option maxHeartbeats 4000000 in
set_option maxRecDepth 100000 in
theorem ss_mo_faultOf_34_f {E : Nat × (Nat → Int32)}  : ∀ (n : Nat) (a2 : Int32) (w : sm_Mem), sm_Sim E (mi_mo_faultOf) 34 [some (.ref 62), none, some (.int a2)] [] w (ff_mo_faultOf_34_f  n a2 w)
  | 0, _, _ => fun _ _ h => by cases h
  | n + 1, a2, w => ss_mo_faultOf_34_b  _ (ss_mo_faultOf_34_f  n) a2 w
set_option maxHeartbeats 4000000 in
set_option maxRecDepth 100000 in
theorem ss_mo_faultOf_34 {E : Nat × (Nat → Int32)}  (a2 : Int32) (w : sm_Mem) : sm_Sim E (mi_mo_faultOf) 34 [some (.ref 62), none, some (.int a2)] [] w (ff_mo_faultOf_34  a2 w) := ss_mo_faultOf_34_f  sm_N a2 w
noncomputable def ff_mo_faultOf  (a1 : Int32) (w : sm_Mem) : sm_R := (sm_let (sm_wI w 62 14 ((60 : Int32) * a1)) fun w5 => (sm_let (sm_wI w5 62 15 (0 : Int32)) fun w6 => (Option.bind (sm_rd w6 69 4 a1) fun x7 => (sm_let (sm_wI w6 62 16 x7) fun w8 => (sm_let (sm_wI w8 62 18 (0 : Int32)) fun w9 => (sm_cV (ff_mo_skip  w9) fun w11 => ff_mo_faultOf_34 ((1 : Int32)) w11))))))
set_option maxHeartbeats 4000000 in
set_option maxRecDepth 100000 in
theorem ss_mo_faultOf_0 {E : Nat × (Nat → Int32)}  (a1 : Int32) (w : sm_Mem) : sm_Sim E (mi_mo_faultOf) 0 [some (.ref 62), some (.int a1), none] [] w (ff_mo_faultOf  a1 w) := by
  unfold ff_mo_faultOf
  refine sm_aload_n ii_mo_faultOf_0 rfl ?_
  refine sm_bipush (60 : Int32) ii_mo_faultOf_1 (by decide) ?_
  refine sm_iload_n ii_mo_faultOf_3 rfl ?_
  refine sm_imul ii_mo_faultOf_4 ?_
  refine sm_putI ii_mo_faultOf_5 fp_mo_103 (k := 62) rfl (fun w5 => ?_)
  refine sm_aload_n ii_mo_faultOf_8 rfl ?_
  refine sm_iconst (0 : Int32) ii_mo_faultOf_9 (by decide) ?_
  refine sm_putI ii_mo_faultOf_10 fp_mo_106 (k := 62) rfl (fun w6 => ?_)
  refine sm_aload_n ii_mo_faultOf_13 rfl ?_
  refine sm_aload_n ii_mo_faultOf_14 rfl ?_
  refine sm_getR 69 ii_mo_faultOf_15 fl_mo_28 (k := 62) rfl ?_
  refine sm_iload_n ii_mo_faultOf_18 rfl ?_
  refine sm_iald ii_mo_faultOf_19 (k := 69) rfl (fun x7 => ?_)
  refine sm_putI ii_mo_faultOf_20 fp_mo_109 (k := 62) rfl (fun w8 => ?_)
  refine sm_aload_n ii_mo_faultOf_23 rfl ?_
  refine sm_iconst (0 : Int32) ii_mo_faultOf_24 (by decide) ?_
  refine sm_putI ii_mo_faultOf_25 fp_mo_116 (k := 62) rfl (fun w9 => ?_)
  refine sm_iconst (1 : Int32) ii_mo_faultOf_28 (by decide) ?_
  refine sm_istore_n [some (.ref 62), some (.int a1), some (.int (1 : Int32))] ii_mo_faultOf_29 rfl rfl ?_
  refine sm_aload_n ii_mo_faultOf_30 rfl ?_
  refine sm_cvV [] [] rfl ii_mo_faultOf_31 ml_mo_125 (mf_mo_skip) (mv_mo_skip) (Nat.le_of_ble_eq_true rfl) rfl 7 rfl rfl rfl rfl (mc_mo_skip  w9) (fun w11 => ?_)
  refine sm_msk [true, false, true] [some (.ref 62), none, some (.int (1 : Int32))] rfl ?_
  exact ss_mo_faultOf_34 ((1 : Int32)) w11
set_option maxHeartbeats 4000000 in
set_option maxRecDepth 100000 in
theorem mc_mo_faultOf (a1 : Int32) (w : sm_Mem) : sm_MC mi_mo_faultOf [.ref 62, .int a1] w (ff_mo_faultOf a1 w) := sm_MC_of (0, fun _ => 0) (by decide +kernel) (by decide) rfl (Nat.le_of_ble_eq_true rfl) (ss_mo_faultOf_0 a1 w)
abbrev mi_mo_fault : sm_MI := (⟨"HerOrdersModel", "fault", "(I)I"⟩, prog_9_method_26_code, 2, (some .int), 5)
set_option maxRecDepth 100000 in
theorem mf_mo_fault : sm_MF mi_mo_fault 1 := ⟨List.mem_of_getElem? (i := 1099) (by decide +kernel), List.mem_of_getElem? (i := 132) (by decide +kernel), ⟨by decide, by decide⟩, by decide +kernel⟩
set_option maxRecDepth 100000 in
theorem mv_mo_fault : sm_MFV mi_mo_fault := ⟨List.mem_of_getElem? (i := 1097) (by decide +kernel), List.mem_of_getElem? (i := 1098) (by decide +kernel)⟩
set_option maxRecDepth 100000 in
theorem ii_mo_fault_0 : sm_D prog_9_method_26_code 0 1 1 (.iload_n 1) := ⟨by decide +kernel, rfl⟩
set_option maxRecDepth 100000 in
theorem ii_mo_fault_1 : sm_D prog_9_method_26_code 1 3 4 (.invokestatic 100) := ⟨by decide +kernel, rfl⟩
set_option maxRecDepth 100000 in
theorem ii_mo_fault_4 : sm_D prog_9_method_26_code 4 3 7 (.ifCond .ne 5) := ⟨by decide +kernel, rfl⟩
set_option maxRecDepth 100000 in
theorem ii_mo_fault_7 : sm_D prog_9_method_26_code 7 1 8 (.iconst (-1)) := ⟨by decide +kernel, rfl⟩
set_option maxRecDepth 100000 in
theorem ii_mo_fault_8 : sm_D prog_9_method_26_code 8 1 9 (.ireturn) := ⟨by decide +kernel, rfl⟩
set_option maxRecDepth 100000 in
theorem ii_mo_fault_9 : sm_D prog_9_method_26_code 9 1 10 (.aload_n 0) := ⟨by decide +kernel, rfl⟩
set_option maxRecDepth 100000 in
theorem ii_mo_fault_10 : sm_D prog_9_method_26_code 10 3 13 (.getfield 28) := ⟨by decide +kernel, rfl⟩
set_option maxRecDepth 100000 in
theorem ii_mo_fault_13 : sm_D prog_9_method_26_code 13 1 14 (.iload_n 1) := ⟨by decide +kernel, rfl⟩
set_option maxRecDepth 100000 in
theorem ii_mo_fault_14 : sm_D prog_9_method_26_code 14 1 15 (.iaload) := ⟨by decide +kernel, rfl⟩
set_option maxRecDepth 100000 in
theorem ii_mo_fault_15 : sm_D prog_9_method_26_code 15 3 18 (.ifCond .ge 11) := ⟨by decide +kernel, rfl⟩
set_option maxRecDepth 100000 in
theorem ii_mo_fault_18 : sm_D prog_9_method_26_code 18 1 19 (.aload_n 0) := ⟨by decide +kernel, rfl⟩
set_option maxRecDepth 100000 in
theorem ii_mo_fault_19 : sm_D prog_9_method_26_code 19 1 20 (.iconst 1) := ⟨by decide +kernel, rfl⟩
set_option maxRecDepth 100000 in
theorem ii_mo_fault_20 : sm_D prog_9_method_26_code 20 3 23 (.invokevirtual 81) := ⟨by decide +kernel, rfl⟩
set_option maxRecDepth 100000 in
theorem ii_mo_fault_23 : sm_D prog_9_method_26_code 23 3 26 (.goto 8) := ⟨by decide +kernel, rfl⟩
set_option maxRecDepth 100000 in
theorem ii_mo_fault_26 : sm_D prog_9_method_26_code 26 1 27 (.aload_n 0) := ⟨by decide +kernel, rfl⟩
set_option maxRecDepth 100000 in
theorem ii_mo_fault_27 : sm_D prog_9_method_26_code 27 1 28 (.iload_n 1) := ⟨by decide +kernel, rfl⟩
set_option maxRecDepth 100000 in
theorem ii_mo_fault_28 : sm_D prog_9_method_26_code 28 3 31 (.invokevirtual 132) := ⟨by decide +kernel, rfl⟩
set_option maxRecDepth 100000 in
theorem ii_mo_fault_31 : sm_D prog_9_method_26_code 31 1 32 (.ireturn) := ⟨by decide +kernel, rfl⟩
noncomputable def ff_mo_fault  (a1 : Int32) (w : sm_Mem) : sm_R := (sm_cI (ff_mo_isText (a1) w) fun x1 w2 => (if x1 = (0 : Int32) then (some (.int (-1 : Int32), w2)) else (Option.bind (sm_rd w2 69 4 a1) fun x3 => (if (0 : Int32) ≤ x3 then (sm_cI (ff_mo_faultOf (a1) w2) fun x4 w5 => (some (.int x4, w5))) else (sm_cI (ff_mo_find ((1 : Int32)) w2) fun x6 w7 => (some (.int x6, w7)))))))
set_option maxHeartbeats 4000000 in
set_option maxRecDepth 100000 in
theorem ss_mo_fault_0 {E : Nat × (Nat → Int32)}  (a1 : Int32) (w : sm_Mem) : sm_Sim E (mi_mo_fault) 0 [some (.ref 62), some (.int a1)] [] w (ff_mo_fault  a1 w) := by
  unfold ff_mo_fault
  refine sm_iload_n ii_mo_fault_0 rfl ?_
  refine sm_csI [.int a1] [] rfl ii_mo_fault_1 ml_mo_100 (mf_mo_isText) (mv_mo_isText) (Nat.le_of_ble_eq_true rfl) rfl rfl rfl (mc_mo_isText (a1) w) (fun x1 w2 => ?_)
  refine sm_if_ne 9 ii_mo_fault_4 (by decide) ?_ ?_
  · refine sm_iconst (-1 : Int32) ii_mo_fault_7 (by decide) ?_
    exact sm_iret ii_mo_fault_8 rfl
  · refine sm_aload_n ii_mo_fault_9 rfl ?_
    refine sm_getR 69 ii_mo_fault_10 fl_mo_28 (k := 62) rfl ?_
    refine sm_iload_n ii_mo_fault_13 rfl ?_
    refine sm_iald ii_mo_fault_14 (k := 69) rfl (fun x3 => ?_)
    refine sm_if_ge 26 ii_mo_fault_15 (by decide) ?_ ?_
    · refine sm_aload_n ii_mo_fault_26 rfl ?_
      refine sm_iload_n ii_mo_fault_27 rfl ?_
      refine sm_cvI [.int a1] [] rfl ii_mo_fault_28 ml_mo_132 (mf_mo_faultOf) (mv_mo_faultOf) (Nat.le_of_ble_eq_true rfl) rfl 7 rfl rfl rfl rfl (mc_mo_faultOf (a1) w2) (fun x4 w5 => ?_)
      exact sm_iret ii_mo_fault_31 rfl
    · refine sm_aload_n ii_mo_fault_18 rfl ?_
      refine sm_iconst (1 : Int32) ii_mo_fault_19 (by decide) ?_
      refine sm_cvI [.int (1 : Int32)] [] rfl ii_mo_fault_20 ml_mo_81 (mf_mo_find) (mv_mo_find) (Nat.le_of_ble_eq_true rfl) rfl 7 rfl rfl rfl rfl (mc_mo_find ((1 : Int32)) w2) (fun x6 w7 => ?_)
      refine sm_goto 31 ii_mo_fault_23 (by decide) ?_
      exact sm_iret ii_mo_fault_31 rfl
set_option maxHeartbeats 4000000 in
set_option maxRecDepth 100000 in
theorem mc_mo_fault (a1 : Int32) (w : sm_Mem) : sm_MC mi_mo_fault [.ref 62, .int a1] w (ff_mo_fault a1 w) := sm_MC_of (0, fun _ => 0) (by decide +kernel) (by decide) rfl (Nat.le_of_ble_eq_true rfl) (ss_mo_fault_0 a1 w)
abbrev mi_hs_figure : sm_MI := (⟨"HerOrders$House", "figure", "(LHerOrders$Row;I)I"⟩, prog_3_method_3_code, 2, (some .int), 1)
set_option maxRecDepth 100000 in
theorem mf_hs_figure : sm_MF mi_hs_figure 2 := ⟨List.mem_of_getElem? (i := 484) (by decide +kernel), List.mem_of_getElem? (i := 128) (by decide +kernel), ⟨by decide, by decide⟩, by decide +kernel⟩
set_option maxRecDepth 100000 in
theorem mv_hs_figure : sm_MFS mi_hs_figure := List.mem_of_getElem? (i := 483) (by decide +kernel)
set_option maxRecDepth 100000 in
theorem ii_hs_figure_0 : sm_D prog_3_method_3_code 0 1 1 (.aload_n 0) := ⟨by decide +kernel, rfl⟩
set_option maxRecDepth 100000 in
theorem ii_hs_figure_1 : sm_D prog_3_method_3_code 1 3 4 (.getfield 54) := ⟨by decide +kernel, rfl⟩
set_option maxRecDepth 100000 in
theorem ii_hs_figure_4 : sm_D prog_3_method_3_code 4 1 5 (.iload_n 1) := ⟨by decide +kernel, rfl⟩
set_option maxRecDepth 100000 in
theorem ii_hs_figure_5 : sm_D prog_3_method_3_code 5 1 6 (.iaload) := ⟨by decide +kernel, rfl⟩
set_option maxRecDepth 100000 in
theorem ii_hs_figure_6 : sm_D prog_3_method_3_code 6 2 8 (.bipush 48) := ⟨by decide +kernel, rfl⟩
set_option maxRecDepth 100000 in
theorem ii_hs_figure_8 : sm_D prog_3_method_3_code 8 1 9 (.isub) := ⟨by decide +kernel, rfl⟩
set_option maxRecDepth 100000 in
theorem ii_hs_figure_9 : sm_D prog_3_method_3_code 9 1 10 (.ireturn) := ⟨by decide +kernel, rfl⟩
noncomputable def ff_hs_figure  (a0 : Nat) (a1 : Int32) (w : sm_Mem) : sm_R := (Option.bind (sm_fk a0 2 0 2) fun r1 => (Option.bind (sm_rds w r1 a1) fun x2 => (some (.int (x2 - (48 : Int32)), w))))
set_option maxHeartbeats 4000000 in
set_option maxRecDepth 100000 in
theorem ss_hs_figure_0 {E : Nat × (Nat → Int32)}  (a0 : Nat) (a1 : Int32) (w : sm_Mem) : sm_Sim E (mi_hs_figure) 0 [some (.ref a0), some (.int a1)] [] w (ff_hs_figure  a0 a1 w) := by
  unfold ff_hs_figure
  refine sm_aload_n ii_hs_figure_0 rfl ?_
  refine sm_getRs ii_hs_figure_1 fl_hs_54 (fun r1 => ?_)
  refine sm_iload_n ii_hs_figure_4 rfl ?_
  refine sm_ialds ii_hs_figure_5 (fun x2 => ?_)
  refine sm_bipush (48 : Int32) ii_hs_figure_6 (by decide) ?_
  refine sm_isub ii_hs_figure_8 ?_
  exact sm_iret ii_hs_figure_9 rfl
set_option maxHeartbeats 4000000 in
set_option maxRecDepth 100000 in
theorem mc_hs_figure (a0 : Nat) (a1 : Int32) (w : sm_Mem) : sm_MC mi_hs_figure [.ref a0, .int a1] w (ff_hs_figure a0 a1 w) := sm_MC_of (0, fun _ => 0) (by decide +kernel) (by decide) rfl (Nat.le_of_ble_eq_true rfl) (ss_hs_figure_0 a0 a1 w)
abbrev mi_hs_push : sm_MI := (⟨"HerOrders$House", "push", "(II)V"⟩, prog_3_method_9_code, 3, none, 1)
set_option maxRecDepth 100000 in
theorem mf_hs_push : sm_MF mi_hs_push 2 := ⟨List.mem_of_getElem? (i := 496) (by decide +kernel), List.mem_of_getElem? (i := 128) (by decide +kernel), ⟨by decide, by decide⟩, by decide +kernel⟩
set_option maxRecDepth 100000 in
theorem mv_hs_push : sm_MFV mi_hs_push := ⟨List.mem_of_getElem? (i := 495) (by decide +kernel), List.mem_of_getElem? (i := 11) (by decide +kernel)⟩
set_option maxRecDepth 100000 in
theorem ii_hs_push_0 : sm_D prog_3_method_9_code 0 1 1 (.aload_n 0) := ⟨by decide +kernel, rfl⟩
set_option maxRecDepth 100000 in
theorem ii_hs_push_1 : sm_D prog_3_method_9_code 1 3 4 (.getfield 89) := ⟨by decide +kernel, rfl⟩
set_option maxRecDepth 100000 in
theorem ii_hs_push_4 : sm_D prog_3_method_9_code 4 2 6 (.bipush 8) := ⟨by decide +kernel, rfl⟩
set_option maxRecDepth 100000 in
theorem ii_hs_push_6 : sm_D prog_3_method_9_code 6 3 9 (.if_icmp .lt 4) := ⟨by decide +kernel, rfl⟩
set_option maxRecDepth 100000 in
theorem ii_hs_push_9 : sm_D prog_3_method_9_code 9 1 10 (.return_) := ⟨by decide +kernel, rfl⟩
set_option maxRecDepth 100000 in
theorem ii_hs_push_10 : sm_D prog_3_method_9_code 10 1 11 (.aload_n 0) := ⟨by decide +kernel, rfl⟩
set_option maxRecDepth 100000 in
theorem ii_hs_push_11 : sm_D prog_3_method_9_code 11 3 14 (.getfield 30) := ⟨by decide +kernel, rfl⟩
set_option maxRecDepth 100000 in
theorem ii_hs_push_14 : sm_D prog_3_method_9_code 14 1 15 (.aload_n 0) := ⟨by decide +kernel, rfl⟩
set_option maxRecDepth 100000 in
theorem ii_hs_push_15 : sm_D prog_3_method_9_code 15 3 18 (.getfield 89) := ⟨by decide +kernel, rfl⟩
set_option maxRecDepth 100000 in
theorem ii_hs_push_18 : sm_D prog_3_method_9_code 18 1 19 (.iload_n 2) := ⟨by decide +kernel, rfl⟩
set_option maxRecDepth 100000 in
theorem ii_hs_push_19 : sm_D prog_3_method_9_code 19 1 20 (.iastore) := ⟨by decide +kernel, rfl⟩
set_option maxRecDepth 100000 in
theorem ii_hs_push_20 : sm_D prog_3_method_9_code 20 1 21 (.aload_n 0) := ⟨by decide +kernel, rfl⟩
set_option maxRecDepth 100000 in
theorem ii_hs_push_21 : sm_D prog_3_method_9_code 21 3 24 (.getfield 33) := ⟨by decide +kernel, rfl⟩
set_option maxRecDepth 100000 in
theorem ii_hs_push_24 : sm_D prog_3_method_9_code 24 1 25 (.aload_n 0) := ⟨by decide +kernel, rfl⟩
set_option maxRecDepth 100000 in
theorem ii_hs_push_25 : sm_D prog_3_method_9_code 25 3 28 (.getfield 89) := ⟨by decide +kernel, rfl⟩
set_option maxRecDepth 100000 in
theorem ii_hs_push_28 : sm_D prog_3_method_9_code 28 1 29 (.iload_n 1) := ⟨by decide +kernel, rfl⟩
set_option maxRecDepth 100000 in
theorem ii_hs_push_29 : sm_D prog_3_method_9_code 29 1 30 (.iastore) := ⟨by decide +kernel, rfl⟩
set_option maxRecDepth 100000 in
theorem ii_hs_push_30 : sm_D prog_3_method_9_code 30 1 31 (.aload_n 0) := ⟨by decide +kernel, rfl⟩
set_option maxRecDepth 100000 in
theorem ii_hs_push_31 : sm_D prog_3_method_9_code 31 1 32 (.dup) := ⟨by decide +kernel, rfl⟩
set_option maxRecDepth 100000 in
theorem ii_hs_push_32 : sm_D prog_3_method_9_code 32 3 35 (.getfield 89) := ⟨by decide +kernel, rfl⟩
set_option maxRecDepth 100000 in
theorem ii_hs_push_35 : sm_D prog_3_method_9_code 35 1 36 (.iconst 1) := ⟨by decide +kernel, rfl⟩
set_option maxRecDepth 100000 in
theorem ii_hs_push_36 : sm_D prog_3_method_9_code 36 1 37 (.iadd) := ⟨by decide +kernel, rfl⟩
set_option maxRecDepth 100000 in
theorem ii_hs_push_37 : sm_D prog_3_method_9_code 37 3 40 (.putfield 89) := ⟨by decide +kernel, rfl⟩
set_option maxRecDepth 100000 in
theorem ii_hs_push_40 : sm_D prog_3_method_9_code 40 1 41 (.aload_n 0) := ⟨by decide +kernel, rfl⟩
set_option maxRecDepth 100000 in
theorem ii_hs_push_41 : sm_D prog_3_method_9_code 41 3 44 (.getfield 27) := ⟨by decide +kernel, rfl⟩
set_option maxRecDepth 100000 in
theorem ii_hs_push_44 : sm_D prog_3_method_9_code 44 1 45 (.iload_n 1) := ⟨by decide +kernel, rfl⟩
set_option maxRecDepth 100000 in
theorem ii_hs_push_45 : sm_D prog_3_method_9_code 45 1 46 (.dup2) := ⟨by decide +kernel, rfl⟩
set_option maxRecDepth 100000 in
theorem ii_hs_push_46 : sm_D prog_3_method_9_code 46 1 47 (.iaload) := ⟨by decide +kernel, rfl⟩
set_option maxRecDepth 100000 in
theorem ii_hs_push_47 : sm_D prog_3_method_9_code 47 1 48 (.iconst 1) := ⟨by decide +kernel, rfl⟩
set_option maxRecDepth 100000 in
theorem ii_hs_push_48 : sm_D prog_3_method_9_code 48 1 49 (.isub) := ⟨by decide +kernel, rfl⟩
set_option maxRecDepth 100000 in
theorem ii_hs_push_49 : sm_D prog_3_method_9_code 49 1 50 (.iastore) := ⟨by decide +kernel, rfl⟩
set_option maxRecDepth 100000 in
theorem ii_hs_push_50 : sm_D prog_3_method_9_code 50 1 51 (.return_) := ⟨by decide +kernel, rfl⟩
noncomputable def ff_hs_push  (a1 : Int32) (a2 : Int32) (w : sm_Mem) : sm_R := (if (w.1 36 11) < (8 : Int32) then (Option.bind (sm_wr w 43 8 (w.1 36 11) a2) fun w1 => (Option.bind (sm_wr w1 44 8 (w1.1 36 11) a1) fun w2 => (sm_let (sm_wI w2 36 11 ((w2.1 36 11) + (1 : Int32))) fun w3 => (Option.bind (sm_rd w3 42 6 a1) fun x4 => (Option.bind (sm_wr w3 42 6 a1 (x4 - (1 : Int32))) fun w5 => (some (.null, w5))))))) else (some (.null, w)))
set_option maxHeartbeats 4000000 in
set_option maxRecDepth 100000 in
theorem ss_hs_push_0 {E : Nat × (Nat → Int32)}  (a1 : Int32) (a2 : Int32) (w : sm_Mem) : sm_Sim E (mi_hs_push) 0 [some (.ref 36), some (.int a1), some (.int a2)] [] w (ff_hs_push  a1 a2 w) := by
  unfold ff_hs_push
  refine sm_aload_n ii_hs_push_0 rfl ?_
  refine sm_getI ii_hs_push_1 fl_hs_89 (k := 36) rfl ?_
  refine sm_bipush (8 : Int32) ii_hs_push_4 (by decide) ?_
  refine sm_icmp_lt 10 ii_hs_push_6 (by decide) ?_ ?_
  · refine sm_aload_n ii_hs_push_10 rfl ?_
    refine sm_getR 43 ii_hs_push_11 fl_hs_30 (k := 36) rfl ?_
    refine sm_aload_n ii_hs_push_14 rfl ?_
    refine sm_getI ii_hs_push_15 fl_hs_89 (k := 36) rfl ?_
    refine sm_iload_n ii_hs_push_18 rfl ?_
    refine sm_iast ii_hs_push_19 (k := 43) rfl (fun w1 => ?_)
    refine sm_aload_n ii_hs_push_20 rfl ?_
    refine sm_getR 44 ii_hs_push_21 fl_hs_33 (k := 36) rfl ?_
    refine sm_aload_n ii_hs_push_24 rfl ?_
    refine sm_getI ii_hs_push_25 fl_hs_89 (k := 36) rfl ?_
    refine sm_iload_n ii_hs_push_28 rfl ?_
    refine sm_iast ii_hs_push_29 (k := 44) rfl (fun w2 => ?_)
    refine sm_aload_n ii_hs_push_30 rfl ?_
    refine sm_dupR ii_hs_push_31 ?_
    refine sm_getI ii_hs_push_32 fl_hs_89 (k := 36) rfl ?_
    refine sm_iconst (1 : Int32) ii_hs_push_35 (by decide) ?_
    refine sm_iadd ii_hs_push_36 ?_
    refine sm_putI ii_hs_push_37 fp_hs_89 (k := 36) rfl (fun w3 => ?_)
    refine sm_aload_n ii_hs_push_40 rfl ?_
    refine sm_getR 42 ii_hs_push_41 fl_hs_27 (k := 36) rfl ?_
    refine sm_iload_n ii_hs_push_44 rfl ?_
    refine sm_dup2 ii_hs_push_45 ?_
    refine sm_iald ii_hs_push_46 (k := 42) rfl (fun x4 => ?_)
    refine sm_iconst (1 : Int32) ii_hs_push_47 (by decide) ?_
    refine sm_isub ii_hs_push_48 ?_
    refine sm_iast ii_hs_push_49 (k := 42) rfl (fun w5 => ?_)
    exact sm_vret ii_hs_push_50 rfl
  · exact sm_vret ii_hs_push_9 rfl
set_option maxHeartbeats 4000000 in
set_option maxRecDepth 100000 in
theorem mc_hs_push (a1 : Int32) (a2 : Int32) (w : sm_Mem) : sm_MC mi_hs_push [.ref 36, .int a1, .int a2] w (ff_hs_push a1 a2 w) := sm_MC_of (0, fun _ => 0) (by decide +kernel) (by decide) rfl (Nat.le_of_ble_eq_true rfl) (ss_hs_push_0 a1 a2 w)
abbrev mi_hs_perform : sm_MI := (⟨"HerOrders$House", "perform", "(III)V"⟩, prog_3_method_7_code, 5, none, 2)
set_option maxRecDepth 100000 in
theorem mf_hs_perform : sm_MF mi_hs_perform 3 := ⟨List.mem_of_getElem? (i := 492) (by decide +kernel), List.mem_of_getElem? (i := 128) (by decide +kernel), ⟨by decide, by decide⟩, by decide +kernel⟩
set_option maxRecDepth 100000 in
theorem mv_hs_perform : sm_MFV mi_hs_perform := ⟨List.mem_of_getElem? (i := 491) (by decide +kernel), List.mem_of_getElem? (i := 10) (by decide +kernel)⟩
set_option maxRecDepth 100000 in
theorem ii_hs_perform_0 : sm_D prog_3_method_7_code 0 1 1 (.iload_n 1) := ⟨by decide +kernel, rfl⟩
set_option maxRecDepth 100000 in
theorem ii_hs_perform_1 : sm_D prog_3_method_7_code 1 27 28 (.tableswitch 99 0 2 #[27, 36, 54]) := ⟨by decide +kernel, rfl⟩
set_option maxRecDepth 100000 in
theorem ii_hs_perform_28 : sm_D prog_3_method_7_code 28 1 29 (.aload_n 0) := ⟨by decide +kernel, rfl⟩
set_option maxRecDepth 100000 in
theorem ii_hs_perform_29 : sm_D prog_3_method_7_code 29 1 30 (.iload_n 2) := ⟨by decide +kernel, rfl⟩
set_option maxRecDepth 100000 in
theorem ii_hs_perform_30 : sm_D prog_3_method_7_code 30 1 31 (.iload_n 3) := ⟨by decide +kernel, rfl⟩
set_option maxRecDepth 100000 in
theorem ii_hs_perform_31 : sm_D prog_3_method_7_code 31 3 34 (.invokevirtual 90) := ⟨by decide +kernel, rfl⟩
set_option maxRecDepth 100000 in
theorem ii_hs_perform_34 : sm_D prog_3_method_7_code 34 3 37 (.goto 73) := ⟨by decide +kernel, rfl⟩
set_option maxRecDepth 100000 in
theorem ii_hs_perform_37 : sm_D prog_3_method_7_code 37 1 38 (.aload_n 0) := ⟨by decide +kernel, rfl⟩
set_option maxRecDepth 100000 in
theorem ii_hs_perform_38 : sm_D prog_3_method_7_code 38 1 39 (.iconst 0) := ⟨by decide +kernel, rfl⟩
set_option maxRecDepth 100000 in
theorem ii_hs_perform_39 : sm_D prog_3_method_7_code 39 3 42 (.putfield 89) := ⟨by decide +kernel, rfl⟩
set_option maxRecDepth 100000 in
theorem ii_hs_perform_42 : sm_D prog_3_method_7_code 42 1 43 (.aload_n 0) := ⟨by decide +kernel, rfl⟩
set_option maxRecDepth 100000 in
theorem ii_hs_perform_43 : sm_D prog_3_method_7_code 43 1 44 (.dup) := ⟨by decide +kernel, rfl⟩
set_option maxRecDepth 100000 in
theorem ii_hs_perform_44 : sm_D prog_3_method_7_code 44 3 47 (.getfield 94) := ⟨by decide +kernel, rfl⟩
set_option maxRecDepth 100000 in
theorem ii_hs_perform_47 : sm_D prog_3_method_7_code 47 1 48 (.iconst 1) := ⟨by decide +kernel, rfl⟩
set_option maxRecDepth 100000 in
theorem ii_hs_perform_48 : sm_D prog_3_method_7_code 48 1 49 (.iadd) := ⟨by decide +kernel, rfl⟩
set_option maxRecDepth 100000 in
theorem ii_hs_perform_49 : sm_D prog_3_method_7_code 49 3 52 (.putfield 94) := ⟨by decide +kernel, rfl⟩
set_option maxRecDepth 100000 in
theorem ii_hs_perform_52 : sm_D prog_3_method_7_code 52 3 55 (.goto 55) := ⟨by decide +kernel, rfl⟩
set_option maxRecDepth 100000 in
theorem ii_hs_perform_55 : sm_D prog_3_method_7_code 55 1 56 (.aload_n 0) := ⟨by decide +kernel, rfl⟩
set_option maxRecDepth 100000 in
theorem ii_hs_perform_56 : sm_D prog_3_method_7_code 56 1 57 (.dup) := ⟨by decide +kernel, rfl⟩
set_option maxRecDepth 100000 in
theorem ii_hs_perform_57 : sm_D prog_3_method_7_code 57 3 60 (.getfield 97) := ⟨by decide +kernel, rfl⟩
set_option maxRecDepth 100000 in
theorem ii_hs_perform_60 : sm_D prog_3_method_7_code 60 1 61 (.iconst 1) := ⟨by decide +kernel, rfl⟩
set_option maxRecDepth 100000 in
theorem ii_hs_perform_61 : sm_D prog_3_method_7_code 61 1 62 (.iadd) := ⟨by decide +kernel, rfl⟩
set_option maxRecDepth 100000 in
theorem ii_hs_perform_62 : sm_D prog_3_method_7_code 62 3 65 (.putfield 97) := ⟨by decide +kernel, rfl⟩
set_option maxRecDepth 100000 in
theorem ii_hs_perform_65 : sm_D prog_3_method_7_code 65 1 66 (.iconst 0) := ⟨by decide +kernel, rfl⟩
set_option maxRecDepth 100000 in
theorem ii_hs_perform_66 : sm_D prog_3_method_7_code 66 2 68 (.istore 4) := ⟨by decide +kernel, rfl⟩
set_option maxRecDepth 100000 in
theorem ii_hs_perform_68 : sm_D prog_3_method_7_code 68 2 70 (.iload 4) := ⟨by decide +kernel, rfl⟩
set_option maxRecDepth 100000 in
theorem ii_hs_perform_70 : sm_D prog_3_method_7_code 70 1 71 (.aload_n 0) := ⟨by decide +kernel, rfl⟩
set_option maxRecDepth 100000 in
theorem ii_hs_perform_71 : sm_D prog_3_method_7_code 71 3 74 (.getfield 45) := ⟨by decide +kernel, rfl⟩
set_option maxRecDepth 100000 in
theorem ii_hs_perform_74 : sm_D prog_3_method_7_code 74 3 77 (.if_icmp .ge 23) := ⟨by decide +kernel, rfl⟩
set_option maxRecDepth 100000 in
theorem ii_hs_perform_77 : sm_D prog_3_method_7_code 77 1 78 (.aload_n 0) := ⟨by decide +kernel, rfl⟩
set_option maxRecDepth 100000 in
theorem ii_hs_perform_78 : sm_D prog_3_method_7_code 78 3 81 (.getfield 27) := ⟨by decide +kernel, rfl⟩
set_option maxRecDepth 100000 in
theorem ii_hs_perform_81 : sm_D prog_3_method_7_code 81 2 83 (.iload 4) := ⟨by decide +kernel, rfl⟩
set_option maxRecDepth 100000 in
theorem ii_hs_perform_83 : sm_D prog_3_method_7_code 83 1 84 (.aload_n 0) := ⟨by decide +kernel, rfl⟩
set_option maxRecDepth 100000 in
theorem ii_hs_perform_84 : sm_D prog_3_method_7_code 84 3 87 (.getfield 21) := ⟨by decide +kernel, rfl⟩
set_option maxRecDepth 100000 in
theorem ii_hs_perform_87 : sm_D prog_3_method_7_code 87 2 89 (.iload 4) := ⟨by decide +kernel, rfl⟩
set_option maxRecDepth 100000 in
theorem ii_hs_perform_89 : sm_D prog_3_method_7_code 89 1 90 (.iaload) := ⟨by decide +kernel, rfl⟩
set_option maxRecDepth 100000 in
theorem ii_hs_perform_90 : sm_D prog_3_method_7_code 90 1 91 (.iastore) := ⟨by decide +kernel, rfl⟩
set_option maxRecDepth 100000 in
theorem ii_hs_perform_91 : sm_D prog_3_method_7_code 91 3 94 (.iinc 4 1) := ⟨by decide +kernel, rfl⟩
set_option maxRecDepth 100000 in
theorem ii_hs_perform_94 : sm_D prog_3_method_7_code 94 3 97 (.goto (-26)) := ⟨by decide +kernel, rfl⟩
set_option maxRecDepth 100000 in
theorem ii_hs_perform_97 : sm_D prog_3_method_7_code 97 3 100 (.goto 10) := ⟨by decide +kernel, rfl⟩
set_option maxRecDepth 100000 in
theorem ii_hs_perform_100 : sm_D prog_3_method_7_code 100 1 101 (.aload_n 0) := ⟨by decide +kernel, rfl⟩
set_option maxRecDepth 100000 in
theorem ii_hs_perform_101 : sm_D prog_3_method_7_code 101 3 104 (.getfield 24) := ⟨by decide +kernel, rfl⟩
set_option maxRecDepth 100000 in
theorem ii_hs_perform_104 : sm_D prog_3_method_7_code 104 1 105 (.iload_n 2) := ⟨by decide +kernel, rfl⟩
set_option maxRecDepth 100000 in
theorem ii_hs_perform_105 : sm_D prog_3_method_7_code 105 1 106 (.iload_n 3) := ⟨by decide +kernel, rfl⟩
set_option maxRecDepth 100000 in
theorem ii_hs_perform_106 : sm_D prog_3_method_7_code 106 1 107 (.iastore) := ⟨by decide +kernel, rfl⟩
set_option maxRecDepth 100000 in
theorem ii_hs_perform_107 : sm_D prog_3_method_7_code 107 1 108 (.return_) := ⟨by decide +kernel, rfl⟩
noncomputable def ff_hs_perform_68_b  (self68 : Int32 → sm_Mem → sm_R) (a4 : Int32) (w : sm_Mem) : sm_R := (if (w.1 36 0) ≤ a4 then (some (.null, w)) else (Option.bind (sm_rd w 40 6 a4) fun x1 => (Option.bind (sm_wr w 42 6 a4 x1) fun w2 => self68 ((a4 + (1 : Int32))) w2)))
noncomputable def ff_hs_perform_68_f  : Nat → Int32 → sm_Mem → sm_R
  | 0, _, _ => none
  | n + 1, a4, w => ff_hs_perform_68_b  (ff_hs_perform_68_f  n) a4 w
noncomputable def ff_hs_perform_68  (a4 : Int32) (w : sm_Mem) : sm_R := ff_hs_perform_68_f  sm_N a4 w
set_option maxHeartbeats 4000000 in
set_option maxRecDepth 100000 in
theorem ss_hs_perform_68_b {E : Nat × (Nat → Int32)}  (self68 : Int32 → sm_Mem → sm_R) (hself68 : ∀ (a4 : Int32) (w : sm_Mem), sm_Sim E (mi_hs_perform) 68 [some (.ref 36), none, none, none, some (.int a4)] [] w (self68 a4 w)) (a4 : Int32) (w : sm_Mem) : sm_Sim E (mi_hs_perform) 68 [some (.ref 36), none, none, none, some (.int a4)] [] w (ff_hs_perform_68_b  self68 a4 w) := by
  unfold ff_hs_perform_68_b
  refine sm_iload ii_hs_perform_68 rfl ?_
  refine sm_aload_n ii_hs_perform_70 rfl ?_
  refine sm_getI ii_hs_perform_71 fl_hs_45 (k := 36) rfl ?_
  refine sm_icmp_ge 97 ii_hs_perform_74 (by decide) ?_ ?_
  · refine sm_goto 107 ii_hs_perform_97 (by decide) ?_
    exact sm_vret ii_hs_perform_107 rfl
  · refine sm_aload_n ii_hs_perform_77 rfl ?_
    refine sm_getR 42 ii_hs_perform_78 fl_hs_27 (k := 36) rfl ?_
    refine sm_iload ii_hs_perform_81 rfl ?_
    refine sm_aload_n ii_hs_perform_83 rfl ?_
    refine sm_getR 40 ii_hs_perform_84 fl_hs_21 (k := 36) rfl ?_
    refine sm_iload ii_hs_perform_87 rfl ?_
    refine sm_iald ii_hs_perform_89 (k := 40) rfl (fun x1 => ?_)
    refine sm_iast ii_hs_perform_90 (k := 42) rfl (fun w2 => ?_)
    refine sm_iinc (a4 + (1 : Int32)) [some (.ref 36), none, none, none, some (.int (a4 + (1 : Int32)))] ii_hs_perform_91 rfl rfl rfl rfl ?_
    refine sm_goto 68 ii_hs_perform_94 (by decide) ?_
    exact hself68 ((a4 + (1 : Int32))) w2
set_option maxHeartbeats 4000000 in
set_option maxRecDepth 100000 in
theorem ss_hs_perform_68_f {E : Nat × (Nat → Int32)}  : ∀ (n : Nat) (a4 : Int32) (w : sm_Mem), sm_Sim E (mi_hs_perform) 68 [some (.ref 36), none, none, none, some (.int a4)] [] w (ff_hs_perform_68_f  n a4 w)
  | 0, _, _ => fun _ _ h => by cases h
  | n + 1, a4, w => ss_hs_perform_68_b  _ (ss_hs_perform_68_f  n) a4 w
set_option maxHeartbeats 4000000 in
set_option maxRecDepth 100000 in
theorem ss_hs_perform_68 {E : Nat × (Nat → Int32)}  (a4 : Int32) (w : sm_Mem) : sm_Sim E (mi_hs_perform) 68 [some (.ref 36), none, none, none, some (.int a4)] [] w (ff_hs_perform_68  a4 w) := ss_hs_perform_68_f  sm_N a4 w
noncomputable def ff_hs_perform  (a1 : Int32) (a2 : Int32) (a3 : Int32) (w : sm_Mem) : sm_R := (sm_sw a1 (0) [((sm_cV (ff_hs_push (a2) (a3) w) fun w4 => (some (.null, w4)))), ((sm_let (sm_wI w 36 11 (0 : Int32)) fun w5 => (sm_let (sm_wI w5 36 8 ((w5.1 36 8) + (1 : Int32))) fun w6 => (some (.null, w6))))), ((sm_let (sm_wI w 36 7 ((w.1 36 7) + (1 : Int32))) fun w7 => ff_hs_perform_68 ((0 : Int32)) w7))] ((Option.bind (sm_wr w 41 6 a2 a3) fun w8 => (some (.null, w8)))))
set_option maxHeartbeats 4000000 in
set_option maxRecDepth 100000 in
theorem ss_hs_perform_0 {E : Nat × (Nat → Int32)}  (a1 : Int32) (a2 : Int32) (a3 : Int32) (w : sm_Mem) : sm_Sim E (mi_hs_perform) 0 [some (.ref 36), some (.int a1), some (.int a2), some (.int a3), none] [] w (ff_hs_perform  a1 a2 a3 w) := by
  unfold ff_hs_perform
  refine sm_iload_n ii_hs_perform_0 rfl ?_
  refine sm_table [28, 37, 55] 100 ii_hs_perform_1 rfl rfl rfl ⟨?_, ?_, ?_, trivial⟩ ?_
  · refine sm_aload_n ii_hs_perform_28 rfl ?_
    refine sm_iload_n ii_hs_perform_29 rfl ?_
    refine sm_iload_n ii_hs_perform_30 rfl ?_
    refine sm_cvV [.int a2, .int a3] [] rfl ii_hs_perform_31 ml_hs_90 (mf_hs_push) (mv_hs_push) (Nat.le_of_ble_eq_true rfl) rfl 1 rfl rfl rfl rfl (mc_hs_push (a2) (a3) w) (fun w4 => ?_)
    refine sm_goto 107 ii_hs_perform_34 (by decide) ?_
    exact sm_vret ii_hs_perform_107 rfl
  · refine sm_aload_n ii_hs_perform_37 rfl ?_
    refine sm_iconst (0 : Int32) ii_hs_perform_38 (by decide) ?_
    refine sm_putI ii_hs_perform_39 fp_hs_89 (k := 36) rfl (fun w5 => ?_)
    refine sm_aload_n ii_hs_perform_42 rfl ?_
    refine sm_dupR ii_hs_perform_43 ?_
    refine sm_getI ii_hs_perform_44 fl_hs_94 (k := 36) rfl ?_
    refine sm_iconst (1 : Int32) ii_hs_perform_47 (by decide) ?_
    refine sm_iadd ii_hs_perform_48 ?_
    refine sm_putI ii_hs_perform_49 fp_hs_94 (k := 36) rfl (fun w6 => ?_)
    refine sm_goto 107 ii_hs_perform_52 (by decide) ?_
    exact sm_vret ii_hs_perform_107 rfl
  · refine sm_aload_n ii_hs_perform_55 rfl ?_
    refine sm_dupR ii_hs_perform_56 ?_
    refine sm_getI ii_hs_perform_57 fl_hs_97 (k := 36) rfl ?_
    refine sm_iconst (1 : Int32) ii_hs_perform_60 (by decide) ?_
    refine sm_iadd ii_hs_perform_61 ?_
    refine sm_putI ii_hs_perform_62 fp_hs_97 (k := 36) rfl (fun w7 => ?_)
    refine sm_iconst (0 : Int32) ii_hs_perform_65 (by decide) ?_
    refine sm_istore [some (.ref 36), some (.int a1), some (.int a2), some (.int a3), some (.int (0 : Int32))] ii_hs_perform_66 rfl rfl ?_
    refine sm_msk [true, false, false, false, true] [some (.ref 36), none, none, none, some (.int (0 : Int32))] rfl ?_
    exact ss_hs_perform_68 ((0 : Int32)) w7
  · refine sm_aload_n ii_hs_perform_100 rfl ?_
    refine sm_getR 41 ii_hs_perform_101 fl_hs_24 (k := 36) rfl ?_
    refine sm_iload_n ii_hs_perform_104 rfl ?_
    refine sm_iload_n ii_hs_perform_105 rfl ?_
    refine sm_iast ii_hs_perform_106 (k := 41) rfl (fun w8 => ?_)
    exact sm_vret ii_hs_perform_107 rfl
set_option maxHeartbeats 4000000 in
set_option maxRecDepth 100000 in
theorem mc_hs_perform (a1 : Int32) (a2 : Int32) (a3 : Int32) (w : sm_Mem) : sm_MC mi_hs_perform [.ref 36, .int a1, .int a2, .int a3] w (ff_hs_perform a1 a2 a3 w) := sm_MC_of (0, fun _ => 0) (by decide +kernel) (by decide) rfl (Nat.le_of_ble_eq_true rfl) (ss_hs_perform_0 a1 a2 a3 w)
abbrev mi_hs_goBackTo : sm_MI := (⟨"HerOrders$House", "goBackTo", "(I)V"⟩, prog_3_method_8_code, 3, none, 3)
set_option maxRecDepth 100000 in
theorem mf_hs_goBackTo : sm_MF mi_hs_goBackTo 1 := ⟨List.mem_of_getElem? (i := 488) (by decide +kernel), List.mem_of_getElem? (i := 128) (by decide +kernel), ⟨by decide, by decide⟩, by decide +kernel⟩
set_option maxRecDepth 100000 in
theorem mv_hs_goBackTo : sm_MFV mi_hs_goBackTo := ⟨List.mem_of_getElem? (i := 487) (by decide +kernel), List.mem_of_getElem? (i := 9) (by decide +kernel)⟩
set_option maxRecDepth 100000 in
theorem ii_hs_goBackTo_0 : sm_D prog_3_method_8_code 0 1 1 (.aload_n 0) := ⟨by decide +kernel, rfl⟩
set_option maxRecDepth 100000 in
theorem ii_hs_goBackTo_1 : sm_D prog_3_method_8_code 1 1 2 (.iconst 0) := ⟨by decide +kernel, rfl⟩
set_option maxRecDepth 100000 in
theorem ii_hs_goBackTo_2 : sm_D prog_3_method_8_code 2 3 5 (.putfield 97) := ⟨by decide +kernel, rfl⟩
set_option maxRecDepth 100000 in
theorem ii_hs_goBackTo_5 : sm_D prog_3_method_8_code 5 1 6 (.aload_n 0) := ⟨by decide +kernel, rfl⟩
set_option maxRecDepth 100000 in
theorem ii_hs_goBackTo_6 : sm_D prog_3_method_8_code 6 1 7 (.iconst 0) := ⟨by decide +kernel, rfl⟩
set_option maxRecDepth 100000 in
theorem ii_hs_goBackTo_7 : sm_D prog_3_method_8_code 7 3 10 (.putfield 94) := ⟨by decide +kernel, rfl⟩
set_option maxRecDepth 100000 in
theorem ii_hs_goBackTo_10 : sm_D prog_3_method_8_code 10 1 11 (.aload_n 0) := ⟨by decide +kernel, rfl⟩
set_option maxRecDepth 100000 in
theorem ii_hs_goBackTo_11 : sm_D prog_3_method_8_code 11 1 12 (.iconst 0) := ⟨by decide +kernel, rfl⟩
set_option maxRecDepth 100000 in
theorem ii_hs_goBackTo_12 : sm_D prog_3_method_8_code 12 3 15 (.putfield 89) := ⟨by decide +kernel, rfl⟩
set_option maxRecDepth 100000 in
theorem ii_hs_goBackTo_15 : sm_D prog_3_method_8_code 15 1 16 (.iconst 0) := ⟨by decide +kernel, rfl⟩
set_option maxRecDepth 100000 in
theorem ii_hs_goBackTo_16 : sm_D prog_3_method_8_code 16 1 17 (.istore_n 2) := ⟨by decide +kernel, rfl⟩
set_option maxRecDepth 100000 in
theorem ii_hs_goBackTo_17 : sm_D prog_3_method_8_code 17 1 18 (.iload_n 2) := ⟨by decide +kernel, rfl⟩
set_option maxRecDepth 100000 in
theorem ii_hs_goBackTo_18 : sm_D prog_3_method_8_code 18 1 19 (.aload_n 0) := ⟨by decide +kernel, rfl⟩
set_option maxRecDepth 100000 in
theorem ii_hs_goBackTo_19 : sm_D prog_3_method_8_code 19 3 22 (.getfield 45) := ⟨by decide +kernel, rfl⟩
set_option maxRecDepth 100000 in
theorem ii_hs_goBackTo_22 : sm_D prog_3_method_8_code 22 3 25 (.if_icmp .ge 33) := ⟨by decide +kernel, rfl⟩
set_option maxRecDepth 100000 in
theorem ii_hs_goBackTo_25 : sm_D prog_3_method_8_code 25 1 26 (.aload_n 0) := ⟨by decide +kernel, rfl⟩
set_option maxRecDepth 100000 in
theorem ii_hs_goBackTo_26 : sm_D prog_3_method_8_code 26 3 29 (.getfield 24) := ⟨by decide +kernel, rfl⟩
set_option maxRecDepth 100000 in
theorem ii_hs_goBackTo_29 : sm_D prog_3_method_8_code 29 1 30 (.iload_n 2) := ⟨by decide +kernel, rfl⟩
set_option maxRecDepth 100000 in
theorem ii_hs_goBackTo_30 : sm_D prog_3_method_8_code 30 1 31 (.aload_n 0) := ⟨by decide +kernel, rfl⟩
set_option maxRecDepth 100000 in
theorem ii_hs_goBackTo_31 : sm_D prog_3_method_8_code 31 3 34 (.getfield 18) := ⟨by decide +kernel, rfl⟩
set_option maxRecDepth 100000 in
theorem ii_hs_goBackTo_34 : sm_D prog_3_method_8_code 34 1 35 (.iload_n 2) := ⟨by decide +kernel, rfl⟩
set_option maxRecDepth 100000 in
theorem ii_hs_goBackTo_35 : sm_D prog_3_method_8_code 35 1 36 (.iaload) := ⟨by decide +kernel, rfl⟩
set_option maxRecDepth 100000 in
theorem ii_hs_goBackTo_36 : sm_D prog_3_method_8_code 36 1 37 (.iastore) := ⟨by decide +kernel, rfl⟩
set_option maxRecDepth 100000 in
theorem ii_hs_goBackTo_37 : sm_D prog_3_method_8_code 37 1 38 (.aload_n 0) := ⟨by decide +kernel, rfl⟩
set_option maxRecDepth 100000 in
theorem ii_hs_goBackTo_38 : sm_D prog_3_method_8_code 38 3 41 (.getfield 27) := ⟨by decide +kernel, rfl⟩
set_option maxRecDepth 100000 in
theorem ii_hs_goBackTo_41 : sm_D prog_3_method_8_code 41 1 42 (.iload_n 2) := ⟨by decide +kernel, rfl⟩
set_option maxRecDepth 100000 in
theorem ii_hs_goBackTo_42 : sm_D prog_3_method_8_code 42 1 43 (.aload_n 0) := ⟨by decide +kernel, rfl⟩
set_option maxRecDepth 100000 in
theorem ii_hs_goBackTo_43 : sm_D prog_3_method_8_code 43 3 46 (.getfield 21) := ⟨by decide +kernel, rfl⟩
set_option maxRecDepth 100000 in
theorem ii_hs_goBackTo_46 : sm_D prog_3_method_8_code 46 1 47 (.iload_n 2) := ⟨by decide +kernel, rfl⟩
set_option maxRecDepth 100000 in
theorem ii_hs_goBackTo_47 : sm_D prog_3_method_8_code 47 1 48 (.iaload) := ⟨by decide +kernel, rfl⟩
set_option maxRecDepth 100000 in
theorem ii_hs_goBackTo_48 : sm_D prog_3_method_8_code 48 1 49 (.iastore) := ⟨by decide +kernel, rfl⟩
set_option maxRecDepth 100000 in
theorem ii_hs_goBackTo_49 : sm_D prog_3_method_8_code 49 3 52 (.iinc 2 1) := ⟨by decide +kernel, rfl⟩
set_option maxRecDepth 100000 in
theorem ii_hs_goBackTo_52 : sm_D prog_3_method_8_code 52 3 55 (.goto (-35)) := ⟨by decide +kernel, rfl⟩
set_option maxRecDepth 100000 in
theorem ii_hs_goBackTo_55 : sm_D prog_3_method_8_code 55 1 56 (.aload_n 0) := ⟨by decide +kernel, rfl⟩
set_option maxRecDepth 100000 in
theorem ii_hs_goBackTo_56 : sm_D prog_3_method_8_code 56 3 59 (.getfield 41) := ⟨by decide +kernel, rfl⟩
set_option maxRecDepth 100000 in
theorem ii_hs_goBackTo_59 : sm_D prog_3_method_8_code 59 1 60 (.iload_n 1) := ⟨by decide +kernel, rfl⟩
set_option maxRecDepth 100000 in
theorem ii_hs_goBackTo_60 : sm_D prog_3_method_8_code 60 3 63 (.putfield 68) := ⟨by decide +kernel, rfl⟩
set_option maxRecDepth 100000 in
theorem ii_hs_goBackTo_63 : sm_D prog_3_method_8_code 63 1 64 (.iconst 0) := ⟨by decide +kernel, rfl⟩
set_option maxRecDepth 100000 in
theorem ii_hs_goBackTo_64 : sm_D prog_3_method_8_code 64 1 65 (.istore_n 2) := ⟨by decide +kernel, rfl⟩
set_option maxRecDepth 100000 in
theorem ii_hs_goBackTo_65 : sm_D prog_3_method_8_code 65 1 66 (.iload_n 2) := ⟨by decide +kernel, rfl⟩
set_option maxRecDepth 100000 in
theorem ii_hs_goBackTo_66 : sm_D prog_3_method_8_code 66 1 67 (.iload_n 1) := ⟨by decide +kernel, rfl⟩
set_option maxRecDepth 100000 in
theorem ii_hs_goBackTo_67 : sm_D prog_3_method_8_code 67 3 70 (.if_icmp .ge 40) := ⟨by decide +kernel, rfl⟩
set_option maxRecDepth 100000 in
theorem ii_hs_goBackTo_70 : sm_D prog_3_method_8_code 70 1 71 (.aload_n 0) := ⟨by decide +kernel, rfl⟩
set_option maxRecDepth 100000 in
theorem ii_hs_goBackTo_71 : sm_D prog_3_method_8_code 71 1 72 (.aload_n 0) := ⟨by decide +kernel, rfl⟩
set_option maxRecDepth 100000 in
theorem ii_hs_goBackTo_72 : sm_D prog_3_method_8_code 72 3 75 (.getfield 41) := ⟨by decide +kernel, rfl⟩
set_option maxRecDepth 100000 in
theorem ii_hs_goBackTo_75 : sm_D prog_3_method_8_code 75 3 78 (.getfield 100) := ⟨by decide +kernel, rfl⟩
set_option maxRecDepth 100000 in
theorem ii_hs_goBackTo_78 : sm_D prog_3_method_8_code 78 1 79 (.iload_n 2) := ⟨by decide +kernel, rfl⟩
set_option maxRecDepth 100000 in
theorem ii_hs_goBackTo_79 : sm_D prog_3_method_8_code 79 1 80 (.iaload) := ⟨by decide +kernel, rfl⟩
set_option maxRecDepth 100000 in
theorem ii_hs_goBackTo_80 : sm_D prog_3_method_8_code 80 1 81 (.aload_n 0) := ⟨by decide +kernel, rfl⟩
set_option maxRecDepth 100000 in
theorem ii_hs_goBackTo_81 : sm_D prog_3_method_8_code 81 3 84 (.getfield 41) := ⟨by decide +kernel, rfl⟩
set_option maxRecDepth 100000 in
theorem ii_hs_goBackTo_84 : sm_D prog_3_method_8_code 84 3 87 (.getfield 103) := ⟨by decide +kernel, rfl⟩
set_option maxRecDepth 100000 in
theorem ii_hs_goBackTo_87 : sm_D prog_3_method_8_code 87 1 88 (.iload_n 2) := ⟨by decide +kernel, rfl⟩
set_option maxRecDepth 100000 in
theorem ii_hs_goBackTo_88 : sm_D prog_3_method_8_code 88 1 89 (.iaload) := ⟨by decide +kernel, rfl⟩
set_option maxRecDepth 100000 in
theorem ii_hs_goBackTo_89 : sm_D prog_3_method_8_code 89 1 90 (.aload_n 0) := ⟨by decide +kernel, rfl⟩
set_option maxRecDepth 100000 in
theorem ii_hs_goBackTo_90 : sm_D prog_3_method_8_code 90 3 93 (.getfield 41) := ⟨by decide +kernel, rfl⟩
set_option maxRecDepth 100000 in
theorem ii_hs_goBackTo_93 : sm_D prog_3_method_8_code 93 3 96 (.getfield 106) := ⟨by decide +kernel, rfl⟩
set_option maxRecDepth 100000 in
theorem ii_hs_goBackTo_96 : sm_D prog_3_method_8_code 96 1 97 (.iload_n 2) := ⟨by decide +kernel, rfl⟩
set_option maxRecDepth 100000 in
theorem ii_hs_goBackTo_97 : sm_D prog_3_method_8_code 97 1 98 (.iaload) := ⟨by decide +kernel, rfl⟩
set_option maxRecDepth 100000 in
theorem ii_hs_goBackTo_98 : sm_D prog_3_method_8_code 98 3 101 (.invokevirtual 73) := ⟨by decide +kernel, rfl⟩
set_option maxRecDepth 100000 in
theorem ii_hs_goBackTo_101 : sm_D prog_3_method_8_code 101 3 104 (.iinc 2 1) := ⟨by decide +kernel, rfl⟩
set_option maxRecDepth 100000 in
theorem ii_hs_goBackTo_104 : sm_D prog_3_method_8_code 104 3 107 (.goto (-39)) := ⟨by decide +kernel, rfl⟩
set_option maxRecDepth 100000 in
theorem ii_hs_goBackTo_107 : sm_D prog_3_method_8_code 107 1 108 (.return_) := ⟨by decide +kernel, rfl⟩
noncomputable def ff_hs_goBackTo_65_b  (self65 : Int32 → Int32 → sm_Mem → sm_R) (a1 : Int32) (a2 : Int32) (w : sm_Mem) : sm_R := (if a1 ≤ a2 then (some (.null, w)) else (Option.bind (sm_rd w 46 40 a2) fun x1 => (Option.bind (sm_rd w 47 40 a2) fun x2 => (Option.bind (sm_rd w 48 40 a2) fun x3 => (sm_cV (ff_hs_perform (x1) (x2) (x3) w) fun w5 => self65 (a1) ((a2 + (1 : Int32))) w5)))))
noncomputable def ff_hs_goBackTo_65_f  : Nat → Int32 → Int32 → sm_Mem → sm_R
  | 0, _, _, _ => none
  | n + 1, a1, a2, w => ff_hs_goBackTo_65_b  (ff_hs_goBackTo_65_f  n) a1 a2 w
noncomputable def ff_hs_goBackTo_65  (a1 : Int32) (a2 : Int32) (w : sm_Mem) : sm_R := ff_hs_goBackTo_65_f  sm_N a1 a2 w
set_option maxHeartbeats 4000000 in
set_option maxRecDepth 100000 in
theorem ss_hs_goBackTo_65_b {E : Nat × (Nat → Int32)}  (self65 : Int32 → Int32 → sm_Mem → sm_R) (hself65 : ∀ (a1 : Int32) (a2 : Int32) (w : sm_Mem), sm_Sim E (mi_hs_goBackTo) 65 [some (.ref 36), some (.int a1), some (.int a2)] [] w (self65 a1 a2 w)) (a1 : Int32) (a2 : Int32) (w : sm_Mem) : sm_Sim E (mi_hs_goBackTo) 65 [some (.ref 36), some (.int a1), some (.int a2)] [] w (ff_hs_goBackTo_65_b  self65 a1 a2 w) := by
  unfold ff_hs_goBackTo_65_b
  refine sm_iload_n ii_hs_goBackTo_65 rfl ?_
  refine sm_iload_n ii_hs_goBackTo_66 rfl ?_
  refine sm_icmp_ge 107 ii_hs_goBackTo_67 (by decide) ?_ ?_
  · exact sm_vret ii_hs_goBackTo_107 rfl
  · refine sm_aload_n ii_hs_goBackTo_70 rfl ?_
    refine sm_aload_n ii_hs_goBackTo_71 rfl ?_
    refine sm_getR 45 ii_hs_goBackTo_72 fl_hs_41 (k := 36) rfl ?_
    refine sm_getR 46 ii_hs_goBackTo_75 fl_hs_100 (k := 45) rfl ?_
    refine sm_iload_n ii_hs_goBackTo_78 rfl ?_
    refine sm_iald ii_hs_goBackTo_79 (k := 46) rfl (fun x1 => ?_)
    refine sm_aload_n ii_hs_goBackTo_80 rfl ?_
    refine sm_getR 45 ii_hs_goBackTo_81 fl_hs_41 (k := 36) rfl ?_
    refine sm_getR 47 ii_hs_goBackTo_84 fl_hs_103 (k := 45) rfl ?_
    refine sm_iload_n ii_hs_goBackTo_87 rfl ?_
    refine sm_iald ii_hs_goBackTo_88 (k := 47) rfl (fun x2 => ?_)
    refine sm_aload_n ii_hs_goBackTo_89 rfl ?_
    refine sm_getR 45 ii_hs_goBackTo_90 fl_hs_41 (k := 36) rfl ?_
    refine sm_getR 48 ii_hs_goBackTo_93 fl_hs_106 (k := 45) rfl ?_
    refine sm_iload_n ii_hs_goBackTo_96 rfl ?_
    refine sm_iald ii_hs_goBackTo_97 (k := 48) rfl (fun x3 => ?_)
    refine sm_cvV [.int x1, .int x2, .int x3] [] rfl ii_hs_goBackTo_98 ml_hs_73 (mf_hs_perform) (mv_hs_perform) (Nat.le_of_ble_eq_true rfl) rfl 1 rfl rfl rfl rfl (mc_hs_perform (x1) (x2) (x3) w) (fun w5 => ?_)
    refine sm_iinc (a2 + (1 : Int32)) [some (.ref 36), some (.int a1), some (.int (a2 + (1 : Int32)))] ii_hs_goBackTo_101 rfl rfl rfl rfl ?_
    refine sm_goto 65 ii_hs_goBackTo_104 (by decide) ?_
    exact hself65 (a1) ((a2 + (1 : Int32))) w5
set_option maxHeartbeats 4000000 in
set_option maxRecDepth 100000 in
theorem ss_hs_goBackTo_65_f {E : Nat × (Nat → Int32)}  : ∀ (n : Nat) (a1 : Int32) (a2 : Int32) (w : sm_Mem), sm_Sim E (mi_hs_goBackTo) 65 [some (.ref 36), some (.int a1), some (.int a2)] [] w (ff_hs_goBackTo_65_f  n a1 a2 w)
  | 0, _, _, _ => fun _ _ h => by cases h
  | n + 1, a1, a2, w => ss_hs_goBackTo_65_b  _ (ss_hs_goBackTo_65_f  n) a1 a2 w
set_option maxHeartbeats 4000000 in
set_option maxRecDepth 100000 in
theorem ss_hs_goBackTo_65 {E : Nat × (Nat → Int32)}  (a1 : Int32) (a2 : Int32) (w : sm_Mem) : sm_Sim E (mi_hs_goBackTo) 65 [some (.ref 36), some (.int a1), some (.int a2)] [] w (ff_hs_goBackTo_65  a1 a2 w) := ss_hs_goBackTo_65_f  sm_N a1 a2 w
noncomputable def ff_hs_goBackTo_17_b  (self17 : Int32 → Int32 → sm_Mem → sm_R) (a1 : Int32) (a2 : Int32) (w : sm_Mem) : sm_R := (if (w.1 36 0) ≤ a2 then (sm_let (sm_wI w 45 3 a1) fun w6 => ff_hs_goBackTo_65 (a1) ((0 : Int32)) w6) else (Option.bind (sm_rd w 39 6 a2) fun x7 => (Option.bind (sm_wr w 41 6 a2 x7) fun w8 => (Option.bind (sm_rd w8 40 6 a2) fun x9 => (Option.bind (sm_wr w8 42 6 a2 x9) fun w10 => self17 (a1) ((a2 + (1 : Int32))) w10)))))
noncomputable def ff_hs_goBackTo_17_f  : Nat → Int32 → Int32 → sm_Mem → sm_R
  | 0, _, _, _ => none
  | n + 1, a1, a2, w => ff_hs_goBackTo_17_b  (ff_hs_goBackTo_17_f  n) a1 a2 w
noncomputable def ff_hs_goBackTo_17  (a1 : Int32) (a2 : Int32) (w : sm_Mem) : sm_R := ff_hs_goBackTo_17_f  sm_N a1 a2 w
set_option maxHeartbeats 4000000 in
set_option maxRecDepth 100000 in
theorem ss_hs_goBackTo_17_b {E : Nat × (Nat → Int32)}  (self17 : Int32 → Int32 → sm_Mem → sm_R) (hself17 : ∀ (a1 : Int32) (a2 : Int32) (w : sm_Mem), sm_Sim E (mi_hs_goBackTo) 17 [some (.ref 36), some (.int a1), some (.int a2)] [] w (self17 a1 a2 w)) (a1 : Int32) (a2 : Int32) (w : sm_Mem) : sm_Sim E (mi_hs_goBackTo) 17 [some (.ref 36), some (.int a1), some (.int a2)] [] w (ff_hs_goBackTo_17_b  self17 a1 a2 w) := by
  unfold ff_hs_goBackTo_17_b
  refine sm_iload_n ii_hs_goBackTo_17 rfl ?_
  refine sm_aload_n ii_hs_goBackTo_18 rfl ?_
  refine sm_getI ii_hs_goBackTo_19 fl_hs_45 (k := 36) rfl ?_
  refine sm_icmp_ge 55 ii_hs_goBackTo_22 (by decide) ?_ ?_
  · refine sm_aload_n ii_hs_goBackTo_55 rfl ?_
    refine sm_getR 45 ii_hs_goBackTo_56 fl_hs_41 (k := 36) rfl ?_
    refine sm_iload_n ii_hs_goBackTo_59 rfl ?_
    refine sm_putI ii_hs_goBackTo_60 fp_hs_68 (k := 45) rfl (fun w6 => ?_)
    refine sm_iconst (0 : Int32) ii_hs_goBackTo_63 (by decide) ?_
    refine sm_istore_n [some (.ref 36), some (.int a1), some (.int (0 : Int32))] ii_hs_goBackTo_64 rfl rfl ?_
    exact ss_hs_goBackTo_65 (a1) ((0 : Int32)) w6
  · refine sm_aload_n ii_hs_goBackTo_25 rfl ?_
    refine sm_getR 41 ii_hs_goBackTo_26 fl_hs_24 (k := 36) rfl ?_
    refine sm_iload_n ii_hs_goBackTo_29 rfl ?_
    refine sm_aload_n ii_hs_goBackTo_30 rfl ?_
    refine sm_getR 39 ii_hs_goBackTo_31 fl_hs_18 (k := 36) rfl ?_
    refine sm_iload_n ii_hs_goBackTo_34 rfl ?_
    refine sm_iald ii_hs_goBackTo_35 (k := 39) rfl (fun x7 => ?_)
    refine sm_iast ii_hs_goBackTo_36 (k := 41) rfl (fun w8 => ?_)
    refine sm_aload_n ii_hs_goBackTo_37 rfl ?_
    refine sm_getR 42 ii_hs_goBackTo_38 fl_hs_27 (k := 36) rfl ?_
    refine sm_iload_n ii_hs_goBackTo_41 rfl ?_
    refine sm_aload_n ii_hs_goBackTo_42 rfl ?_
    refine sm_getR 40 ii_hs_goBackTo_43 fl_hs_21 (k := 36) rfl ?_
    refine sm_iload_n ii_hs_goBackTo_46 rfl ?_
    refine sm_iald ii_hs_goBackTo_47 (k := 40) rfl (fun x9 => ?_)
    refine sm_iast ii_hs_goBackTo_48 (k := 42) rfl (fun w10 => ?_)
    refine sm_iinc (a2 + (1 : Int32)) [some (.ref 36), some (.int a1), some (.int (a2 + (1 : Int32)))] ii_hs_goBackTo_49 rfl rfl rfl rfl ?_
    refine sm_goto 17 ii_hs_goBackTo_52 (by decide) ?_
    exact hself17 (a1) ((a2 + (1 : Int32))) w10
set_option maxHeartbeats 4000000 in
set_option maxRecDepth 100000 in
theorem ss_hs_goBackTo_17_f {E : Nat × (Nat → Int32)}  : ∀ (n : Nat) (a1 : Int32) (a2 : Int32) (w : sm_Mem), sm_Sim E (mi_hs_goBackTo) 17 [some (.ref 36), some (.int a1), some (.int a2)] [] w (ff_hs_goBackTo_17_f  n a1 a2 w)
  | 0, _, _, _ => fun _ _ h => by cases h
  | n + 1, a1, a2, w => ss_hs_goBackTo_17_b  _ (ss_hs_goBackTo_17_f  n) a1 a2 w
set_option maxHeartbeats 4000000 in
set_option maxRecDepth 100000 in
theorem ss_hs_goBackTo_17 {E : Nat × (Nat → Int32)}  (a1 : Int32) (a2 : Int32) (w : sm_Mem) : sm_Sim E (mi_hs_goBackTo) 17 [some (.ref 36), some (.int a1), some (.int a2)] [] w (ff_hs_goBackTo_17  a1 a2 w) := ss_hs_goBackTo_17_f  sm_N a1 a2 w
noncomputable def ff_hs_goBackTo  (a1 : Int32) (w : sm_Mem) : sm_R := (sm_let (sm_wI w 36 7 (0 : Int32)) fun w11 => (sm_let (sm_wI w11 36 8 (0 : Int32)) fun w12 => (sm_let (sm_wI w12 36 11 (0 : Int32)) fun w13 => ff_hs_goBackTo_17 (a1) ((0 : Int32)) w13)))
set_option maxHeartbeats 4000000 in
set_option maxRecDepth 100000 in
theorem ss_hs_goBackTo_0 {E : Nat × (Nat → Int32)}  (a1 : Int32) (w : sm_Mem) : sm_Sim E (mi_hs_goBackTo) 0 [some (.ref 36), some (.int a1), none] [] w (ff_hs_goBackTo  a1 w) := by
  unfold ff_hs_goBackTo
  refine sm_aload_n ii_hs_goBackTo_0 rfl ?_
  refine sm_iconst (0 : Int32) ii_hs_goBackTo_1 (by decide) ?_
  refine sm_putI ii_hs_goBackTo_2 fp_hs_97 (k := 36) rfl (fun w11 => ?_)
  refine sm_aload_n ii_hs_goBackTo_5 rfl ?_
  refine sm_iconst (0 : Int32) ii_hs_goBackTo_6 (by decide) ?_
  refine sm_putI ii_hs_goBackTo_7 fp_hs_94 (k := 36) rfl (fun w12 => ?_)
  refine sm_aload_n ii_hs_goBackTo_10 rfl ?_
  refine sm_iconst (0 : Int32) ii_hs_goBackTo_11 (by decide) ?_
  refine sm_putI ii_hs_goBackTo_12 fp_hs_89 (k := 36) rfl (fun w13 => ?_)
  refine sm_iconst (0 : Int32) ii_hs_goBackTo_15 (by decide) ?_
  refine sm_istore_n [some (.ref 36), some (.int a1), some (.int (0 : Int32))] ii_hs_goBackTo_16 rfl rfl ?_
  exact ss_hs_goBackTo_17 (a1) ((0 : Int32)) w13
set_option maxHeartbeats 4000000 in
set_option maxRecDepth 100000 in
theorem mc_hs_goBackTo (a1 : Int32) (w : sm_Mem) : sm_MC mi_hs_goBackTo [.ref 36, .int a1] w (ff_hs_goBackTo a1 w) := sm_MC_of (0, fun _ => 0) (by decide +kernel) (by decide) rfl (Nat.le_of_ble_eq_true rfl) (ss_hs_goBackTo_0 a1 w)
abbrev mi_hs_settle : sm_MI := (⟨"HerOrders$House", "settle", "(LHerOrders$Row;)V"⟩, prog_3_method_2_code, 3, none, 4)
set_option maxRecDepth 100000 in
theorem mf_hs_settle : sm_MF mi_hs_settle 1 := ⟨List.mem_of_getElem? (i := 480) (by decide +kernel), List.mem_of_getElem? (i := 128) (by decide +kernel), ⟨by decide, by decide⟩, by decide +kernel⟩
set_option maxRecDepth 100000 in
theorem mv_hs_settle : sm_MFV mi_hs_settle := ⟨List.mem_of_getElem? (i := 479) (by decide +kernel), List.mem_of_getElem? (i := 8) (by decide +kernel)⟩
set_option maxRecDepth 100000 in
theorem ii_hs_settle_0 : sm_D prog_3_method_2_code 0 1 1 (.aload_n 0) := ⟨by decide +kernel, rfl⟩
set_option maxRecDepth 100000 in
theorem ii_hs_settle_1 : sm_D prog_3_method_2_code 1 1 2 (.iconst 0) := ⟨by decide +kernel, rfl⟩
set_option maxRecDepth 100000 in
theorem ii_hs_settle_2 : sm_D prog_3_method_2_code 2 3 5 (.putfield 45) := ⟨by decide +kernel, rfl⟩
set_option maxRecDepth 100000 in
theorem ii_hs_settle_5 : sm_D prog_3_method_2_code 5 1 6 (.iconst 0) := ⟨by decide +kernel, rfl⟩
set_option maxRecDepth 100000 in
theorem ii_hs_settle_6 : sm_D prog_3_method_2_code 6 1 7 (.istore_n 2) := ⟨by decide +kernel, rfl⟩
set_option maxRecDepth 100000 in
theorem ii_hs_settle_7 : sm_D prog_3_method_2_code 7 1 8 (.iload_n 2) := ⟨by decide +kernel, rfl⟩
set_option maxRecDepth 100000 in
theorem ii_hs_settle_8 : sm_D prog_3_method_2_code 8 1 9 (.iconst 5) := ⟨by decide +kernel, rfl⟩
set_option maxRecDepth 100000 in
theorem ii_hs_settle_9 : sm_D prog_3_method_2_code 9 1 10 (.iadd) := ⟨by decide +kernel, rfl⟩
set_option maxRecDepth 100000 in
theorem ii_hs_settle_10 : sm_D prog_3_method_2_code 10 1 11 (.aload_n 1) := ⟨by decide +kernel, rfl⟩
set_option maxRecDepth 100000 in
theorem ii_hs_settle_11 : sm_D prog_3_method_2_code 11 3 14 (.getfield 49) := ⟨by decide +kernel, rfl⟩
set_option maxRecDepth 100000 in
theorem ii_hs_settle_14 : sm_D prog_3_method_2_code 14 3 17 (.if_icmp .gt 122) := ⟨by decide +kernel, rfl⟩
set_option maxRecDepth 100000 in
theorem ii_hs_settle_17 : sm_D prog_3_method_2_code 17 1 18 (.aload_n 0) := ⟨by decide +kernel, rfl⟩
set_option maxRecDepth 100000 in
theorem ii_hs_settle_18 : sm_D prog_3_method_2_code 18 3 21 (.getfield 45) := ⟨by decide +kernel, rfl⟩
set_option maxRecDepth 100000 in
theorem ii_hs_settle_21 : sm_D prog_3_method_2_code 21 2 23 (.bipush 6) := ⟨by decide +kernel, rfl⟩
set_option maxRecDepth 100000 in
theorem ii_hs_settle_23 : sm_D prog_3_method_2_code 23 3 26 (.if_icmp .ge 113) := ⟨by decide +kernel, rfl⟩
set_option maxRecDepth 100000 in
theorem ii_hs_settle_26 : sm_D prog_3_method_2_code 26 1 27 (.aload_n 1) := ⟨by decide +kernel, rfl⟩
set_option maxRecDepth 100000 in
theorem ii_hs_settle_27 : sm_D prog_3_method_2_code 27 3 30 (.getfield 54) := ⟨by decide +kernel, rfl⟩
set_option maxRecDepth 100000 in
theorem ii_hs_settle_30 : sm_D prog_3_method_2_code 30 1 31 (.iload_n 2) := ⟨by decide +kernel, rfl⟩
set_option maxRecDepth 100000 in
theorem ii_hs_settle_31 : sm_D prog_3_method_2_code 31 1 32 (.iaload) := ⟨by decide +kernel, rfl⟩
set_option maxRecDepth 100000 in
theorem ii_hs_settle_32 : sm_D prog_3_method_2_code 32 2 34 (.bipush 32) := ⟨by decide +kernel, rfl⟩
set_option maxRecDepth 100000 in
theorem ii_hs_settle_34 : sm_D prog_3_method_2_code 34 3 37 (.if_icmp .ne 6) := ⟨by decide +kernel, rfl⟩
set_option maxRecDepth 100000 in
theorem ii_hs_settle_37 : sm_D prog_3_method_2_code 37 3 40 (.goto 93) := ⟨by decide +kernel, rfl⟩
set_option maxRecDepth 100000 in
theorem ii_hs_settle_40 : sm_D prog_3_method_2_code 40 1 41 (.aload_n 0) := ⟨by decide +kernel, rfl⟩
set_option maxRecDepth 100000 in
theorem ii_hs_settle_41 : sm_D prog_3_method_2_code 41 3 44 (.getfield 9) := ⟨by decide +kernel, rfl⟩
set_option maxRecDepth 100000 in
theorem ii_hs_settle_44 : sm_D prog_3_method_2_code 44 1 45 (.aload_n 0) := ⟨by decide +kernel, rfl⟩
set_option maxRecDepth 100000 in
theorem ii_hs_settle_45 : sm_D prog_3_method_2_code 45 3 48 (.getfield 45) := ⟨by decide +kernel, rfl⟩
set_option maxRecDepth 100000 in
theorem ii_hs_settle_48 : sm_D prog_3_method_2_code 48 1 49 (.aload_n 1) := ⟨by decide +kernel, rfl⟩
set_option maxRecDepth 100000 in
theorem ii_hs_settle_49 : sm_D prog_3_method_2_code 49 3 52 (.getfield 54) := ⟨by decide +kernel, rfl⟩
set_option maxRecDepth 100000 in
theorem ii_hs_settle_52 : sm_D prog_3_method_2_code 52 1 53 (.iload_n 2) := ⟨by decide +kernel, rfl⟩
set_option maxRecDepth 100000 in
theorem ii_hs_settle_53 : sm_D prog_3_method_2_code 53 1 54 (.iaload) := ⟨by decide +kernel, rfl⟩
set_option maxRecDepth 100000 in
theorem ii_hs_settle_54 : sm_D prog_3_method_2_code 54 3 57 (.invokestatic 57) := ⟨by decide +kernel, rfl⟩
set_option maxRecDepth 100000 in
theorem ii_hs_settle_57 : sm_D prog_3_method_2_code 57 1 58 (.iastore) := ⟨by decide +kernel, rfl⟩
set_option maxRecDepth 100000 in
theorem ii_hs_settle_58 : sm_D prog_3_method_2_code 58 1 59 (.aload_n 0) := ⟨by decide +kernel, rfl⟩
set_option maxRecDepth 100000 in
theorem ii_hs_settle_59 : sm_D prog_3_method_2_code 59 3 62 (.getfield 15) := ⟨by decide +kernel, rfl⟩
set_option maxRecDepth 100000 in
theorem ii_hs_settle_62 : sm_D prog_3_method_2_code 62 1 63 (.aload_n 0) := ⟨by decide +kernel, rfl⟩
set_option maxRecDepth 100000 in
theorem ii_hs_settle_63 : sm_D prog_3_method_2_code 63 3 66 (.getfield 45) := ⟨by decide +kernel, rfl⟩
set_option maxRecDepth 100000 in
theorem ii_hs_settle_66 : sm_D prog_3_method_2_code 66 2 68 (.bipush 10) := ⟨by decide +kernel, rfl⟩
set_option maxRecDepth 100000 in
theorem ii_hs_settle_68 : sm_D prog_3_method_2_code 68 1 69 (.aload_n 1) := ⟨by decide +kernel, rfl⟩
set_option maxRecDepth 100000 in
theorem ii_hs_settle_69 : sm_D prog_3_method_2_code 69 1 70 (.iload_n 2) := ⟨by decide +kernel, rfl⟩
set_option maxRecDepth 100000 in
theorem ii_hs_settle_70 : sm_D prog_3_method_2_code 70 1 71 (.iconst 1) := ⟨by decide +kernel, rfl⟩
set_option maxRecDepth 100000 in
theorem ii_hs_settle_71 : sm_D prog_3_method_2_code 71 1 72 (.iadd) := ⟨by decide +kernel, rfl⟩
set_option maxRecDepth 100000 in
theorem ii_hs_settle_72 : sm_D prog_3_method_2_code 72 3 75 (.invokestatic 61) := ⟨by decide +kernel, rfl⟩
set_option maxRecDepth 100000 in
theorem ii_hs_settle_75 : sm_D prog_3_method_2_code 75 1 76 (.imul) := ⟨by decide +kernel, rfl⟩
set_option maxRecDepth 100000 in
theorem ii_hs_settle_76 : sm_D prog_3_method_2_code 76 1 77 (.aload_n 1) := ⟨by decide +kernel, rfl⟩
set_option maxRecDepth 100000 in
theorem ii_hs_settle_77 : sm_D prog_3_method_2_code 77 1 78 (.iload_n 2) := ⟨by decide +kernel, rfl⟩
set_option maxRecDepth 100000 in
theorem ii_hs_settle_78 : sm_D prog_3_method_2_code 78 1 79 (.iconst 2) := ⟨by decide +kernel, rfl⟩
set_option maxRecDepth 100000 in
theorem ii_hs_settle_79 : sm_D prog_3_method_2_code 79 1 80 (.iadd) := ⟨by decide +kernel, rfl⟩
set_option maxRecDepth 100000 in
theorem ii_hs_settle_80 : sm_D prog_3_method_2_code 80 3 83 (.invokestatic 61) := ⟨by decide +kernel, rfl⟩
set_option maxRecDepth 100000 in
theorem ii_hs_settle_83 : sm_D prog_3_method_2_code 83 1 84 (.iadd) := ⟨by decide +kernel, rfl⟩
set_option maxRecDepth 100000 in
theorem ii_hs_settle_84 : sm_D prog_3_method_2_code 84 1 85 (.iastore) := ⟨by decide +kernel, rfl⟩
set_option maxRecDepth 100000 in
theorem ii_hs_settle_85 : sm_D prog_3_method_2_code 85 1 86 (.aload_n 0) := ⟨by decide +kernel, rfl⟩
set_option maxRecDepth 100000 in
theorem ii_hs_settle_86 : sm_D prog_3_method_2_code 86 3 89 (.getfield 18) := ⟨by decide +kernel, rfl⟩
set_option maxRecDepth 100000 in
theorem ii_hs_settle_89 : sm_D prog_3_method_2_code 89 1 90 (.aload_n 0) := ⟨by decide +kernel, rfl⟩
set_option maxRecDepth 100000 in
theorem ii_hs_settle_90 : sm_D prog_3_method_2_code 90 3 93 (.getfield 45) := ⟨by decide +kernel, rfl⟩
set_option maxRecDepth 100000 in
theorem ii_hs_settle_93 : sm_D prog_3_method_2_code 93 1 94 (.aload_n 1) := ⟨by decide +kernel, rfl⟩
set_option maxRecDepth 100000 in
theorem ii_hs_settle_94 : sm_D prog_3_method_2_code 94 1 95 (.iload_n 2) := ⟨by decide +kernel, rfl⟩
set_option maxRecDepth 100000 in
theorem ii_hs_settle_95 : sm_D prog_3_method_2_code 95 1 96 (.iconst 3) := ⟨by decide +kernel, rfl⟩
set_option maxRecDepth 100000 in
theorem ii_hs_settle_96 : sm_D prog_3_method_2_code 96 1 97 (.iadd) := ⟨by decide +kernel, rfl⟩
set_option maxRecDepth 100000 in
theorem ii_hs_settle_97 : sm_D prog_3_method_2_code 97 3 100 (.invokestatic 61) := ⟨by decide +kernel, rfl⟩
set_option maxRecDepth 100000 in
theorem ii_hs_settle_100 : sm_D prog_3_method_2_code 100 1 101 (.iastore) := ⟨by decide +kernel, rfl⟩
set_option maxRecDepth 100000 in
theorem ii_hs_settle_101 : sm_D prog_3_method_2_code 101 1 102 (.aload_n 0) := ⟨by decide +kernel, rfl⟩
set_option maxRecDepth 100000 in
theorem ii_hs_settle_102 : sm_D prog_3_method_2_code 102 3 105 (.getfield 21) := ⟨by decide +kernel, rfl⟩
set_option maxRecDepth 100000 in
theorem ii_hs_settle_105 : sm_D prog_3_method_2_code 105 1 106 (.aload_n 0) := ⟨by decide +kernel, rfl⟩
set_option maxRecDepth 100000 in
theorem ii_hs_settle_106 : sm_D prog_3_method_2_code 106 3 109 (.getfield 45) := ⟨by decide +kernel, rfl⟩
set_option maxRecDepth 100000 in
theorem ii_hs_settle_109 : sm_D prog_3_method_2_code 109 1 110 (.aload_n 1) := ⟨by decide +kernel, rfl⟩
set_option maxRecDepth 100000 in
theorem ii_hs_settle_110 : sm_D prog_3_method_2_code 110 1 111 (.iload_n 2) := ⟨by decide +kernel, rfl⟩
set_option maxRecDepth 100000 in
theorem ii_hs_settle_111 : sm_D prog_3_method_2_code 111 1 112 (.iconst 4) := ⟨by decide +kernel, rfl⟩
set_option maxRecDepth 100000 in
theorem ii_hs_settle_112 : sm_D prog_3_method_2_code 112 1 113 (.iadd) := ⟨by decide +kernel, rfl⟩
set_option maxRecDepth 100000 in
theorem ii_hs_settle_113 : sm_D prog_3_method_2_code 113 3 116 (.invokestatic 61) := ⟨by decide +kernel, rfl⟩
set_option maxRecDepth 100000 in
theorem ii_hs_settle_116 : sm_D prog_3_method_2_code 116 1 117 (.iastore) := ⟨by decide +kernel, rfl⟩
set_option maxRecDepth 100000 in
theorem ii_hs_settle_117 : sm_D prog_3_method_2_code 117 1 118 (.aload_n 0) := ⟨by decide +kernel, rfl⟩
set_option maxRecDepth 100000 in
theorem ii_hs_settle_118 : sm_D prog_3_method_2_code 118 1 119 (.dup) := ⟨by decide +kernel, rfl⟩
set_option maxRecDepth 100000 in
theorem ii_hs_settle_119 : sm_D prog_3_method_2_code 119 3 122 (.getfield 45) := ⟨by decide +kernel, rfl⟩
set_option maxRecDepth 100000 in
theorem ii_hs_settle_122 : sm_D prog_3_method_2_code 122 1 123 (.iconst 1) := ⟨by decide +kernel, rfl⟩
set_option maxRecDepth 100000 in
theorem ii_hs_settle_123 : sm_D prog_3_method_2_code 123 1 124 (.iadd) := ⟨by decide +kernel, rfl⟩
set_option maxRecDepth 100000 in
theorem ii_hs_settle_124 : sm_D prog_3_method_2_code 124 3 127 (.putfield 45) := ⟨by decide +kernel, rfl⟩
set_option maxRecDepth 100000 in
theorem ii_hs_settle_127 : sm_D prog_3_method_2_code 127 3 130 (.iinc 2 4) := ⟨by decide +kernel, rfl⟩
set_option maxRecDepth 100000 in
theorem ii_hs_settle_130 : sm_D prog_3_method_2_code 130 3 133 (.iinc 2 1) := ⟨by decide +kernel, rfl⟩
set_option maxRecDepth 100000 in
theorem ii_hs_settle_133 : sm_D prog_3_method_2_code 133 3 136 (.goto (-126)) := ⟨by decide +kernel, rfl⟩
set_option maxRecDepth 100000 in
theorem ii_hs_settle_136 : sm_D prog_3_method_2_code 136 1 137 (.aload_n 0) := ⟨by decide +kernel, rfl⟩
set_option maxRecDepth 100000 in
theorem ii_hs_settle_137 : sm_D prog_3_method_2_code 137 1 138 (.iconst 0) := ⟨by decide +kernel, rfl⟩
set_option maxRecDepth 100000 in
theorem ii_hs_settle_138 : sm_D prog_3_method_2_code 138 3 141 (.invokevirtual 65) := ⟨by decide +kernel, rfl⟩
set_option maxRecDepth 100000 in
theorem ii_hs_settle_141 : sm_D prog_3_method_2_code 141 1 142 (.return_) := ⟨by decide +kernel, rfl⟩
noncomputable def ff_hs_settle_136   (w : sm_Mem) : sm_R := (sm_cV (ff_hs_goBackTo ((0 : Int32)) w) fun w2 => (some (.null, w2)))
set_option maxHeartbeats 4000000 in
set_option maxRecDepth 100000 in
theorem ss_hs_settle_136 {E : Nat × (Nat → Int32)}   (w : sm_Mem) : sm_Sim E (mi_hs_settle) 136 [some (.ref 36), none, none] [] w (ff_hs_settle_136   w) := by
  unfold ff_hs_settle_136
  refine sm_aload_n ii_hs_settle_136 rfl ?_
  refine sm_iconst (0 : Int32) ii_hs_settle_137 (by decide) ?_
  refine sm_cvV [.int (0 : Int32)] [] rfl ii_hs_settle_138 ml_hs_65 (mf_hs_goBackTo) (mv_hs_goBackTo) (Nat.le_of_ble_eq_true rfl) rfl 1 rfl rfl rfl rfl (mc_hs_goBackTo ((0 : Int32)) w) (fun w2 => ?_)
  exact sm_vret ii_hs_settle_141 rfl
noncomputable def ff_hs_settle_7_b  (self7 : Nat → Int32 → sm_Mem → sm_R) (a1 : Nat) (a2 : Int32) (w : sm_Mem) : sm_R := (Option.bind (sm_gI w a1 2 1) fun x3 => (if x3 < (a2 + (5 : Int32)) then ff_hs_settle_136  w else (if (6 : Int32) ≤ (w.1 36 0) then ff_hs_settle_136  w else (Option.bind (sm_fk a1 2 0 2) fun r4 => (Option.bind (sm_rds w r4 a2) fun x5 => (if x5 = (32 : Int32) then self7 (a1) ((a2 + (1 : Int32))) w else (Option.bind (sm_fk a1 2 0 2) fun r6 => (Option.bind (sm_rds w r6 a2) fun x7 => (sm_cI (ff_ho_kindOf (x7) w) fun x8 w9 => (Option.bind (sm_wr w9 37 6 (w.1 36 0) x8) fun w10 => (sm_cI (ff_hs_figure (a1) ((a2 + (1 : Int32))) w10) fun x11 w12 => (sm_cI (ff_hs_figure (a1) ((a2 + (2 : Int32))) w12) fun x13 w14 => (Option.bind (sm_wr w14 38 6 (w10.1 36 0) (((10 : Int32) * x11) + x13)) fun w15 => (sm_cI (ff_hs_figure (a1) ((a2 + (3 : Int32))) w15) fun x16 w17 => (Option.bind (sm_wr w17 39 6 (w15.1 36 0) x16) fun w18 => (sm_cI (ff_hs_figure (a1) ((a2 + (4 : Int32))) w18) fun x19 w20 => (Option.bind (sm_wr w20 40 6 (w18.1 36 0) x19) fun w21 => (sm_let (sm_wI w21 36 0 ((w21.1 36 0) + (1 : Int32))) fun w22 => self7 (a1) (((a2 + (4 : Int32)) + (1 : Int32))) w22))))))))))))))))))
noncomputable def ff_hs_settle_7_f  : Nat → Nat → Int32 → sm_Mem → sm_R
  | 0, _, _, _ => none
  | n + 1, a1, a2, w => ff_hs_settle_7_b  (ff_hs_settle_7_f  n) a1 a2 w
noncomputable def ff_hs_settle_7  (a1 : Nat) (a2 : Int32) (w : sm_Mem) : sm_R := ff_hs_settle_7_f  sm_N a1 a2 w
set_option maxHeartbeats 4000000 in
set_option maxRecDepth 100000 in
theorem ss_hs_settle_7_b {E : Nat × (Nat → Int32)}  (self7 : Nat → Int32 → sm_Mem → sm_R) (hself7 : ∀ (a1 : Nat) (a2 : Int32) (w : sm_Mem), sm_Sim E (mi_hs_settle) 7 [some (.ref 36), some (.ref a1), some (.int a2)] [] w (self7 a1 a2 w)) (a1 : Nat) (a2 : Int32) (w : sm_Mem) : sm_Sim E (mi_hs_settle) 7 [some (.ref 36), some (.ref a1), some (.int a2)] [] w (ff_hs_settle_7_b  self7 a1 a2 w) := by
  unfold ff_hs_settle_7_b
  refine sm_iload_n ii_hs_settle_7 rfl ?_
  refine sm_iconst (5 : Int32) ii_hs_settle_8 (by decide) ?_
  refine sm_iadd ii_hs_settle_9 ?_
  refine sm_aload_n ii_hs_settle_10 rfl ?_
  refine sm_getIs ii_hs_settle_11 fl_hs_49 (fun x3 => ?_)
  refine sm_icmp_gt 136 ii_hs_settle_14 (by decide) ?_ ?_
  · refine sm_msk [true, false, false] [some (.ref 36), none, none] rfl ?_
    exact ss_hs_settle_136  w
  · refine sm_aload_n ii_hs_settle_17 rfl ?_
    refine sm_getI ii_hs_settle_18 fl_hs_45 (k := 36) rfl ?_
    refine sm_bipush (6 : Int32) ii_hs_settle_21 (by decide) ?_
    refine sm_icmp_ge 136 ii_hs_settle_23 (by decide) ?_ ?_
    · refine sm_msk [true, false, false] [some (.ref 36), none, none] rfl ?_
      exact ss_hs_settle_136  w
    · refine sm_aload_n ii_hs_settle_26 rfl ?_
      refine sm_getRs ii_hs_settle_27 fl_hs_54 (fun r4 => ?_)
      refine sm_iload_n ii_hs_settle_30 rfl ?_
      refine sm_ialds ii_hs_settle_31 (fun x5 => ?_)
      refine sm_bipush (32 : Int32) ii_hs_settle_32 (by decide) ?_
      refine sm_icmp_ne 40 ii_hs_settle_34 (by decide) ?_ ?_
      · refine sm_goto 130 ii_hs_settle_37 (by decide) ?_
        refine sm_iinc (a2 + (1 : Int32)) [some (.ref 36), some (.ref a1), some (.int (a2 + (1 : Int32)))] ii_hs_settle_130 rfl rfl rfl rfl ?_
        refine sm_goto 7 ii_hs_settle_133 (by decide) ?_
        exact hself7 (a1) ((a2 + (1 : Int32))) w
      · refine sm_aload_n ii_hs_settle_40 rfl ?_
        refine sm_getR 37 ii_hs_settle_41 fl_hs_9 (k := 36) rfl ?_
        refine sm_aload_n ii_hs_settle_44 rfl ?_
        refine sm_getI ii_hs_settle_45 fl_hs_45 (k := 36) rfl ?_
        refine sm_aload_n ii_hs_settle_48 rfl ?_
        refine sm_getRs ii_hs_settle_49 fl_hs_54 (fun r6 => ?_)
        refine sm_iload_n ii_hs_settle_52 rfl ?_
        refine sm_ialds ii_hs_settle_53 (fun x7 => ?_)
        refine sm_csI [.int x7] [.int (w.1 36 0), .ref 37] rfl ii_hs_settle_54 ml_hs_57 (mf_ho_kindOf) (mv_ho_kindOf) (Nat.le_of_ble_eq_true rfl) rfl rfl rfl (mc_ho_kindOf (x7) w) (fun x8 w9 => ?_)
        refine sm_iast ii_hs_settle_57 (k := 37) rfl (fun w10 => ?_)
        refine sm_aload_n ii_hs_settle_58 rfl ?_
        refine sm_getR 38 ii_hs_settle_59 fl_hs_15 (k := 36) rfl ?_
        refine sm_aload_n ii_hs_settle_62 rfl ?_
        refine sm_getI ii_hs_settle_63 fl_hs_45 (k := 36) rfl ?_
        refine sm_bipush (10 : Int32) ii_hs_settle_66 (by decide) ?_
        refine sm_aload_n ii_hs_settle_68 rfl ?_
        refine sm_iload_n ii_hs_settle_69 rfl ?_
        refine sm_iconst (1 : Int32) ii_hs_settle_70 (by decide) ?_
        refine sm_iadd ii_hs_settle_71 ?_
        refine sm_csI [.ref a1, .int (a2 + (1 : Int32))] [.int (10 : Int32), .int (w10.1 36 0), .ref 38] rfl ii_hs_settle_72 ml_hs_61 (mf_hs_figure) (mv_hs_figure) (Nat.le_of_ble_eq_true rfl) rfl rfl rfl (mc_hs_figure (a1) ((a2 + (1 : Int32))) w10) (fun x11 w12 => ?_)
        refine sm_imul ii_hs_settle_75 ?_
        refine sm_aload_n ii_hs_settle_76 rfl ?_
        refine sm_iload_n ii_hs_settle_77 rfl ?_
        refine sm_iconst (2 : Int32) ii_hs_settle_78 (by decide) ?_
        refine sm_iadd ii_hs_settle_79 ?_
        refine sm_csI [.ref a1, .int (a2 + (2 : Int32))] [.int ((10 : Int32) * x11), .int (w10.1 36 0), .ref 38] rfl ii_hs_settle_80 ml_hs_61 (mf_hs_figure) (mv_hs_figure) (Nat.le_of_ble_eq_true rfl) rfl rfl rfl (mc_hs_figure (a1) ((a2 + (2 : Int32))) w12) (fun x13 w14 => ?_)
        refine sm_iadd ii_hs_settle_83 ?_
        refine sm_iast ii_hs_settle_84 (k := 38) rfl (fun w15 => ?_)
        refine sm_aload_n ii_hs_settle_85 rfl ?_
        refine sm_getR 39 ii_hs_settle_86 fl_hs_18 (k := 36) rfl ?_
        refine sm_aload_n ii_hs_settle_89 rfl ?_
        refine sm_getI ii_hs_settle_90 fl_hs_45 (k := 36) rfl ?_
        refine sm_aload_n ii_hs_settle_93 rfl ?_
        refine sm_iload_n ii_hs_settle_94 rfl ?_
        refine sm_iconst (3 : Int32) ii_hs_settle_95 (by decide) ?_
        refine sm_iadd ii_hs_settle_96 ?_
        refine sm_csI [.ref a1, .int (a2 + (3 : Int32))] [.int (w15.1 36 0), .ref 39] rfl ii_hs_settle_97 ml_hs_61 (mf_hs_figure) (mv_hs_figure) (Nat.le_of_ble_eq_true rfl) rfl rfl rfl (mc_hs_figure (a1) ((a2 + (3 : Int32))) w15) (fun x16 w17 => ?_)
        refine sm_iast ii_hs_settle_100 (k := 39) rfl (fun w18 => ?_)
        refine sm_aload_n ii_hs_settle_101 rfl ?_
        refine sm_getR 40 ii_hs_settle_102 fl_hs_21 (k := 36) rfl ?_
        refine sm_aload_n ii_hs_settle_105 rfl ?_
        refine sm_getI ii_hs_settle_106 fl_hs_45 (k := 36) rfl ?_
        refine sm_aload_n ii_hs_settle_109 rfl ?_
        refine sm_iload_n ii_hs_settle_110 rfl ?_
        refine sm_iconst (4 : Int32) ii_hs_settle_111 (by decide) ?_
        refine sm_iadd ii_hs_settle_112 ?_
        refine sm_csI [.ref a1, .int (a2 + (4 : Int32))] [.int (w18.1 36 0), .ref 40] rfl ii_hs_settle_113 ml_hs_61 (mf_hs_figure) (mv_hs_figure) (Nat.le_of_ble_eq_true rfl) rfl rfl rfl (mc_hs_figure (a1) ((a2 + (4 : Int32))) w18) (fun x19 w20 => ?_)
        refine sm_iast ii_hs_settle_116 (k := 40) rfl (fun w21 => ?_)
        refine sm_aload_n ii_hs_settle_117 rfl ?_
        refine sm_dupR ii_hs_settle_118 ?_
        refine sm_getI ii_hs_settle_119 fl_hs_45 (k := 36) rfl ?_
        refine sm_iconst (1 : Int32) ii_hs_settle_122 (by decide) ?_
        refine sm_iadd ii_hs_settle_123 ?_
        refine sm_putI ii_hs_settle_124 fp_hs_45 (k := 36) rfl (fun w22 => ?_)
        refine sm_iinc (a2 + (4 : Int32)) [some (.ref 36), some (.ref a1), some (.int (a2 + (4 : Int32)))] ii_hs_settle_127 rfl rfl rfl rfl ?_
        refine sm_iinc ((a2 + (4 : Int32)) + (1 : Int32)) [some (.ref 36), some (.ref a1), some (.int ((a2 + (4 : Int32)) + (1 : Int32)))] ii_hs_settle_130 rfl rfl rfl rfl ?_
        refine sm_goto 7 ii_hs_settle_133 (by decide) ?_
        exact hself7 (a1) (((a2 + (4 : Int32)) + (1 : Int32))) w22
set_option maxHeartbeats 4000000 in
set_option maxRecDepth 100000 in
theorem ss_hs_settle_7_f {E : Nat × (Nat → Int32)}  : ∀ (n : Nat) (a1 : Nat) (a2 : Int32) (w : sm_Mem), sm_Sim E (mi_hs_settle) 7 [some (.ref 36), some (.ref a1), some (.int a2)] [] w (ff_hs_settle_7_f  n a1 a2 w)
  | 0, _, _, _ => fun _ _ h => by cases h
  | n + 1, a1, a2, w => ss_hs_settle_7_b  _ (ss_hs_settle_7_f  n) a1 a2 w
set_option maxHeartbeats 4000000 in
set_option maxRecDepth 100000 in
theorem ss_hs_settle_7 {E : Nat × (Nat → Int32)}  (a1 : Nat) (a2 : Int32) (w : sm_Mem) : sm_Sim E (mi_hs_settle) 7 [some (.ref 36), some (.ref a1), some (.int a2)] [] w (ff_hs_settle_7  a1 a2 w) := ss_hs_settle_7_f  sm_N a1 a2 w
noncomputable def ff_hs_settle  (a1 : Nat) (w : sm_Mem) : sm_R := (sm_let (sm_wI w 36 0 (0 : Int32)) fun w23 => ff_hs_settle_7 (a1) ((0 : Int32)) w23)
set_option maxHeartbeats 4000000 in
set_option maxRecDepth 100000 in
theorem ss_hs_settle_0 {E : Nat × (Nat → Int32)}  (a1 : Nat) (w : sm_Mem) : sm_Sim E (mi_hs_settle) 0 [some (.ref 36), some (.ref a1), none] [] w (ff_hs_settle  a1 w) := by
  unfold ff_hs_settle
  refine sm_aload_n ii_hs_settle_0 rfl ?_
  refine sm_iconst (0 : Int32) ii_hs_settle_1 (by decide) ?_
  refine sm_putI ii_hs_settle_2 fp_hs_45 (k := 36) rfl (fun w23 => ?_)
  refine sm_iconst (0 : Int32) ii_hs_settle_5 (by decide) ?_
  refine sm_istore_n [some (.ref 36), some (.ref a1), some (.int (0 : Int32))] ii_hs_settle_6 rfl rfl ?_
  exact ss_hs_settle_7 (a1) ((0 : Int32)) w23
set_option maxHeartbeats 4000000 in
set_option maxRecDepth 100000 in
theorem mc_hs_settle (a1 : Nat) (w : sm_Mem) : sm_MC mi_hs_settle [.ref 36, .ref a1] w (ff_hs_settle a1 w) := sm_MC_of (0, fun _ => 0) (by decide +kernel) (by decide) rfl (Nat.le_of_ble_eq_true rfl) (ss_hs_settle_0 a1 w)
