/-! the program, by a program: functions of its methods and that the methods do them -/
set_option maxRecDepth 100000 in
theorem ml_wy_108 : sm_ML "HerOrders$Ways" 108 ⟨"HerOrders$Ways", "weighGuest", "()V"⟩ := Or.inl (List.mem_of_getElem? (i := 658) (by decide +kernel))
set_option maxRecDepth 100000 in
theorem fl_wy_31 : sm_FL "HerOrders$Ways" 31 5 7 := ⟨RX5, TX5, 14, rfl, by decide, rfl, sm_inX5, Or.inl (List.mem_of_getElem? (i := 272) (by decide +kernel))⟩
set_option maxRecDepth 100000 in
theorem fl_wy_72 : sm_FL "HerOrders$Ways" 72 5 10 := ⟨RX5, TX5, 14, rfl, by decide, rfl, sm_inX5, Or.inl (List.mem_of_getElem? (i := 278) (by decide +kernel))⟩
set_option maxRecDepth 100000 in
theorem fl_wy_75 : sm_FL "HerOrders$Ways" 75 5 11 := ⟨RX5, TX5, 14, rfl, by decide, rfl, sm_inX5, Or.inl (List.mem_of_getElem? (i := 279) (by decide +kernel))⟩
set_option maxRecDepth 100000 in
theorem fl_wy_66 : sm_FL "HerOrders$Ways" 66 5 8 := ⟨RX5, TX5, 14, rfl, by decide, rfl, sm_inX5, Or.inl (List.mem_of_getElem? (i := 274) (by decide +kernel))⟩
set_option maxRecDepth 100000 in
theorem fl_wy_9 : sm_FL "HerOrders$Ways" 9 5 0 := ⟨RX5, TX5, 14, rfl, by decide, rfl, sm_inX5, Or.inl (List.mem_of_getElem? (i := 263) (by decide +kernel))⟩
set_option maxRecDepth 100000 in
theorem ml_wy_92 : sm_ML "HerOrders$Ways" 92 ⟨"HerOrders$House", "can", "(II)Z"⟩ := Or.inr ⟨"HerOrders", List.mem_of_getElem? (i := 665) (by decide +kernel)⟩
set_option maxRecDepth 100000 in
theorem ml_wy_96 : sm_ML "HerOrders$Ways" 96 ⟨"HerOrders$House", "push", "(II)V"⟩ := Or.inr ⟨"HerOrders", List.mem_of_getElem? (i := 666) (by decide +kernel)⟩
set_option maxRecDepth 100000 in
theorem ml_wy_59 : sm_ML "HerOrders$Ways" 59 ⟨"HerOrders$Ways", "goOn", "(II)V"⟩ := Or.inl (List.mem_of_getElem? (i := 649) (by decide +kernel))
set_option maxRecDepth 100000 in
theorem ml_wy_99 : sm_ML "HerOrders$Ways" 99 ⟨"HerOrders$House", "pop", "()V"⟩ := Or.inr ⟨"HerOrders", List.mem_of_getElem? (i := 667) (by decide +kernel)⟩
set_option maxRecDepth 100000 in
theorem fl_wy_84 : sm_FL "HerOrders$Ways" 84 1 0 := ⟨RX1, TX1, 13, rfl, by decide, rfl, sm_inX1, Or.inr ⟨"HerOrders", List.mem_of_getElem? (i := 204) (by decide +kernel)⟩⟩
set_option maxRecDepth 100000 in
theorem fl_wy_19 : sm_FL "HerOrders$Ways" 19 5 2 := ⟨RX5, TX5, 14, rfl, by decide, rfl, sm_inX5, Or.inl (List.mem_of_getElem? (i := 265) (by decide +kernel))⟩
set_option maxRecDepth 100000 in
theorem fl_wy_89 : sm_FL "HerOrders$Ways" 89 1 5 := ⟨RX1, TX1, 13, rfl, by decide, rfl, sm_inX1, Or.inr ⟨"HerOrders", List.mem_of_getElem? (i := 213) (by decide +kernel)⟩⟩
set_option maxRecDepth 100000 in
theorem mq_wy_46 : Cond.methodLink "HerOrders$Ways" 46 Lib.Math.max.name ∈ lw_tbl := List.mem_of_getElem? (i := 644) (by decide +kernel)
set_option maxRecDepth 100000 in
theorem ml_wy_81 : sm_ML "HerOrders$Ways" 81 ⟨"HerOrders$Ways", "finish", "(I)V"⟩ := Or.inl (List.mem_of_getElem? (i := 653) (by decide +kernel))
set_option maxRecDepth 100000 in
theorem ml_wy_55 : sm_ML "HerOrders$Ways" 55 ⟨"HerOrders$Ways", "clear", "(I)V"⟩ := Or.inl (List.mem_of_getElem? (i := 645) (by decide +kernel))
set_option maxRecDepth 100000 in
theorem fl_wy_52 : sm_FL "HerOrders$Ways" 52 2 0 := ⟨RX2, TX2, 2, rfl, by decide, rfl, sm_inX2, Or.inr ⟨"HerOrders", List.mem_of_getElem? (i := 155) (by decide +kernel)⟩⟩
set_option maxRecDepth 100000 in
theorem fl_wy_34 : sm_FL "HerOrders$Ways" 34 2 1 := ⟨RX2, TX2, 2, rfl, by decide, rfl, sm_inX2, Or.inr ⟨"HerOrders", List.mem_of_getElem? (i := 159) (by decide +kernel)⟩⟩
set_option maxRecDepth 100000 in
theorem mq_wy_40 : Cond.methodLink "HerOrders$Ways" 40 Lib.Math.min.name ∈ lw_tbl := List.mem_of_getElem? (i := 643) (by decide +kernel)
set_option maxRecDepth 100000 in
theorem fp_wy_49 : sm_FP "HerOrders$Ways" 49 5 3 .int := ⟨RX5, TX5, 14, tyX5, rfl, by decide, rfl, sm_inX5, tyX5_ok, nmX5, rfl, by decide +kernel, Or.inl (List.mem_of_getElem? (i := 266) (by decide +kernel))⟩
set_option maxRecDepth 100000 in
theorem fp_td_23 : sm_FP "HerOrders$Told" 23 3 1 .long := ⟨RX3, TX3, 5, tyX3, rfl, by decide, rfl, sm_inX3, tyX3_ok, nmX3, rfl, by decide +kernel, Or.inl (List.mem_of_getElem? (i := 344) (by decide +kernel))⟩
set_option maxRecDepth 100000 in
theorem fp_td_9 : sm_FP "HerOrders$Told" 9 3 2 .long := ⟨RX3, TX3, 5, tyX3, rfl, by decide, rfl, sm_inX3, tyX3_ok, nmX3, rfl, by decide +kernel, Or.inl (List.mem_of_getElem? (i := 346) (by decide +kernel))⟩
set_option maxRecDepth 100000 in
theorem ml_wy_114 : sm_ML "HerOrders$Ways" 114 ⟨"HerOrders$Ways", "fullWays", "()I"⟩ := Or.inl (List.mem_of_getElem? (i := 683) (by decide +kernel))
set_option maxRecDepth 100000 in
theorem ml_ho_192 : sm_ML "HerOrders" 192 ⟨"HerOrders", "refusalOfWords", "(II)I"⟩ := Or.inl (List.mem_of_getElem? (i := 630) (by decide +kernel))
set_option maxRecDepth 100000 in
theorem fl_ho_40 : sm_FL "HerOrders" 40 6 4 := ⟨RX6, TX6, 7, rfl, by decide, rfl, sm_inX6, Or.inl (List.mem_of_getElem? (i := 367) (by decide +kernel))⟩
set_option maxRecDepth 100000 in
theorem ml_ho_195 : sm_ML "HerOrders" 195 ⟨"HerOrders$Ways", "runWords", "(LHerOrders$Row;I)V"⟩ := Or.inr ⟨"HerOrders", List.mem_of_getElem? (i := 639) (by decide +kernel)⟩
set_option maxRecDepth 100000 in
theorem ml_ho_199 : sm_ML "HerOrders" 199 ⟨"HerOrders$Ways", "fullWays", "()I"⟩ := Or.inr ⟨"HerOrders", List.mem_of_getElem? (i := 671) (by decide +kernel)⟩
set_option maxRecDepth 100000 in
theorem ml_ho_203 : sm_ML "HerOrders" 203 ⟨"HerOrders$Told", "share", "(JJ)V"⟩ := Or.inr ⟨"HerOrders", List.mem_of_getElem? (i := 675) (by decide +kernel)⟩
set_option maxRecDepth 100000 in
theorem ml_ho_207 : sm_ML "HerOrders" 207 ⟨"HerOrders$Ways", "inAll", "()I"⟩ := Or.inr ⟨"HerOrders", List.mem_of_getElem? (i := 679) (by decide +kernel)⟩
set_option maxRecDepth 100000 in
theorem fl_mo_208 : sm_FL "HerOrdersModel" 208 7 21 := ⟨RX7, TX7, 30, rfl, by decide, rfl, sm_inX7, Or.inl (List.mem_of_getElem? (i := 963) (by decide +kernel))⟩
set_option maxRecDepth 100000 in
theorem fp_mo_211 : sm_FP "HerOrdersModel" 211 7 22 .int := ⟨RX7, TX7, 30, tyX7, rfl, by decide, rfl, sm_inX7, tyX7_ok, nmX7, rfl, by decide +kernel, Or.inl (List.mem_of_getElem? (i := 964) (by decide +kernel))⟩
set_option maxRecDepth 100000 in
theorem fp_mo_214 : sm_FP "HerOrdersModel" 214 7 23 .int := ⟨RX7, TX7, 30, tyX7, rfl, by decide, rfl, sm_inX7, tyX7_ok, nmX7, rfl, by decide +kernel, Or.inl (List.mem_of_getElem? (i := 965) (by decide +kernel))⟩
set_option maxRecDepth 100000 in
theorem fl_mo_44 : sm_FL "HerOrdersModel" 44 7 19 := ⟨RX7, TX7, 30, rfl, by decide, rfl, sm_inX7, Or.inl (List.mem_of_getElem? (i := 961) (by decide +kernel))⟩
set_option maxRecDepth 100000 in
theorem fl_mo_47 : sm_FL "HerOrdersModel" 47 7 20 := ⟨RX7, TX7, 30, rfl, by decide, rfl, sm_inX7, Or.inl (List.mem_of_getElem? (i := 962) (by decide +kernel))⟩
set_option maxRecDepth 100000 in
theorem fp_mo_208 : sm_FP "HerOrdersModel" 208 7 21 .int := ⟨RX7, TX7, 30, tyX7, rfl, by decide, rfl, sm_inX7, tyX7_ok, nmX7, rfl, by decide +kernel, Or.inl (List.mem_of_getElem? (i := 963) (by decide +kernel))⟩
set_option maxRecDepth 100000 in
theorem ml_mo_239 : sm_ML "HerOrdersModel" 239 ⟨"HerOrdersModel", "layGoal", "(II)V"⟩ := Or.inl (List.mem_of_getElem? (i := 1264) (by decide +kernel))
set_option maxRecDepth 100000 in
theorem fl_mo_211 : sm_FL "HerOrdersModel" 211 7 22 := ⟨RX7, TX7, 30, rfl, by decide, rfl, sm_inX7, Or.inl (List.mem_of_getElem? (i := 964) (by decide +kernel))⟩
set_option maxRecDepth 100000 in
theorem fl_mo_50 : sm_FL "HerOrdersModel" 50 7 25 := ⟨RX7, TX7, 30, rfl, by decide, rfl, sm_inX7, Or.inl (List.mem_of_getElem? (i := 967) (by decide +kernel))⟩
set_option maxRecDepth 100000 in
theorem fp_mo_220 : sm_FP "HerOrdersModel" 220 7 27 .boolean := ⟨RX7, TX7, 30, tyX7, rfl, by decide, rfl, sm_inX7, tyX7_ok, nmX7, rfl, by decide +kernel, Or.inl (List.mem_of_getElem? (i := 969) (by decide +kernel))⟩
set_option maxRecDepth 100000 in
theorem fl_mo_53 : sm_FL "HerOrdersModel" 53 7 26 := ⟨RX7, TX7, 30, rfl, by decide, rfl, sm_inX7, Or.inl (List.mem_of_getElem? (i := 968) (by decide +kernel))⟩
set_option maxRecDepth 100000 in
theorem fl_mo_217 : sm_FL "HerOrdersModel" 217 7 24 := ⟨RX7, TX7, 30, rfl, by decide, rfl, sm_inX7, Or.inl (List.mem_of_getElem? (i := 966) (by decide +kernel))⟩
set_option maxRecDepth 100000 in
theorem ml_mo_224 : sm_ML "HerOrdersModel" 224 ⟨"HerOrdersModel", "roomOf", "(I)I"⟩ := Or.inl (List.mem_of_getElem? (i := 1284) (by decide +kernel))
set_option maxRecDepth 100000 in
theorem fl_mo_214 : sm_FL "HerOrdersModel" 214 7 23 := ⟨RX7, TX7, 30, rfl, by decide, rfl, sm_inX7, Or.inl (List.mem_of_getElem? (i := 965) (by decide +kernel))⟩
set_option maxRecDepth 100000 in
theorem ml_mo_227 : sm_ML "HerOrdersModel" 227 ⟨"HerOrdersModel", "mayAt", "(II)Z"⟩ := Or.inl (List.mem_of_getElem? (i := 1280) (by decide +kernel))
set_option maxRecDepth 100000 in
theorem ml_mo_230 : sm_ML "HerOrdersModel" 230 ⟨"HerOrdersModel", "nextSpeaker", "(II)I"⟩ := Or.inl (List.mem_of_getElem? (i := 1276) (by decide +kernel))
set_option maxRecDepth 100000 in
theorem fl_mo_220 : sm_FL "HerOrdersModel" 220 7 27 := ⟨RX7, TX7, 30, rfl, by decide, rfl, sm_inX7, Or.inl (List.mem_of_getElem? (i := 969) (by decide +kernel))⟩
abbrev mi_wy_finish : sm_MI := (⟨"HerOrders$Ways", "finish", "(I)V"⟩, prog_7_method_6_code, 4, none, 4)
set_option maxRecDepth 100000 in
theorem mf_wy_finish : sm_MF mi_wy_finish 1 := ⟨List.mem_of_getElem? (i := 656) (by decide +kernel), List.mem_of_getElem? (i := 129) (by decide +kernel), ⟨by decide, by decide⟩, by decide +kernel⟩
set_option maxRecDepth 100000 in
theorem mv_wy_finish : sm_MFV mi_wy_finish := ⟨List.mem_of_getElem? (i := 655) (by decide +kernel), List.mem_of_getElem? (i := 33) (by decide +kernel)⟩
set_option maxRecDepth 100000 in
theorem ii_wy_finish_0 : sm_D prog_7_method_6_code 0 1 1 (.aload_n 0) := ⟨by decide +kernel, rfl⟩
set_option maxRecDepth 100000 in
theorem ii_wy_finish_1 : sm_D prog_7_method_6_code 1 3 4 (.getfield 25) := ⟨by decide +kernel, rfl⟩
set_option maxRecDepth 100000 in
theorem ii_wy_finish_4 : sm_D prog_7_method_6_code 4 1 5 (.aload_n 0) := ⟨by decide +kernel, rfl⟩
set_option maxRecDepth 100000 in
theorem ii_wy_finish_5 : sm_D prog_7_method_6_code 5 3 8 (.getfield 49) := ⟨by decide +kernel, rfl⟩
set_option maxRecDepth 100000 in
theorem ii_wy_finish_8 : sm_D prog_7_method_6_code 8 1 9 (.iaload) := ⟨by decide +kernel, rfl⟩
set_option maxRecDepth 100000 in
theorem ii_wy_finish_9 : sm_D prog_7_method_6_code 9 1 10 (.iconst 1) := ⟨by decide +kernel, rfl⟩
set_option maxRecDepth 100000 in
theorem ii_wy_finish_10 : sm_D prog_7_method_6_code 10 3 13 (.if_icmp .ne 20) := ⟨by decide +kernel, rfl⟩
set_option maxRecDepth 100000 in
theorem ii_wy_finish_13 : sm_D prog_7_method_6_code 13 1 14 (.aload_n 0) := ⟨by decide +kernel, rfl⟩
set_option maxRecDepth 100000 in
theorem ii_wy_finish_14 : sm_D prog_7_method_6_code 14 3 17 (.getfield 49) := ⟨by decide +kernel, rfl⟩
set_option maxRecDepth 100000 in
theorem ii_wy_finish_17 : sm_D prog_7_method_6_code 17 3 20 (.ifCond .le 13) := ⟨by decide +kernel, rfl⟩
set_option maxRecDepth 100000 in
theorem ii_wy_finish_20 : sm_D prog_7_method_6_code 20 1 21 (.aload_n 0) := ⟨by decide +kernel, rfl⟩
set_option maxRecDepth 100000 in
theorem ii_wy_finish_21 : sm_D prog_7_method_6_code 21 1 22 (.aload_n 0) := ⟨by decide +kernel, rfl⟩
set_option maxRecDepth 100000 in
theorem ii_wy_finish_22 : sm_D prog_7_method_6_code 22 3 25 (.getfield 22) := ⟨by decide +kernel, rfl⟩
set_option maxRecDepth 100000 in
theorem ii_wy_finish_25 : sm_D prog_7_method_6_code 25 1 26 (.iconst 0) := ⟨by decide +kernel, rfl⟩
set_option maxRecDepth 100000 in
theorem ii_wy_finish_26 : sm_D prog_7_method_6_code 26 1 27 (.iaload) := ⟨by decide +kernel, rfl⟩
set_option maxRecDepth 100000 in
theorem ii_wy_finish_27 : sm_D prog_7_method_6_code 27 3 30 (.putfield 69) := ⟨by decide +kernel, rfl⟩
set_option maxRecDepth 100000 in
theorem ii_wy_finish_30 : sm_D prog_7_method_6_code 30 1 31 (.aload_n 0) := ⟨by decide +kernel, rfl⟩
set_option maxRecDepth 100000 in
theorem ii_wy_finish_31 : sm_D prog_7_method_6_code 31 1 32 (.dup) := ⟨by decide +kernel, rfl⟩
set_option maxRecDepth 100000 in
theorem ii_wy_finish_32 : sm_D prog_7_method_6_code 32 3 35 (.getfield 72) := ⟨by decide +kernel, rfl⟩
set_option maxRecDepth 100000 in
theorem ii_wy_finish_35 : sm_D prog_7_method_6_code 35 1 36 (.iload_n 1) := ⟨by decide +kernel, rfl⟩
set_option maxRecDepth 100000 in
theorem ii_wy_finish_36 : sm_D prog_7_method_6_code 36 1 37 (.iand) := ⟨by decide +kernel, rfl⟩
set_option maxRecDepth 100000 in
theorem ii_wy_finish_37 : sm_D prog_7_method_6_code 37 3 40 (.putfield 72) := ⟨by decide +kernel, rfl⟩
set_option maxRecDepth 100000 in
theorem ii_wy_finish_40 : sm_D prog_7_method_6_code 40 1 41 (.aload_n 0) := ⟨by decide +kernel, rfl⟩
set_option maxRecDepth 100000 in
theorem ii_wy_finish_41 : sm_D prog_7_method_6_code 41 1 42 (.dup) := ⟨by decide +kernel, rfl⟩
set_option maxRecDepth 100000 in
theorem ii_wy_finish_42 : sm_D prog_7_method_6_code 42 3 45 (.getfield 75) := ⟨by decide +kernel, rfl⟩
set_option maxRecDepth 100000 in
theorem ii_wy_finish_45 : sm_D prog_7_method_6_code 45 1 46 (.iload_n 1) := ⟨by decide +kernel, rfl⟩
set_option maxRecDepth 100000 in
theorem ii_wy_finish_46 : sm_D prog_7_method_6_code 46 1 47 (.ior) := ⟨by decide +kernel, rfl⟩
set_option maxRecDepth 100000 in
theorem ii_wy_finish_47 : sm_D prog_7_method_6_code 47 3 50 (.putfield 75) := ⟨by decide +kernel, rfl⟩
set_option maxRecDepth 100000 in
theorem ii_wy_finish_50 : sm_D prog_7_method_6_code 50 1 51 (.iload_n 1) := ⟨by decide +kernel, rfl⟩
set_option maxRecDepth 100000 in
theorem ii_wy_finish_51 : sm_D prog_7_method_6_code 51 3 54 (.invokestatic 102) := ⟨by decide +kernel, rfl⟩
set_option maxRecDepth 100000 in
theorem ii_wy_finish_54 : sm_D prog_7_method_6_code 54 1 55 (.istore_n 2) := ⟨by decide +kernel, rfl⟩
set_option maxRecDepth 100000 in
theorem ii_wy_finish_55 : sm_D prog_7_method_6_code 55 1 56 (.aload_n 0) := ⟨by decide +kernel, rfl⟩
set_option maxRecDepth 100000 in
theorem ii_wy_finish_56 : sm_D prog_7_method_6_code 56 3 59 (.getfield 66) := ⟨by decide +kernel, rfl⟩
set_option maxRecDepth 100000 in
theorem ii_wy_finish_59 : sm_D prog_7_method_6_code 59 2 61 (.bipush (-9)) := ⟨by decide +kernel, rfl⟩
set_option maxRecDepth 100000 in
theorem ii_wy_finish_61 : sm_D prog_7_method_6_code 61 3 64 (.if_icmp .eq 11) := ⟨by decide +kernel, rfl⟩
set_option maxRecDepth 100000 in
theorem ii_wy_finish_64 : sm_D prog_7_method_6_code 64 1 65 (.iload_n 2) := ⟨by decide +kernel, rfl⟩
set_option maxRecDepth 100000 in
theorem ii_wy_finish_65 : sm_D prog_7_method_6_code 65 1 66 (.aload_n 0) := ⟨by decide +kernel, rfl⟩
set_option maxRecDepth 100000 in
theorem ii_wy_finish_66 : sm_D prog_7_method_6_code 66 3 69 (.getfield 66) := ⟨by decide +kernel, rfl⟩
set_option maxRecDepth 100000 in
theorem ii_wy_finish_69 : sm_D prog_7_method_6_code 69 3 72 (.if_icmp .ge 36) := ⟨by decide +kernel, rfl⟩
set_option maxRecDepth 100000 in
theorem ii_wy_finish_72 : sm_D prog_7_method_6_code 72 1 73 (.aload_n 0) := ⟨by decide +kernel, rfl⟩
set_option maxRecDepth 100000 in
theorem ii_wy_finish_73 : sm_D prog_7_method_6_code 73 1 74 (.iload_n 2) := ⟨by decide +kernel, rfl⟩
set_option maxRecDepth 100000 in
theorem ii_wy_finish_74 : sm_D prog_7_method_6_code 74 3 77 (.putfield 66) := ⟨by decide +kernel, rfl⟩
set_option maxRecDepth 100000 in
theorem ii_wy_finish_77 : sm_D prog_7_method_6_code 77 1 78 (.iconst 0) := ⟨by decide +kernel, rfl⟩
set_option maxRecDepth 100000 in
theorem ii_wy_finish_78 : sm_D prog_7_method_6_code 78 1 79 (.istore_n 3) := ⟨by decide +kernel, rfl⟩
set_option maxRecDepth 100000 in
theorem ii_wy_finish_79 : sm_D prog_7_method_6_code 79 1 80 (.iload_n 3) := ⟨by decide +kernel, rfl⟩
set_option maxRecDepth 100000 in
theorem ii_wy_finish_80 : sm_D prog_7_method_6_code 80 1 81 (.aload_n 0) := ⟨by decide +kernel, rfl⟩
set_option maxRecDepth 100000 in
theorem ii_wy_finish_81 : sm_D prog_7_method_6_code 81 3 84 (.getfield 49) := ⟨by decide +kernel, rfl⟩
set_option maxRecDepth 100000 in
theorem ii_wy_finish_84 : sm_D prog_7_method_6_code 84 3 87 (.if_icmp .ge 21) := ⟨by decide +kernel, rfl⟩
set_option maxRecDepth 100000 in
theorem ii_wy_finish_87 : sm_D prog_7_method_6_code 87 1 88 (.aload_n 0) := ⟨by decide +kernel, rfl⟩
set_option maxRecDepth 100000 in
theorem ii_wy_finish_88 : sm_D prog_7_method_6_code 88 3 91 (.getfield 31) := ⟨by decide +kernel, rfl⟩
set_option maxRecDepth 100000 in
theorem ii_wy_finish_91 : sm_D prog_7_method_6_code 91 1 92 (.iload_n 3) := ⟨by decide +kernel, rfl⟩
set_option maxRecDepth 100000 in
theorem ii_wy_finish_92 : sm_D prog_7_method_6_code 92 1 93 (.aload_n 0) := ⟨by decide +kernel, rfl⟩
set_option maxRecDepth 100000 in
theorem ii_wy_finish_93 : sm_D prog_7_method_6_code 93 3 96 (.getfield 22) := ⟨by decide +kernel, rfl⟩
set_option maxRecDepth 100000 in
theorem ii_wy_finish_96 : sm_D prog_7_method_6_code 96 1 97 (.iload_n 3) := ⟨by decide +kernel, rfl⟩
set_option maxRecDepth 100000 in
theorem ii_wy_finish_97 : sm_D prog_7_method_6_code 97 1 98 (.iaload) := ⟨by decide +kernel, rfl⟩
set_option maxRecDepth 100000 in
theorem ii_wy_finish_98 : sm_D prog_7_method_6_code 98 1 99 (.iastore) := ⟨by decide +kernel, rfl⟩
set_option maxRecDepth 100000 in
theorem ii_wy_finish_99 : sm_D prog_7_method_6_code 99 3 102 (.iinc 3 1) := ⟨by decide +kernel, rfl⟩
set_option maxRecDepth 100000 in
theorem ii_wy_finish_102 : sm_D prog_7_method_6_code 102 3 105 (.goto (-23)) := ⟨by decide +kernel, rfl⟩
set_option maxRecDepth 100000 in
theorem ii_wy_finish_105 : sm_D prog_7_method_6_code 105 1 106 (.aload_n 0) := ⟨by decide +kernel, rfl⟩
set_option maxRecDepth 100000 in
theorem ii_wy_finish_106 : sm_D prog_7_method_6_code 106 3 109 (.getfield 63) := ⟨by decide +kernel, rfl⟩
set_option maxRecDepth 100000 in
theorem ii_wy_finish_109 : sm_D prog_7_method_6_code 109 2 111 (.bipush (-9)) := ⟨by decide +kernel, rfl⟩
set_option maxRecDepth 100000 in
theorem ii_wy_finish_111 : sm_D prog_7_method_6_code 111 3 114 (.if_icmp .eq 7) := ⟨by decide +kernel, rfl⟩
set_option maxRecDepth 100000 in
theorem ii_wy_finish_114 : sm_D prog_7_method_6_code 114 1 115 (.aload_n 0) := ⟨by decide +kernel, rfl⟩
set_option maxRecDepth 100000 in
theorem ii_wy_finish_115 : sm_D prog_7_method_6_code 115 3 118 (.invokevirtual 108) := ⟨by decide +kernel, rfl⟩
set_option maxRecDepth 100000 in
theorem ii_wy_finish_118 : sm_D prog_7_method_6_code 118 1 119 (.return_) := ⟨by decide +kernel, rfl⟩
noncomputable def ff_wy_finish_105   (w : sm_Mem) : sm_R := (if (w.1 49 12) = (-9 : Int32) then (some (.null, w)) else (sm_cV (ff_wy_weighGuest  w) fun w2 => (some (.null, w2))))
set_option maxHeartbeats 4000000 in
set_option maxRecDepth 100000 in
theorem ss_wy_finish_105 {E : Nat × (Nat → Int32)}   (w : sm_Mem) : sm_Sim E (mi_wy_finish) 105 [some (.ref 49), none, none, none] [] w (ff_wy_finish_105   w) := by
  unfold ff_wy_finish_105
  refine sm_aload_n ii_wy_finish_105 rfl ?_
  refine sm_getI ii_wy_finish_106 fl_wy_63 (k := 49) rfl ?_
  refine sm_bipush (-9 : Int32) ii_wy_finish_109 (by decide) ?_
  refine sm_icmp_eq 118 ii_wy_finish_111 (by decide) ?_ ?_
  · exact sm_vret ii_wy_finish_118 rfl
  · refine sm_aload_n ii_wy_finish_114 rfl ?_
    refine sm_cvV [] [] rfl ii_wy_finish_115 ml_wy_108 (mf_wy_weighGuest) (mv_wy_weighGuest) (Nat.le_of_ble_eq_true rfl) rfl 5 rfl rfl rfl rfl (mc_wy_weighGuest  w) (fun w2 => ?_)
    exact sm_vret ii_wy_finish_118 rfl
noncomputable def ff_wy_finish_79_b  (self79 : Int32 → sm_Mem → sm_R) (a3 : Int32) (w : sm_Mem) : sm_R := (if (w.1 49 3) ≤ a3 then ff_wy_finish_105  w else (Option.bind (sm_rd w 52 5 a3) fun x3 => (Option.bind (sm_wr w 55 5 a3 x3) fun w4 => self79 ((a3 + (1 : Int32))) w4)))
noncomputable def ff_wy_finish_79_f  : Nat → Int32 → sm_Mem → sm_R
  | 0, _, _ => none
  | n + 1, a3, w => ff_wy_finish_79_b  (ff_wy_finish_79_f  n) a3 w
noncomputable def ff_wy_finish_79  (a3 : Int32) (w : sm_Mem) : sm_R := ff_wy_finish_79_f  sm_N a3 w
set_option maxHeartbeats 4000000 in
set_option maxRecDepth 100000 in
theorem ss_wy_finish_79_b {E : Nat × (Nat → Int32)}  (self79 : Int32 → sm_Mem → sm_R) (hself79 : ∀ (a3 : Int32) (w : sm_Mem), sm_Sim E (mi_wy_finish) 79 [some (.ref 49), none, none, some (.int a3)] [] w (self79 a3 w)) (a3 : Int32) (w : sm_Mem) : sm_Sim E (mi_wy_finish) 79 [some (.ref 49), none, none, some (.int a3)] [] w (ff_wy_finish_79_b  self79 a3 w) := by
  unfold ff_wy_finish_79_b
  refine sm_iload_n ii_wy_finish_79 rfl ?_
  refine sm_aload_n ii_wy_finish_80 rfl ?_
  refine sm_getI ii_wy_finish_81 fl_wy_49 (k := 49) rfl ?_
  refine sm_icmp_ge 105 ii_wy_finish_84 (by decide) ?_ ?_
  · refine sm_msk [true, false, false, false] [some (.ref 49), none, none, none] rfl ?_
    exact ss_wy_finish_105  w
  · refine sm_aload_n ii_wy_finish_87 rfl ?_
    refine sm_getR 55 ii_wy_finish_88 fl_wy_31 (k := 49) rfl ?_
    refine sm_iload_n ii_wy_finish_91 rfl ?_
    refine sm_aload_n ii_wy_finish_92 rfl ?_
    refine sm_getR 52 ii_wy_finish_93 fl_wy_22 (k := 49) rfl ?_
    refine sm_iload_n ii_wy_finish_96 rfl ?_
    refine sm_iald ii_wy_finish_97 (k := 52) rfl (fun x3 => ?_)
    refine sm_iast ii_wy_finish_98 (k := 55) rfl (fun w4 => ?_)
    refine sm_iinc (a3 + (1 : Int32)) [some (.ref 49), none, none, some (.int (a3 + (1 : Int32)))] ii_wy_finish_99 rfl rfl rfl rfl ?_
    refine sm_goto 79 ii_wy_finish_102 (by decide) ?_
    exact hself79 ((a3 + (1 : Int32))) w4
set_option maxHeartbeats 4000000 in
set_option maxRecDepth 100000 in
theorem ss_wy_finish_79_f {E : Nat × (Nat → Int32)}  : ∀ (n : Nat) (a3 : Int32) (w : sm_Mem), sm_Sim E (mi_wy_finish) 79 [some (.ref 49), none, none, some (.int a3)] [] w (ff_wy_finish_79_f  n a3 w)
  | 0, _, _ => fun _ _ h => by cases h
  | n + 1, a3, w => ss_wy_finish_79_b  _ (ss_wy_finish_79_f  n) a3 w
set_option maxHeartbeats 4000000 in
set_option maxRecDepth 100000 in
theorem ss_wy_finish_79 {E : Nat × (Nat → Int32)}  (a3 : Int32) (w : sm_Mem) : sm_Sim E (mi_wy_finish) 79 [some (.ref 49), none, none, some (.int a3)] [] w (ff_wy_finish_79  a3 w) := ss_wy_finish_79_f  sm_N a3 w
noncomputable def ff_wy_finish_72  (a2 : Int32) (w : sm_Mem) : sm_R := (sm_let (sm_wI w 49 8 a2) fun w5 => ff_wy_finish_79 ((0 : Int32)) w5)
set_option maxHeartbeats 4000000 in
set_option maxRecDepth 100000 in
theorem ss_wy_finish_72 {E : Nat × (Nat → Int32)}  (a2 : Int32) (w : sm_Mem) : sm_Sim E (mi_wy_finish) 72 [some (.ref 49), none, some (.int a2), none] [] w (ff_wy_finish_72  a2 w) := by
  unfold ff_wy_finish_72
  refine sm_aload_n ii_wy_finish_72 rfl ?_
  refine sm_iload_n ii_wy_finish_73 rfl ?_
  refine sm_putI ii_wy_finish_74 fp_wy_66 (k := 49) rfl (fun w5 => ?_)
  refine sm_iconst (0 : Int32) ii_wy_finish_77 (by decide) ?_
  refine sm_istore_n [some (.ref 49), none, some (.int a2), some (.int (0 : Int32))] ii_wy_finish_78 rfl rfl ?_
  refine sm_msk [true, false, false, true] [some (.ref 49), none, none, some (.int (0 : Int32))] rfl ?_
  exact ss_wy_finish_79 ((0 : Int32)) w5
noncomputable def ff_wy_finish_30  (a1 : Int32) (w : sm_Mem) : sm_R := (sm_let (sm_wI w 49 10 ((w.1 49 10) &&& a1)) fun w6 => (sm_let (sm_wI w6 49 11 ((w6.1 49 11) ||| a1)) fun w7 => (sm_cI (ff_ig_bitCount (a1) w7) fun x8 w9 => (if (w9.1 49 8) = (-9 : Int32) then ff_wy_finish_72 (x8) w9 else (if (w9.1 49 8) ≤ x8 then ff_wy_finish_105  w9 else ff_wy_finish_72 (x8) w9)))))
set_option maxHeartbeats 4000000 in
set_option maxRecDepth 100000 in
theorem ss_wy_finish_30 {E : Nat × (Nat → Int32)}  (a1 : Int32) (w : sm_Mem) : sm_Sim E (mi_wy_finish) 30 [some (.ref 49), some (.int a1), none, none] [] w (ff_wy_finish_30  a1 w) := by
  unfold ff_wy_finish_30
  refine sm_aload_n ii_wy_finish_30 rfl ?_
  refine sm_dupR ii_wy_finish_31 ?_
  refine sm_getI ii_wy_finish_32 fl_wy_72 (k := 49) rfl ?_
  refine sm_iload_n ii_wy_finish_35 rfl ?_
  refine sm_iand ii_wy_finish_36 ?_
  refine sm_putI ii_wy_finish_37 fp_wy_72 (k := 49) rfl (fun w6 => ?_)
  refine sm_aload_n ii_wy_finish_40 rfl ?_
  refine sm_dupR ii_wy_finish_41 ?_
  refine sm_getI ii_wy_finish_42 fl_wy_75 (k := 49) rfl ?_
  refine sm_iload_n ii_wy_finish_45 rfl ?_
  refine sm_ior ii_wy_finish_46 ?_
  refine sm_putI ii_wy_finish_47 fp_wy_75 (k := 49) rfl (fun w7 => ?_)
  refine sm_iload_n ii_wy_finish_50 rfl ?_
  refine sm_csI [.int a1] [] rfl ii_wy_finish_51 ml_wy_102 (mf_ig_bitCount) (mv_ig_bitCount) (Nat.le_of_ble_eq_true rfl) rfl rfl rfl (mc_ig_bitCount (a1) w7) (fun x8 w9 => ?_)
  refine sm_istore_n [some (.ref 49), some (.int a1), some (.int x8), none] ii_wy_finish_54 rfl rfl ?_
  refine sm_aload_n ii_wy_finish_55 rfl ?_
  refine sm_getI ii_wy_finish_56 fl_wy_66 (k := 49) rfl ?_
  refine sm_bipush (-9 : Int32) ii_wy_finish_59 (by decide) ?_
  refine sm_icmp_eq 72 ii_wy_finish_61 (by decide) ?_ ?_
  · refine sm_msk [true, false, true, false] [some (.ref 49), none, some (.int x8), none] rfl ?_
    exact ss_wy_finish_72 (x8) w9
  · refine sm_iload_n ii_wy_finish_64 rfl ?_
    refine sm_aload_n ii_wy_finish_65 rfl ?_
    refine sm_getI ii_wy_finish_66 fl_wy_66 (k := 49) rfl ?_
    refine sm_icmp_ge 105 ii_wy_finish_69 (by decide) ?_ ?_
    · refine sm_msk [true, false, false, false] [some (.ref 49), none, none, none] rfl ?_
      exact ss_wy_finish_105  w9
    · refine sm_msk [true, false, true, false] [some (.ref 49), none, some (.int x8), none] rfl ?_
      exact ss_wy_finish_72 (x8) w9
noncomputable def ff_wy_finish  (a1 : Int32) (w : sm_Mem) : sm_R := (Option.bind (sm_rd w 53 6 (w.1 49 3)) fun x10 => (if x10 = (1 : Int32) then (if (w.1 49 3) ≤ (0 : Int32) then ff_wy_finish_30 (a1) w else (Option.bind (sm_rd w 52 5 (0 : Int32)) fun x11 => (sm_let (sm_wI w 49 9 x11) fun w12 => ff_wy_finish_30 (a1) w12))) else ff_wy_finish_30 (a1) w))
set_option maxHeartbeats 4000000 in
set_option maxRecDepth 100000 in
theorem ss_wy_finish_0 {E : Nat × (Nat → Int32)}  (a1 : Int32) (w : sm_Mem) : sm_Sim E (mi_wy_finish) 0 [some (.ref 49), some (.int a1), none, none] [] w (ff_wy_finish  a1 w) := by
  unfold ff_wy_finish
  refine sm_aload_n ii_wy_finish_0 rfl ?_
  refine sm_getR 53 ii_wy_finish_1 fl_wy_25 (k := 49) rfl ?_
  refine sm_aload_n ii_wy_finish_4 rfl ?_
  refine sm_getI ii_wy_finish_5 fl_wy_49 (k := 49) rfl ?_
  refine sm_iald ii_wy_finish_8 (k := 53) rfl (fun x10 => ?_)
  refine sm_iconst (1 : Int32) ii_wy_finish_9 (by decide) ?_
  refine sm_icmp_ne 30 ii_wy_finish_10 (by decide) ?_ ?_
  · refine sm_aload_n ii_wy_finish_13 rfl ?_
    refine sm_getI ii_wy_finish_14 fl_wy_49 (k := 49) rfl ?_
    refine sm_if_le 30 ii_wy_finish_17 (by decide) ?_ ?_
    · exact ss_wy_finish_30 (a1) w
    · refine sm_aload_n ii_wy_finish_20 rfl ?_
      refine sm_aload_n ii_wy_finish_21 rfl ?_
      refine sm_getR 52 ii_wy_finish_22 fl_wy_22 (k := 49) rfl ?_
      refine sm_iconst (0 : Int32) ii_wy_finish_25 (by decide) ?_
      refine sm_iald ii_wy_finish_26 (k := 52) rfl (fun x11 => ?_)
      refine sm_putI ii_wy_finish_27 fp_wy_69 (k := 49) rfl (fun w12 => ?_)
      exact ss_wy_finish_30 (a1) w12
  · exact ss_wy_finish_30 (a1) w
set_option maxHeartbeats 4000000 in
set_option maxRecDepth 100000 in
theorem mc_wy_finish (a1 : Int32) (w : sm_Mem) : sm_MC mi_wy_finish [.ref 49, .int a1] w (ff_wy_finish a1 w) := sm_MC_of (0, fun _ => 0) (by decide +kernel) (by decide) rfl (Nat.le_of_ble_eq_true rfl) (ss_wy_finish_0 a1 w)
abbrev mi_hs_pop : sm_MI := (⟨"HerOrders$House", "pop", "()V"⟩, prog_3_method_10_code, 1, none, 1)
set_option maxRecDepth 100000 in
theorem mf_hs_pop : sm_MF mi_hs_pop 0 := ⟨List.mem_of_getElem? (i := 670) (by decide +kernel), List.mem_of_getElem? (i := 128) (by decide +kernel), ⟨by decide, by decide⟩, by decide +kernel⟩
set_option maxRecDepth 100000 in
theorem mv_hs_pop : sm_MFV mi_hs_pop := ⟨List.mem_of_getElem? (i := 669) (by decide +kernel), List.mem_of_getElem? (i := 35) (by decide +kernel)⟩
set_option maxRecDepth 100000 in
theorem ii_hs_pop_0 : sm_D prog_3_method_10_code 0 1 1 (.aload_n 0) := ⟨by decide +kernel, rfl⟩
set_option maxRecDepth 100000 in
theorem ii_hs_pop_1 : sm_D prog_3_method_10_code 1 3 4 (.getfield 89) := ⟨by decide +kernel, rfl⟩
set_option maxRecDepth 100000 in
theorem ii_hs_pop_4 : sm_D prog_3_method_10_code 4 3 7 (.ifCond .gt 4) := ⟨by decide +kernel, rfl⟩
set_option maxRecDepth 100000 in
theorem ii_hs_pop_7 : sm_D prog_3_method_10_code 7 1 8 (.return_) := ⟨by decide +kernel, rfl⟩
set_option maxRecDepth 100000 in
theorem ii_hs_pop_8 : sm_D prog_3_method_10_code 8 1 9 (.aload_n 0) := ⟨by decide +kernel, rfl⟩
set_option maxRecDepth 100000 in
theorem ii_hs_pop_9 : sm_D prog_3_method_10_code 9 1 10 (.dup) := ⟨by decide +kernel, rfl⟩
set_option maxRecDepth 100000 in
theorem ii_hs_pop_10 : sm_D prog_3_method_10_code 10 3 13 (.getfield 89) := ⟨by decide +kernel, rfl⟩
set_option maxRecDepth 100000 in
theorem ii_hs_pop_13 : sm_D prog_3_method_10_code 13 1 14 (.iconst 1) := ⟨by decide +kernel, rfl⟩
set_option maxRecDepth 100000 in
theorem ii_hs_pop_14 : sm_D prog_3_method_10_code 14 1 15 (.isub) := ⟨by decide +kernel, rfl⟩
set_option maxRecDepth 100000 in
theorem ii_hs_pop_15 : sm_D prog_3_method_10_code 15 3 18 (.putfield 89) := ⟨by decide +kernel, rfl⟩
set_option maxRecDepth 100000 in
theorem ii_hs_pop_18 : sm_D prog_3_method_10_code 18 1 19 (.aload_n 0) := ⟨by decide +kernel, rfl⟩
set_option maxRecDepth 100000 in
theorem ii_hs_pop_19 : sm_D prog_3_method_10_code 19 3 22 (.getfield 27) := ⟨by decide +kernel, rfl⟩
set_option maxRecDepth 100000 in
theorem ii_hs_pop_22 : sm_D prog_3_method_10_code 22 1 23 (.aload_n 0) := ⟨by decide +kernel, rfl⟩
set_option maxRecDepth 100000 in
theorem ii_hs_pop_23 : sm_D prog_3_method_10_code 23 3 26 (.getfield 33) := ⟨by decide +kernel, rfl⟩
set_option maxRecDepth 100000 in
theorem ii_hs_pop_26 : sm_D prog_3_method_10_code 26 1 27 (.aload_n 0) := ⟨by decide +kernel, rfl⟩
set_option maxRecDepth 100000 in
theorem ii_hs_pop_27 : sm_D prog_3_method_10_code 27 3 30 (.getfield 89) := ⟨by decide +kernel, rfl⟩
set_option maxRecDepth 100000 in
theorem ii_hs_pop_30 : sm_D prog_3_method_10_code 30 1 31 (.iaload) := ⟨by decide +kernel, rfl⟩
set_option maxRecDepth 100000 in
theorem ii_hs_pop_31 : sm_D prog_3_method_10_code 31 1 32 (.dup2) := ⟨by decide +kernel, rfl⟩
set_option maxRecDepth 100000 in
theorem ii_hs_pop_32 : sm_D prog_3_method_10_code 32 1 33 (.iaload) := ⟨by decide +kernel, rfl⟩
set_option maxRecDepth 100000 in
theorem ii_hs_pop_33 : sm_D prog_3_method_10_code 33 1 34 (.iconst 1) := ⟨by decide +kernel, rfl⟩
set_option maxRecDepth 100000 in
theorem ii_hs_pop_34 : sm_D prog_3_method_10_code 34 1 35 (.iadd) := ⟨by decide +kernel, rfl⟩
set_option maxRecDepth 100000 in
theorem ii_hs_pop_35 : sm_D prog_3_method_10_code 35 1 36 (.iastore) := ⟨by decide +kernel, rfl⟩
set_option maxRecDepth 100000 in
theorem ii_hs_pop_36 : sm_D prog_3_method_10_code 36 1 37 (.return_) := ⟨by decide +kernel, rfl⟩
noncomputable def ff_hs_pop   (w : sm_Mem) : sm_R := (if (0 : Int32) < (w.1 36 11) then (sm_let (sm_wI w 36 11 ((w.1 36 11) - (1 : Int32))) fun w1 => (Option.bind (sm_rd w1 44 8 (w1.1 36 11)) fun x2 => (Option.bind (sm_rd w1 42 6 x2) fun x3 => (Option.bind (sm_wr w1 42 6 x2 (x3 + (1 : Int32))) fun w4 => (some (.null, w4)))))) else (some (.null, w)))
set_option maxHeartbeats 4000000 in
set_option maxRecDepth 100000 in
theorem ss_hs_pop_0 {E : Nat × (Nat → Int32)}   (w : sm_Mem) : sm_Sim E (mi_hs_pop) 0 [some (.ref 36)] [] w (ff_hs_pop   w) := by
  unfold ff_hs_pop
  refine sm_aload_n ii_hs_pop_0 rfl ?_
  refine sm_getI ii_hs_pop_1 fl_hs_89 (k := 36) rfl ?_
  refine sm_if_gt 8 ii_hs_pop_4 (by decide) ?_ ?_
  · refine sm_aload_n ii_hs_pop_8 rfl ?_
    refine sm_dupR ii_hs_pop_9 ?_
    refine sm_getI ii_hs_pop_10 fl_hs_89 (k := 36) rfl ?_
    refine sm_iconst (1 : Int32) ii_hs_pop_13 (by decide) ?_
    refine sm_isub ii_hs_pop_14 ?_
    refine sm_putI ii_hs_pop_15 fp_hs_89 (k := 36) rfl (fun w1 => ?_)
    refine sm_aload_n ii_hs_pop_18 rfl ?_
    refine sm_getR 42 ii_hs_pop_19 fl_hs_27 (k := 36) rfl ?_
    refine sm_aload_n ii_hs_pop_22 rfl ?_
    refine sm_getR 44 ii_hs_pop_23 fl_hs_33 (k := 36) rfl ?_
    refine sm_aload_n ii_hs_pop_26 rfl ?_
    refine sm_getI ii_hs_pop_27 fl_hs_89 (k := 36) rfl ?_
    refine sm_iald ii_hs_pop_30 (k := 44) rfl (fun x2 => ?_)
    refine sm_dup2 ii_hs_pop_31 ?_
    refine sm_iald ii_hs_pop_32 (k := 42) rfl (fun x3 => ?_)
    refine sm_iconst (1 : Int32) ii_hs_pop_33 (by decide) ?_
    refine sm_iadd ii_hs_pop_34 ?_
    refine sm_iast ii_hs_pop_35 (k := 42) rfl (fun w4 => ?_)
    exact sm_vret ii_hs_pop_36 rfl
  · exact sm_vret ii_hs_pop_7 rfl
set_option maxHeartbeats 4000000 in
set_option maxRecDepth 100000 in
theorem mc_hs_pop  (w : sm_Mem) : sm_MC mi_hs_pop [.ref 36] w (ff_hs_pop  w) := sm_MC_of (0, fun _ => 0) (by decide +kernel) (by decide) rfl (Nat.le_of_ble_eq_true rfl) (ss_hs_pop_0  w)
abbrev mi_wy_goOn (k : Nat) : sm_MI := (⟨"HerOrders$Ways", "goOn", "(II)V"⟩, prog_7_method_5_code, 4, none, k)
set_option maxRecDepth 100000 in
theorem mf_wy_goOn_z : sm_MF (mi_wy_goOn 0) 2 := ⟨List.mem_of_getElem? (i := 652) (by decide +kernel), List.mem_of_getElem? (i := 129) (by decide +kernel), ⟨by decide, by decide⟩, by decide +kernel⟩
set_option maxRecDepth 100000 in
theorem mf_wy_goOn (k : Nat) : sm_MF (mi_wy_goOn k) 2 := mf_wy_goOn_z
set_option maxRecDepth 100000 in
theorem mv_wy_goOn_z : sm_MFV (mi_wy_goOn 0) := ⟨List.mem_of_getElem? (i := 651) (by decide +kernel), List.mem_of_getElem? (i := 32) (by decide +kernel)⟩
set_option maxRecDepth 100000 in
theorem mv_wy_goOn (k : Nat) : sm_MFV (mi_wy_goOn k) := mv_wy_goOn_z
set_option maxRecDepth 100000 in
theorem ii_wy_goOn_0 : sm_D prog_7_method_5_code 0 1 1 (.aload_n 0) := ⟨by decide +kernel, rfl⟩
set_option maxRecDepth 100000 in
theorem ii_wy_goOn_1 : sm_D prog_7_method_5_code 1 3 4 (.getfield 25) := ⟨by decide +kernel, rfl⟩
set_option maxRecDepth 100000 in
theorem ii_wy_goOn_4 : sm_D prog_7_method_5_code 4 1 5 (.iload_n 1) := ⟨by decide +kernel, rfl⟩
set_option maxRecDepth 100000 in
theorem ii_wy_goOn_5 : sm_D prog_7_method_5_code 5 1 6 (.dup2) := ⟨by decide +kernel, rfl⟩
set_option maxRecDepth 100000 in
theorem ii_wy_goOn_6 : sm_D prog_7_method_5_code 6 1 7 (.iaload) := ⟨by decide +kernel, rfl⟩
set_option maxRecDepth 100000 in
theorem ii_wy_goOn_7 : sm_D prog_7_method_5_code 7 1 8 (.iconst 1) := ⟨by decide +kernel, rfl⟩
set_option maxRecDepth 100000 in
theorem ii_wy_goOn_8 : sm_D prog_7_method_5_code 8 1 9 (.iadd) := ⟨by decide +kernel, rfl⟩
set_option maxRecDepth 100000 in
theorem ii_wy_goOn_9 : sm_D prog_7_method_5_code 9 1 10 (.iastore) := ⟨by decide +kernel, rfl⟩
set_option maxRecDepth 100000 in
theorem ii_wy_goOn_10 : sm_D prog_7_method_5_code 10 1 11 (.aload_n 0) := ⟨by decide +kernel, rfl⟩
set_option maxRecDepth 100000 in
theorem ii_wy_goOn_11 : sm_D prog_7_method_5_code 11 3 14 (.getfield 28) := ⟨by decide +kernel, rfl⟩
set_option maxRecDepth 100000 in
theorem ii_wy_goOn_14 : sm_D prog_7_method_5_code 14 1 15 (.iload_n 2) := ⟨by decide +kernel, rfl⟩
set_option maxRecDepth 100000 in
theorem ii_wy_goOn_15 : sm_D prog_7_method_5_code 15 1 16 (.aload_n 0) := ⟨by decide +kernel, rfl⟩
set_option maxRecDepth 100000 in
theorem ii_wy_goOn_16 : sm_D prog_7_method_5_code 16 3 19 (.getfield 28) := ⟨by decide +kernel, rfl⟩
set_option maxRecDepth 100000 in
theorem ii_wy_goOn_19 : sm_D prog_7_method_5_code 19 1 20 (.iload_n 2) := ⟨by decide +kernel, rfl⟩
set_option maxRecDepth 100000 in
theorem ii_wy_goOn_20 : sm_D prog_7_method_5_code 20 1 21 (.iaload) := ⟨by decide +kernel, rfl⟩
set_option maxRecDepth 100000 in
theorem ii_wy_goOn_21 : sm_D prog_7_method_5_code 21 1 22 (.iload_n 1) := ⟨by decide +kernel, rfl⟩
set_option maxRecDepth 100000 in
theorem ii_wy_goOn_22 : sm_D prog_7_method_5_code 22 3 25 (.invokestatic 46) := ⟨by decide +kernel, rfl⟩
set_option maxRecDepth 100000 in
theorem ii_wy_goOn_25 : sm_D prog_7_method_5_code 25 1 26 (.iastore) := ⟨by decide +kernel, rfl⟩
set_option maxRecDepth 100000 in
theorem ii_wy_goOn_26 : sm_D prog_7_method_5_code 26 1 27 (.iload_n 1) := ⟨by decide +kernel, rfl⟩
set_option maxRecDepth 100000 in
theorem ii_wy_goOn_27 : sm_D prog_7_method_5_code 27 1 28 (.aload_n 0) := ⟨by decide +kernel, rfl⟩
set_option maxRecDepth 100000 in
theorem ii_wy_goOn_28 : sm_D prog_7_method_5_code 28 3 31 (.getfield 49) := ⟨by decide +kernel, rfl⟩
set_option maxRecDepth 100000 in
theorem ii_wy_goOn_31 : sm_D prog_7_method_5_code 31 3 34 (.if_icmp .lt 9) := ⟨by decide +kernel, rfl⟩
set_option maxRecDepth 100000 in
theorem ii_wy_goOn_34 : sm_D prog_7_method_5_code 34 1 35 (.aload_n 0) := ⟨by decide +kernel, rfl⟩
set_option maxRecDepth 100000 in
theorem ii_wy_goOn_35 : sm_D prog_7_method_5_code 35 1 36 (.iload_n 2) := ⟨by decide +kernel, rfl⟩
set_option maxRecDepth 100000 in
theorem ii_wy_goOn_36 : sm_D prog_7_method_5_code 36 3 39 (.invokevirtual 81) := ⟨by decide +kernel, rfl⟩
set_option maxRecDepth 100000 in
theorem ii_wy_goOn_39 : sm_D prog_7_method_5_code 39 1 40 (.return_) := ⟨by decide +kernel, rfl⟩
set_option maxRecDepth 100000 in
theorem ii_wy_goOn_40 : sm_D prog_7_method_5_code 40 1 41 (.iconst 0) := ⟨by decide +kernel, rfl⟩
set_option maxRecDepth 100000 in
theorem ii_wy_goOn_41 : sm_D prog_7_method_5_code 41 1 42 (.istore_n 3) := ⟨by decide +kernel, rfl⟩
set_option maxRecDepth 100000 in
theorem ii_wy_goOn_42 : sm_D prog_7_method_5_code 42 1 43 (.iload_n 3) := ⟨by decide +kernel, rfl⟩
set_option maxRecDepth 100000 in
theorem ii_wy_goOn_43 : sm_D prog_7_method_5_code 43 1 44 (.aload_n 0) := ⟨by decide +kernel, rfl⟩
set_option maxRecDepth 100000 in
theorem ii_wy_goOn_44 : sm_D prog_7_method_5_code 44 3 47 (.getfield 9) := ⟨by decide +kernel, rfl⟩
set_option maxRecDepth 100000 in
theorem ii_wy_goOn_47 : sm_D prog_7_method_5_code 47 3 50 (.getfield 84) := ⟨by decide +kernel, rfl⟩
set_option maxRecDepth 100000 in
theorem ii_wy_goOn_50 : sm_D prog_7_method_5_code 50 3 53 (.if_icmp .ge 101) := ⟨by decide +kernel, rfl⟩
set_option maxRecDepth 100000 in
theorem ii_wy_goOn_53 : sm_D prog_7_method_5_code 53 1 54 (.aload_n 0) := ⟨by decide +kernel, rfl⟩
set_option maxRecDepth 100000 in
theorem ii_wy_goOn_54 : sm_D prog_7_method_5_code 54 3 57 (.getfield 19) := ⟨by decide +kernel, rfl⟩
set_option maxRecDepth 100000 in
theorem ii_wy_goOn_57 : sm_D prog_7_method_5_code 57 1 58 (.iload_n 1) := ⟨by decide +kernel, rfl⟩
set_option maxRecDepth 100000 in
theorem ii_wy_goOn_58 : sm_D prog_7_method_5_code 58 1 59 (.iaload) := ⟨by decide +kernel, rfl⟩
set_option maxRecDepth 100000 in
theorem ii_wy_goOn_59 : sm_D prog_7_method_5_code 59 2 61 (.bipush (-9)) := ⟨by decide +kernel, rfl⟩
set_option maxRecDepth 100000 in
theorem ii_wy_goOn_61 : sm_D prog_7_method_5_code 61 3 64 (.if_icmp .eq 24) := ⟨by decide +kernel, rfl⟩
set_option maxRecDepth 100000 in
theorem ii_wy_goOn_64 : sm_D prog_7_method_5_code 64 1 65 (.aload_n 0) := ⟨by decide +kernel, rfl⟩
set_option maxRecDepth 100000 in
theorem ii_wy_goOn_65 : sm_D prog_7_method_5_code 65 3 68 (.getfield 19) := ⟨by decide +kernel, rfl⟩
set_option maxRecDepth 100000 in
theorem ii_wy_goOn_68 : sm_D prog_7_method_5_code 68 1 69 (.iload_n 1) := ⟨by decide +kernel, rfl⟩
set_option maxRecDepth 100000 in
theorem ii_wy_goOn_69 : sm_D prog_7_method_5_code 69 1 70 (.iaload) := ⟨by decide +kernel, rfl⟩
set_option maxRecDepth 100000 in
theorem ii_wy_goOn_70 : sm_D prog_7_method_5_code 70 1 71 (.aload_n 0) := ⟨by decide +kernel, rfl⟩
set_option maxRecDepth 100000 in
theorem ii_wy_goOn_71 : sm_D prog_7_method_5_code 71 3 74 (.getfield 9) := ⟨by decide +kernel, rfl⟩
set_option maxRecDepth 100000 in
theorem ii_wy_goOn_74 : sm_D prog_7_method_5_code 74 3 77 (.getfield 89) := ⟨by decide +kernel, rfl⟩
set_option maxRecDepth 100000 in
theorem ii_wy_goOn_77 : sm_D prog_7_method_5_code 77 1 78 (.iload_n 3) := ⟨by decide +kernel, rfl⟩
set_option maxRecDepth 100000 in
theorem ii_wy_goOn_78 : sm_D prog_7_method_5_code 78 1 79 (.iaload) := ⟨by decide +kernel, rfl⟩
set_option maxRecDepth 100000 in
theorem ii_wy_goOn_79 : sm_D prog_7_method_5_code 79 3 82 (.if_icmp .eq 6) := ⟨by decide +kernel, rfl⟩
set_option maxRecDepth 100000 in
theorem ii_wy_goOn_82 : sm_D prog_7_method_5_code 82 3 85 (.goto 63) := ⟨by decide +kernel, rfl⟩
set_option maxRecDepth 100000 in
theorem ii_wy_goOn_85 : sm_D prog_7_method_5_code 85 1 86 (.aload_n 0) := ⟨by decide +kernel, rfl⟩
set_option maxRecDepth 100000 in
theorem ii_wy_goOn_86 : sm_D prog_7_method_5_code 86 3 89 (.getfield 9) := ⟨by decide +kernel, rfl⟩
set_option maxRecDepth 100000 in
theorem ii_wy_goOn_89 : sm_D prog_7_method_5_code 89 1 90 (.iload_n 3) := ⟨by decide +kernel, rfl⟩
set_option maxRecDepth 100000 in
theorem ii_wy_goOn_90 : sm_D prog_7_method_5_code 90 1 91 (.aload_n 0) := ⟨by decide +kernel, rfl⟩
set_option maxRecDepth 100000 in
theorem ii_wy_goOn_91 : sm_D prog_7_method_5_code 91 3 94 (.getfield 15) := ⟨by decide +kernel, rfl⟩
set_option maxRecDepth 100000 in
theorem ii_wy_goOn_94 : sm_D prog_7_method_5_code 94 1 95 (.iload_n 1) := ⟨by decide +kernel, rfl⟩
set_option maxRecDepth 100000 in
theorem ii_wy_goOn_95 : sm_D prog_7_method_5_code 95 1 96 (.iaload) := ⟨by decide +kernel, rfl⟩
set_option maxRecDepth 100000 in
theorem ii_wy_goOn_96 : sm_D prog_7_method_5_code 96 3 99 (.invokevirtual 92) := ⟨by decide +kernel, rfl⟩
set_option maxRecDepth 100000 in
theorem ii_wy_goOn_99 : sm_D prog_7_method_5_code 99 3 102 (.ifCond .ne 6) := ⟨by decide +kernel, rfl⟩
set_option maxRecDepth 100000 in
theorem ii_wy_goOn_102 : sm_D prog_7_method_5_code 102 3 105 (.goto 43) := ⟨by decide +kernel, rfl⟩
set_option maxRecDepth 100000 in
theorem ii_wy_goOn_105 : sm_D prog_7_method_5_code 105 1 106 (.aload_n 0) := ⟨by decide +kernel, rfl⟩
set_option maxRecDepth 100000 in
theorem ii_wy_goOn_106 : sm_D prog_7_method_5_code 106 3 109 (.getfield 22) := ⟨by decide +kernel, rfl⟩
set_option maxRecDepth 100000 in
theorem ii_wy_goOn_109 : sm_D prog_7_method_5_code 109 1 110 (.iload_n 1) := ⟨by decide +kernel, rfl⟩
set_option maxRecDepth 100000 in
theorem ii_wy_goOn_110 : sm_D prog_7_method_5_code 110 1 111 (.iload_n 3) := ⟨by decide +kernel, rfl⟩
set_option maxRecDepth 100000 in
theorem ii_wy_goOn_111 : sm_D prog_7_method_5_code 111 1 112 (.iastore) := ⟨by decide +kernel, rfl⟩
set_option maxRecDepth 100000 in
theorem ii_wy_goOn_112 : sm_D prog_7_method_5_code 112 1 113 (.aload_n 0) := ⟨by decide +kernel, rfl⟩
set_option maxRecDepth 100000 in
theorem ii_wy_goOn_113 : sm_D prog_7_method_5_code 113 3 116 (.getfield 9) := ⟨by decide +kernel, rfl⟩
set_option maxRecDepth 100000 in
theorem ii_wy_goOn_116 : sm_D prog_7_method_5_code 116 1 117 (.iload_n 3) := ⟨by decide +kernel, rfl⟩
set_option maxRecDepth 100000 in
theorem ii_wy_goOn_117 : sm_D prog_7_method_5_code 117 1 118 (.aload_n 0) := ⟨by decide +kernel, rfl⟩
set_option maxRecDepth 100000 in
theorem ii_wy_goOn_118 : sm_D prog_7_method_5_code 118 3 121 (.getfield 15) := ⟨by decide +kernel, rfl⟩
set_option maxRecDepth 100000 in
theorem ii_wy_goOn_121 : sm_D prog_7_method_5_code 121 1 122 (.iload_n 1) := ⟨by decide +kernel, rfl⟩
set_option maxRecDepth 100000 in
theorem ii_wy_goOn_122 : sm_D prog_7_method_5_code 122 1 123 (.iaload) := ⟨by decide +kernel, rfl⟩
set_option maxRecDepth 100000 in
theorem ii_wy_goOn_123 : sm_D prog_7_method_5_code 123 3 126 (.invokevirtual 96) := ⟨by decide +kernel, rfl⟩
set_option maxRecDepth 100000 in
theorem ii_wy_goOn_126 : sm_D prog_7_method_5_code 126 1 127 (.aload_n 0) := ⟨by decide +kernel, rfl⟩
set_option maxRecDepth 100000 in
theorem ii_wy_goOn_127 : sm_D prog_7_method_5_code 127 1 128 (.iload_n 1) := ⟨by decide +kernel, rfl⟩
set_option maxRecDepth 100000 in
theorem ii_wy_goOn_128 : sm_D prog_7_method_5_code 128 1 129 (.iconst 1) := ⟨by decide +kernel, rfl⟩
set_option maxRecDepth 100000 in
theorem ii_wy_goOn_129 : sm_D prog_7_method_5_code 129 1 130 (.iadd) := ⟨by decide +kernel, rfl⟩
set_option maxRecDepth 100000 in
theorem ii_wy_goOn_130 : sm_D prog_7_method_5_code 130 1 131 (.iload_n 2) := ⟨by decide +kernel, rfl⟩
set_option maxRecDepth 100000 in
theorem ii_wy_goOn_131 : sm_D prog_7_method_5_code 131 1 132 (.iconst 1) := ⟨by decide +kernel, rfl⟩
set_option maxRecDepth 100000 in
theorem ii_wy_goOn_132 : sm_D prog_7_method_5_code 132 1 133 (.iload_n 3) := ⟨by decide +kernel, rfl⟩
set_option maxRecDepth 100000 in
theorem ii_wy_goOn_133 : sm_D prog_7_method_5_code 133 1 134 (.ishl) := ⟨by decide +kernel, rfl⟩
set_option maxRecDepth 100000 in
theorem ii_wy_goOn_134 : sm_D prog_7_method_5_code 134 1 135 (.ior) := ⟨by decide +kernel, rfl⟩
set_option maxRecDepth 100000 in
theorem ii_wy_goOn_135 : sm_D prog_7_method_5_code 135 3 138 (.invokevirtual 59) := ⟨by decide +kernel, rfl⟩
set_option maxRecDepth 100000 in
theorem ii_wy_goOn_138 : sm_D prog_7_method_5_code 138 1 139 (.aload_n 0) := ⟨by decide +kernel, rfl⟩
set_option maxRecDepth 100000 in
theorem ii_wy_goOn_139 : sm_D prog_7_method_5_code 139 3 142 (.getfield 9) := ⟨by decide +kernel, rfl⟩
set_option maxRecDepth 100000 in
theorem ii_wy_goOn_142 : sm_D prog_7_method_5_code 142 3 145 (.invokevirtual 99) := ⟨by decide +kernel, rfl⟩
set_option maxRecDepth 100000 in
theorem ii_wy_goOn_145 : sm_D prog_7_method_5_code 145 3 148 (.iinc 3 1) := ⟨by decide +kernel, rfl⟩
set_option maxRecDepth 100000 in
theorem ii_wy_goOn_148 : sm_D prog_7_method_5_code 148 3 151 (.goto (-106)) := ⟨by decide +kernel, rfl⟩
set_option maxRecDepth 100000 in
theorem ii_wy_goOn_151 : sm_D prog_7_method_5_code 151 1 152 (.return_) := ⟨by decide +kernel, rfl⟩
noncomputable def ff_wy_goOn_85 (rc : Int32 → Int32 → sm_Mem → sm_R) (self42 : Int32 → Int32 → Int32 → sm_Mem → sm_R) (a1 : Int32) (a2 : Int32) (a3 : Int32) (w : sm_Mem) : sm_R := (Option.bind (sm_rd w 50 5 a1) fun x1 => (sm_cI (ff_hs_can (a3) (x1) w) fun x2 w3 => (if x2 = (0 : Int32) then self42 (a1) (a2) ((a3 + (1 : Int32))) w3 else (Option.bind (sm_wr w3 52 5 a1 a3) fun w4 => (Option.bind (sm_rd w4 50 5 a1) fun x5 => (sm_cV (ff_hs_push (a3) (x5) w4) fun w7 => (sm_cV (rc ((a1 + (1 : Int32))) ((a2 ||| ((1 : Int32) <<< (a3 &&& (31 : Int32))))) w7) fun w9 => (sm_cV (ff_hs_pop  w9) fun w11 => self42 (a1) (a2) ((a3 + (1 : Int32))) w11))))))))
set_option maxHeartbeats 4000000 in
set_option maxRecDepth 100000 in
theorem ss_wy_goOn_85 {E : Nat × (Nat → Int32)} {dn : Nat} (rc : Int32 → Int32 → sm_Mem → sm_R) (hrc : ∀ (a1 : Int32) (a2 : Int32) (w : sm_Mem), sm_MC (mi_wy_goOn (5 + dn)) [.ref 49, .int a1, .int a2] w (rc a1 a2 w)) (self42 : Int32 → Int32 → Int32 → sm_Mem → sm_R) (hself42 : ∀ (a1 : Int32) (a2 : Int32) (a3 : Int32) (w : sm_Mem), sm_Sim E (mi_wy_goOn (5 + dn + 1)) 42 [some (.ref 49), some (.int a1), some (.int a2), some (.int a3)] [] w (self42 a1 a2 a3 w)) (a1 : Int32) (a2 : Int32) (a3 : Int32) (w : sm_Mem) : sm_Sim E (mi_wy_goOn (5 + dn + 1)) 85 [some (.ref 49), some (.int a1), some (.int a2), some (.int a3)] [] w (ff_wy_goOn_85 rc self42 a1 a2 a3 w) := by
  unfold ff_wy_goOn_85
  refine sm_aload_n ii_wy_goOn_85 rfl ?_
  refine sm_getR 36 ii_wy_goOn_86 fl_wy_9 (k := 49) rfl ?_
  refine sm_iload_n ii_wy_goOn_89 rfl ?_
  refine sm_aload_n ii_wy_goOn_90 rfl ?_
  refine sm_getR 50 ii_wy_goOn_91 fl_wy_15 (k := 49) rfl ?_
  refine sm_iload_n ii_wy_goOn_94 rfl ?_
  refine sm_iald ii_wy_goOn_95 (k := 50) rfl (fun x1 => ?_)
  refine sm_cvI [.int a3, .int x1] [] rfl ii_wy_goOn_96 ml_wy_92 (mf_hs_can) (mv_hs_can) (sm_kle rfl) rfl 1 rfl rfl rfl rfl (mc_hs_can (a3) (x1) w) (fun x2 w3 => ?_)
  refine sm_if_ne 105 ii_wy_goOn_99 (by decide) ?_ ?_
  · refine sm_goto 145 ii_wy_goOn_102 (by decide) ?_
    refine sm_iinc (a3 + (1 : Int32)) [some (.ref 49), some (.int a1), some (.int a2), some (.int (a3 + (1 : Int32)))] ii_wy_goOn_145 rfl rfl rfl rfl ?_
    refine sm_goto 42 ii_wy_goOn_148 (by decide) ?_
    exact hself42 (a1) (a2) ((a3 + (1 : Int32))) w3
  · refine sm_aload_n ii_wy_goOn_105 rfl ?_
    refine sm_getR 52 ii_wy_goOn_106 fl_wy_22 (k := 49) rfl ?_
    refine sm_iload_n ii_wy_goOn_109 rfl ?_
    refine sm_iload_n ii_wy_goOn_110 rfl ?_
    refine sm_iast ii_wy_goOn_111 (k := 52) rfl (fun w4 => ?_)
    refine sm_aload_n ii_wy_goOn_112 rfl ?_
    refine sm_getR 36 ii_wy_goOn_113 fl_wy_9 (k := 49) rfl ?_
    refine sm_iload_n ii_wy_goOn_116 rfl ?_
    refine sm_aload_n ii_wy_goOn_117 rfl ?_
    refine sm_getR 50 ii_wy_goOn_118 fl_wy_15 (k := 49) rfl ?_
    refine sm_iload_n ii_wy_goOn_121 rfl ?_
    refine sm_iald ii_wy_goOn_122 (k := 50) rfl (fun x5 => ?_)
    refine sm_cvV [.int a3, .int x5] [] rfl ii_wy_goOn_123 ml_wy_96 (mf_hs_push) (mv_hs_push) (sm_kle rfl) rfl 1 rfl rfl rfl rfl (mc_hs_push (a3) (x5) w4) (fun w7 => ?_)
    refine sm_aload_n ii_wy_goOn_126 rfl ?_
    refine sm_iload_n ii_wy_goOn_127 rfl ?_
    refine sm_iconst (1 : Int32) ii_wy_goOn_128 (by decide) ?_
    refine sm_iadd ii_wy_goOn_129 ?_
    refine sm_iload_n ii_wy_goOn_130 rfl ?_
    refine sm_iconst (1 : Int32) ii_wy_goOn_131 (by decide) ?_
    refine sm_iload_n ii_wy_goOn_132 rfl ?_
    refine sm_ishl ii_wy_goOn_133 ?_
    refine sm_ior ii_wy_goOn_134 ?_
    refine sm_cvV [.int (a1 + (1 : Int32)), .int (a2 ||| ((1 : Int32) <<< (a3 &&& (31 : Int32))))] [] rfl ii_wy_goOn_135 ml_wy_59 (mf_wy_goOn (5 + dn)) (mv_wy_goOn (5 + dn)) (Nat.le_refl _) rfl 5 rfl rfl rfl rfl (hrc ((a1 + (1 : Int32))) ((a2 ||| ((1 : Int32) <<< (a3 &&& (31 : Int32))))) w7) (fun w9 => ?_)
    refine sm_aload_n ii_wy_goOn_138 rfl ?_
    refine sm_getR 36 ii_wy_goOn_139 fl_wy_9 (k := 49) rfl ?_
    refine sm_cvV [] [] rfl ii_wy_goOn_142 ml_wy_99 (mf_hs_pop) (mv_hs_pop) (sm_kle rfl) rfl 1 rfl rfl rfl rfl (mc_hs_pop  w9) (fun w11 => ?_)
    refine sm_iinc (a3 + (1 : Int32)) [some (.ref 49), some (.int a1), some (.int a2), some (.int (a3 + (1 : Int32)))] ii_wy_goOn_145 rfl rfl rfl rfl ?_
    refine sm_goto 42 ii_wy_goOn_148 (by decide) ?_
    exact hself42 (a1) (a2) ((a3 + (1 : Int32))) w11
noncomputable def ff_wy_goOn_42_b (rc : Int32 → Int32 → sm_Mem → sm_R)  (self42 : Int32 → Int32 → Int32 → sm_Mem → sm_R) (a1 : Int32) (a2 : Int32) (a3 : Int32) (w : sm_Mem) : sm_R := (if (w.1 36 0) ≤ a3 then (some (.null, w)) else (Option.bind (sm_rd w 51 5 a1) fun x12 => (if x12 = (-9 : Int32) then ff_wy_goOn_85 rc self42 (a1) (a2) (a3) w else (Option.bind (sm_rd w 51 5 a1) fun x13 => (Option.bind (sm_rd w 41 6 a3) fun x14 => (if x13 = x14 then ff_wy_goOn_85 rc self42 (a1) (a2) (a3) w else self42 (a1) (a2) ((a3 + (1 : Int32))) w))))))
noncomputable def ff_wy_goOn_42_f (rc : Int32 → Int32 → sm_Mem → sm_R)  : Nat → Int32 → Int32 → Int32 → sm_Mem → sm_R
  | 0, _, _, _, _ => none
  | n + 1, a1, a2, a3, w => ff_wy_goOn_42_b rc  (ff_wy_goOn_42_f rc  n) a1 a2 a3 w
noncomputable def ff_wy_goOn_42 (rc : Int32 → Int32 → sm_Mem → sm_R)  (a1 : Int32) (a2 : Int32) (a3 : Int32) (w : sm_Mem) : sm_R := ff_wy_goOn_42_f rc  sm_N a1 a2 a3 w
set_option maxHeartbeats 4000000 in
set_option maxRecDepth 100000 in
theorem ss_wy_goOn_42_b {E : Nat × (Nat → Int32)} {dn : Nat} (rc : Int32 → Int32 → sm_Mem → sm_R) (hrc : ∀ (a1 : Int32) (a2 : Int32) (w : sm_Mem), sm_MC (mi_wy_goOn (5 + dn)) [.ref 49, .int a1, .int a2] w (rc a1 a2 w))  (self42 : Int32 → Int32 → Int32 → sm_Mem → sm_R) (hself42 : ∀ (a1 : Int32) (a2 : Int32) (a3 : Int32) (w : sm_Mem), sm_Sim E (mi_wy_goOn (5 + dn + 1)) 42 [some (.ref 49), some (.int a1), some (.int a2), some (.int a3)] [] w (self42 a1 a2 a3 w)) (a1 : Int32) (a2 : Int32) (a3 : Int32) (w : sm_Mem) : sm_Sim E (mi_wy_goOn (5 + dn + 1)) 42 [some (.ref 49), some (.int a1), some (.int a2), some (.int a3)] [] w (ff_wy_goOn_42_b rc  self42 a1 a2 a3 w) := by
  unfold ff_wy_goOn_42_b
  refine sm_iload_n ii_wy_goOn_42 rfl ?_
  refine sm_aload_n ii_wy_goOn_43 rfl ?_
  refine sm_getR 36 ii_wy_goOn_44 fl_wy_9 (k := 49) rfl ?_
  refine sm_getI ii_wy_goOn_47 fl_wy_84 (k := 36) rfl ?_
  refine sm_icmp_ge 151 ii_wy_goOn_50 (by decide) ?_ ?_
  · exact sm_vret ii_wy_goOn_151 rfl
  · refine sm_aload_n ii_wy_goOn_53 rfl ?_
    refine sm_getR 51 ii_wy_goOn_54 fl_wy_19 (k := 49) rfl ?_
    refine sm_iload_n ii_wy_goOn_57 rfl ?_
    refine sm_iald ii_wy_goOn_58 (k := 51) rfl (fun x12 => ?_)
    refine sm_bipush (-9 : Int32) ii_wy_goOn_59 (by decide) ?_
    refine sm_icmp_eq 85 ii_wy_goOn_61 (by decide) ?_ ?_
    · exact ss_wy_goOn_85 rc hrc self42 hself42 (a1) (a2) (a3) w
    · refine sm_aload_n ii_wy_goOn_64 rfl ?_
      refine sm_getR 51 ii_wy_goOn_65 fl_wy_19 (k := 49) rfl ?_
      refine sm_iload_n ii_wy_goOn_68 rfl ?_
      refine sm_iald ii_wy_goOn_69 (k := 51) rfl (fun x13 => ?_)
      refine sm_aload_n ii_wy_goOn_70 rfl ?_
      refine sm_getR 36 ii_wy_goOn_71 fl_wy_9 (k := 49) rfl ?_
      refine sm_getR 41 ii_wy_goOn_74 fl_wy_89 (k := 36) rfl ?_
      refine sm_iload_n ii_wy_goOn_77 rfl ?_
      refine sm_iald ii_wy_goOn_78 (k := 41) rfl (fun x14 => ?_)
      refine sm_icmp_eq 85 ii_wy_goOn_79 (by decide) ?_ ?_
      · exact ss_wy_goOn_85 rc hrc self42 hself42 (a1) (a2) (a3) w
      · refine sm_goto 145 ii_wy_goOn_82 (by decide) ?_
        refine sm_iinc (a3 + (1 : Int32)) [some (.ref 49), some (.int a1), some (.int a2), some (.int (a3 + (1 : Int32)))] ii_wy_goOn_145 rfl rfl rfl rfl ?_
        refine sm_goto 42 ii_wy_goOn_148 (by decide) ?_
        exact hself42 (a1) (a2) ((a3 + (1 : Int32))) w
set_option maxHeartbeats 4000000 in
set_option maxRecDepth 100000 in
theorem ss_wy_goOn_42_f {E : Nat × (Nat → Int32)} {dn : Nat} (rc : Int32 → Int32 → sm_Mem → sm_R) (hrc : ∀ (a1 : Int32) (a2 : Int32) (w : sm_Mem), sm_MC (mi_wy_goOn (5 + dn)) [.ref 49, .int a1, .int a2] w (rc a1 a2 w))  : ∀ (n : Nat) (a1 : Int32) (a2 : Int32) (a3 : Int32) (w : sm_Mem), sm_Sim E (mi_wy_goOn (5 + dn + 1)) 42 [some (.ref 49), some (.int a1), some (.int a2), some (.int a3)] [] w (ff_wy_goOn_42_f rc  n a1 a2 a3 w)
  | 0, _, _, _, _ => fun _ _ h => by cases h
  | n + 1, a1, a2, a3, w => ss_wy_goOn_42_b rc hrc  _ (ss_wy_goOn_42_f rc hrc  n) a1 a2 a3 w
set_option maxHeartbeats 4000000 in
set_option maxRecDepth 100000 in
theorem ss_wy_goOn_42 {E : Nat × (Nat → Int32)} {dn : Nat} (rc : Int32 → Int32 → sm_Mem → sm_R) (hrc : ∀ (a1 : Int32) (a2 : Int32) (w : sm_Mem), sm_MC (mi_wy_goOn (5 + dn)) [.ref 49, .int a1, .int a2] w (rc a1 a2 w))  (a1 : Int32) (a2 : Int32) (a3 : Int32) (w : sm_Mem) : sm_Sim E (mi_wy_goOn (5 + dn + 1)) 42 [some (.ref 49), some (.int a1), some (.int a2), some (.int a3)] [] w (ff_wy_goOn_42 rc  a1 a2 a3 w) := ss_wy_goOn_42_f rc hrc  sm_N a1 a2 a3 w
noncomputable def ff_wy_goOn_0 (rc : Int32 → Int32 → sm_Mem → sm_R)  (a1 : Int32) (a2 : Int32) (w : sm_Mem) : sm_R := (Option.bind (sm_rd w 53 6 a1) fun x15 => (Option.bind (sm_wr w 53 6 a1 (x15 + (1 : Int32))) fun w16 => (Option.bind (sm_rd w16 54 64 a2) fun x17 => (Option.bind (sm_wr w16 54 64 a2 (if x17 < a1 then a1 else x17)) fun w18 => (if a1 < (w18.1 49 3) then ff_wy_goOn_42 rc (a1) (a2) ((0 : Int32)) w18 else (sm_cV (ff_wy_finish (a2) w18) fun w20 => (some (.null, w20))))))))
set_option maxHeartbeats 4000000 in
set_option maxRecDepth 100000 in
theorem ss_wy_goOn_0 {E : Nat × (Nat → Int32)} {dn : Nat} (rc : Int32 → Int32 → sm_Mem → sm_R) (hrc : ∀ (a1 : Int32) (a2 : Int32) (w : sm_Mem), sm_MC (mi_wy_goOn (5 + dn)) [.ref 49, .int a1, .int a2] w (rc a1 a2 w))  (a1 : Int32) (a2 : Int32) (w : sm_Mem) : sm_Sim E (mi_wy_goOn (5 + dn + 1)) 0 [some (.ref 49), some (.int a1), some (.int a2), none] [] w (ff_wy_goOn_0 rc  a1 a2 w) := by
  unfold ff_wy_goOn_0
  refine sm_aload_n ii_wy_goOn_0 rfl ?_
  refine sm_getR 53 ii_wy_goOn_1 fl_wy_25 (k := 49) rfl ?_
  refine sm_iload_n ii_wy_goOn_4 rfl ?_
  refine sm_dup2 ii_wy_goOn_5 ?_
  refine sm_iald ii_wy_goOn_6 (k := 53) rfl (fun x15 => ?_)
  refine sm_iconst (1 : Int32) ii_wy_goOn_7 (by decide) ?_
  refine sm_iadd ii_wy_goOn_8 ?_
  refine sm_iast ii_wy_goOn_9 (k := 53) rfl (fun w16 => ?_)
  refine sm_aload_n ii_wy_goOn_10 rfl ?_
  refine sm_getR 54 ii_wy_goOn_11 fl_wy_28 (k := 49) rfl ?_
  refine sm_iload_n ii_wy_goOn_14 rfl ?_
  refine sm_aload_n ii_wy_goOn_15 rfl ?_
  refine sm_getR 54 ii_wy_goOn_16 fl_wy_28 (k := 49) rfl ?_
  refine sm_iload_n ii_wy_goOn_19 rfl ?_
  refine sm_iald ii_wy_goOn_20 (k := 54) rfl (fun x17 => ?_)
  refine sm_iload_n ii_wy_goOn_21 rfl ?_
  refine sm_mmax ii_wy_goOn_22 mq_wy_46 mq_st_max mq_in mq_co_max (Nat.le_add_left 1 _) rfl ?_
  refine sm_iast ii_wy_goOn_25 (k := 54) rfl (fun w18 => ?_)
  refine sm_iload_n ii_wy_goOn_26 rfl ?_
  refine sm_aload_n ii_wy_goOn_27 rfl ?_
  refine sm_getI ii_wy_goOn_28 fl_wy_49 (k := 49) rfl ?_
  refine sm_icmp_lt 40 ii_wy_goOn_31 (by decide) ?_ ?_
  · refine sm_iconst (0 : Int32) ii_wy_goOn_40 (by decide) ?_
    refine sm_istore_n [some (.ref 49), some (.int a1), some (.int a2), some (.int (0 : Int32))] ii_wy_goOn_41 rfl rfl ?_
    exact ss_wy_goOn_42 rc hrc (a1) (a2) ((0 : Int32)) w18
  · refine sm_aload_n ii_wy_goOn_34 rfl ?_
    refine sm_iload_n ii_wy_goOn_35 rfl ?_
    refine sm_cvV [.int a2] [] rfl ii_wy_goOn_36 ml_wy_81 (mf_wy_finish) (mv_wy_finish) (sm_kle rfl) rfl 5 rfl rfl rfl rfl (mc_wy_finish (a2) w18) (fun w20 => ?_)
    exact sm_vret ii_wy_goOn_39 rfl
noncomputable def ff_wy_goOn : Nat → Int32 → Int32 → sm_Mem → sm_R
  | 0, _, _, _ => none
  | n + 1, a1, a2, w => ff_wy_goOn_0 (ff_wy_goOn n) a1 a2 w
set_option maxHeartbeats 4000000 in
set_option maxRecDepth 100000 in
theorem mc_wy_goOn : ∀ (n : Nat) (a1 : Int32) (a2 : Int32) (w : sm_Mem), sm_MC (mi_wy_goOn (5 + n)) [.ref 49, .int a1, .int a2] w (ff_wy_goOn n a1 a2 w)
  | 0, _, _, _ => fun _ _ h => by cases h
  | n + 1, a1, a2, w => sm_MC_of (0, fun _ => 0) (show plainName "HerOrders$Ways" = true by decide +kernel) (show ("HerOrders$Ways" : String) ≠ "HerOrdersLaw" by decide) rfl (Nat.le_of_ble_eq_true rfl) (ss_wy_goOn_0 (dn := n) _ (mc_wy_goOn n) a1 a2 w)
abbrev mi_wy_runWords : sm_MI := (⟨"HerOrders$Ways", "runWords", "(LHerOrders$Row;I)V"⟩, prog_7_method_2_code, 4, none, 14)
set_option maxRecDepth 100000 in
theorem mf_wy_runWords : sm_MF mi_wy_runWords 2 := ⟨List.mem_of_getElem? (i := 642) (by decide +kernel), List.mem_of_getElem? (i := 129) (by decide +kernel), ⟨by decide, by decide⟩, by decide +kernel⟩
set_option maxRecDepth 100000 in
theorem mv_wy_runWords : sm_MFV mi_wy_runWords := ⟨List.mem_of_getElem? (i := 641) (by decide +kernel), List.mem_of_getElem? (i := 30) (by decide +kernel)⟩
set_option maxRecDepth 100000 in
theorem ii_wy_runWords_0 : sm_D prog_7_method_2_code 0 1 1 (.aload_n 0) := ⟨by decide +kernel, rfl⟩
set_option maxRecDepth 100000 in
theorem ii_wy_runWords_1 : sm_D prog_7_method_2_code 1 1 2 (.iconst 0) := ⟨by decide +kernel, rfl⟩
set_option maxRecDepth 100000 in
theorem ii_wy_runWords_2 : sm_D prog_7_method_2_code 2 1 3 (.aload_n 1) := ⟨by decide +kernel, rfl⟩
set_option maxRecDepth 100000 in
theorem ii_wy_runWords_3 : sm_D prog_7_method_2_code 3 3 6 (.getfield 34) := ⟨by decide +kernel, rfl⟩
set_option maxRecDepth 100000 in
theorem ii_wy_runWords_6 : sm_D prog_7_method_2_code 6 1 7 (.iconst 5) := ⟨by decide +kernel, rfl⟩
set_option maxRecDepth 100000 in
theorem ii_wy_runWords_7 : sm_D prog_7_method_2_code 7 3 10 (.invokestatic 40) := ⟨by decide +kernel, rfl⟩
set_option maxRecDepth 100000 in
theorem ii_wy_runWords_10 : sm_D prog_7_method_2_code 10 3 13 (.invokestatic 46) := ⟨by decide +kernel, rfl⟩
set_option maxRecDepth 100000 in
theorem ii_wy_runWords_13 : sm_D prog_7_method_2_code 13 3 16 (.putfield 49) := ⟨by decide +kernel, rfl⟩
set_option maxRecDepth 100000 in
theorem ii_wy_runWords_16 : sm_D prog_7_method_2_code 16 1 17 (.iconst 0) := ⟨by decide +kernel, rfl⟩
set_option maxRecDepth 100000 in
theorem ii_wy_runWords_17 : sm_D prog_7_method_2_code 17 1 18 (.istore_n 3) := ⟨by decide +kernel, rfl⟩
set_option maxRecDepth 100000 in
theorem ii_wy_runWords_18 : sm_D prog_7_method_2_code 18 1 19 (.iload_n 3) := ⟨by decide +kernel, rfl⟩
set_option maxRecDepth 100000 in
theorem ii_wy_runWords_19 : sm_D prog_7_method_2_code 19 1 20 (.aload_n 0) := ⟨by decide +kernel, rfl⟩
set_option maxRecDepth 100000 in
theorem ii_wy_runWords_20 : sm_D prog_7_method_2_code 20 3 23 (.getfield 49) := ⟨by decide +kernel, rfl⟩
set_option maxRecDepth 100000 in
theorem ii_wy_runWords_23 : sm_D prog_7_method_2_code 23 3 26 (.if_icmp .ge 29) := ⟨by decide +kernel, rfl⟩
set_option maxRecDepth 100000 in
theorem ii_wy_runWords_26 : sm_D prog_7_method_2_code 26 1 27 (.aload_n 0) := ⟨by decide +kernel, rfl⟩
set_option maxRecDepth 100000 in
theorem ii_wy_runWords_27 : sm_D prog_7_method_2_code 27 3 30 (.getfield 15) := ⟨by decide +kernel, rfl⟩
set_option maxRecDepth 100000 in
theorem ii_wy_runWords_30 : sm_D prog_7_method_2_code 30 1 31 (.iload_n 3) := ⟨by decide +kernel, rfl⟩
set_option maxRecDepth 100000 in
theorem ii_wy_runWords_31 : sm_D prog_7_method_2_code 31 1 32 (.aload_n 1) := ⟨by decide +kernel, rfl⟩
set_option maxRecDepth 100000 in
theorem ii_wy_runWords_32 : sm_D prog_7_method_2_code 32 3 35 (.getfield 52) := ⟨by decide +kernel, rfl⟩
set_option maxRecDepth 100000 in
theorem ii_wy_runWords_35 : sm_D prog_7_method_2_code 35 1 36 (.iload_n 3) := ⟨by decide +kernel, rfl⟩
set_option maxRecDepth 100000 in
theorem ii_wy_runWords_36 : sm_D prog_7_method_2_code 36 1 37 (.iaload) := ⟨by decide +kernel, rfl⟩
set_option maxRecDepth 100000 in
theorem ii_wy_runWords_37 : sm_D prog_7_method_2_code 37 1 38 (.iastore) := ⟨by decide +kernel, rfl⟩
set_option maxRecDepth 100000 in
theorem ii_wy_runWords_38 : sm_D prog_7_method_2_code 38 1 39 (.aload_n 0) := ⟨by decide +kernel, rfl⟩
set_option maxRecDepth 100000 in
theorem ii_wy_runWords_39 : sm_D prog_7_method_2_code 39 3 42 (.getfield 19) := ⟨by decide +kernel, rfl⟩
set_option maxRecDepth 100000 in
theorem ii_wy_runWords_42 : sm_D prog_7_method_2_code 42 1 43 (.iload_n 3) := ⟨by decide +kernel, rfl⟩
set_option maxRecDepth 100000 in
theorem ii_wy_runWords_43 : sm_D prog_7_method_2_code 43 2 45 (.bipush (-9)) := ⟨by decide +kernel, rfl⟩
set_option maxRecDepth 100000 in
theorem ii_wy_runWords_45 : sm_D prog_7_method_2_code 45 1 46 (.iastore) := ⟨by decide +kernel, rfl⟩
set_option maxRecDepth 100000 in
theorem ii_wy_runWords_46 : sm_D prog_7_method_2_code 46 3 49 (.iinc 3 1) := ⟨by decide +kernel, rfl⟩
set_option maxRecDepth 100000 in
theorem ii_wy_runWords_49 : sm_D prog_7_method_2_code 49 3 52 (.goto (-31)) := ⟨by decide +kernel, rfl⟩
set_option maxRecDepth 100000 in
theorem ii_wy_runWords_52 : sm_D prog_7_method_2_code 52 1 53 (.aload_n 0) := ⟨by decide +kernel, rfl⟩
set_option maxRecDepth 100000 in
theorem ii_wy_runWords_53 : sm_D prog_7_method_2_code 53 1 54 (.iload_n 2) := ⟨by decide +kernel, rfl⟩
set_option maxRecDepth 100000 in
theorem ii_wy_runWords_54 : sm_D prog_7_method_2_code 54 3 57 (.invokevirtual 55) := ⟨by decide +kernel, rfl⟩
set_option maxRecDepth 100000 in
theorem ii_wy_runWords_57 : sm_D prog_7_method_2_code 57 1 58 (.aload_n 0) := ⟨by decide +kernel, rfl⟩
set_option maxRecDepth 100000 in
theorem ii_wy_runWords_58 : sm_D prog_7_method_2_code 58 1 59 (.iconst 0) := ⟨by decide +kernel, rfl⟩
set_option maxRecDepth 100000 in
theorem ii_wy_runWords_59 : sm_D prog_7_method_2_code 59 1 60 (.iconst 0) := ⟨by decide +kernel, rfl⟩
set_option maxRecDepth 100000 in
theorem ii_wy_runWords_60 : sm_D prog_7_method_2_code 60 3 63 (.invokevirtual 59) := ⟨by decide +kernel, rfl⟩
set_option maxRecDepth 100000 in
theorem ii_wy_runWords_63 : sm_D prog_7_method_2_code 63 1 64 (.return_) := ⟨by decide +kernel, rfl⟩
noncomputable def ff_wy_runWords_18_b  (self18 : Nat → Int32 → Int32 → sm_Mem → sm_R) (a1 : Nat) (a2 : Int32) (a3 : Int32) (w : sm_Mem) : sm_R := (if (w.1 49 3) ≤ a3 then (sm_cV (ff_wy_clear (a2) w) fun w2 => (sm_cV (ff_wy_goOn 8 ((0 : Int32)) ((0 : Int32)) w2) fun w4 => (some (.null, w4)))) else (Option.bind (sm_fk a1 2 0 2) fun r5 => (Option.bind (sm_rds w r5 a3) fun x6 => (Option.bind (sm_wr w 50 5 a3 x6) fun w7 => (Option.bind (sm_wr w7 51 5 a3 (-9 : Int32)) fun w8 => self18 (a1) (a2) ((a3 + (1 : Int32))) w8)))))
noncomputable def ff_wy_runWords_18_f  : Nat → Nat → Int32 → Int32 → sm_Mem → sm_R
  | 0, _, _, _, _ => none
  | n + 1, a1, a2, a3, w => ff_wy_runWords_18_b  (ff_wy_runWords_18_f  n) a1 a2 a3 w
noncomputable def ff_wy_runWords_18  (a1 : Nat) (a2 : Int32) (a3 : Int32) (w : sm_Mem) : sm_R := ff_wy_runWords_18_f  sm_N a1 a2 a3 w
set_option maxHeartbeats 4000000 in
set_option maxRecDepth 100000 in
theorem ss_wy_runWords_18_b {E : Nat × (Nat → Int32)}  (self18 : Nat → Int32 → Int32 → sm_Mem → sm_R) (hself18 : ∀ (a1 : Nat) (a2 : Int32) (a3 : Int32) (w : sm_Mem), sm_Sim E (mi_wy_runWords) 18 [some (.ref 49), some (.ref a1), some (.int a2), some (.int a3)] [] w (self18 a1 a2 a3 w)) (a1 : Nat) (a2 : Int32) (a3 : Int32) (w : sm_Mem) : sm_Sim E (mi_wy_runWords) 18 [some (.ref 49), some (.ref a1), some (.int a2), some (.int a3)] [] w (ff_wy_runWords_18_b  self18 a1 a2 a3 w) := by
  unfold ff_wy_runWords_18_b
  refine sm_iload_n ii_wy_runWords_18 rfl ?_
  refine sm_aload_n ii_wy_runWords_19 rfl ?_
  refine sm_getI ii_wy_runWords_20 fl_wy_49 (k := 49) rfl ?_
  refine sm_icmp_ge 52 ii_wy_runWords_23 (by decide) ?_ ?_
  · refine sm_aload_n ii_wy_runWords_52 rfl ?_
    refine sm_iload_n ii_wy_runWords_53 rfl ?_
    refine sm_cvV [.int a2] [] rfl ii_wy_runWords_54 ml_wy_55 (mf_wy_clear) (mv_wy_clear) (Nat.le_of_ble_eq_true rfl) rfl 5 rfl rfl rfl rfl (mc_wy_clear (a2) w) (fun w2 => ?_)
    refine sm_aload_n ii_wy_runWords_57 rfl ?_
    refine sm_iconst (0 : Int32) ii_wy_runWords_58 (by decide) ?_
    refine sm_iconst (0 : Int32) ii_wy_runWords_59 (by decide) ?_
    refine sm_cvV [.int (0 : Int32), .int (0 : Int32)] [] rfl ii_wy_runWords_60 ml_wy_59 (mf_wy_goOn 13) (mv_wy_goOn 13) (Nat.le_of_ble_eq_true rfl) rfl 5 rfl rfl rfl rfl (mc_wy_goOn 8 ((0 : Int32)) ((0 : Int32)) w2) (fun w4 => ?_)
    exact sm_vret ii_wy_runWords_63 rfl
  · refine sm_aload_n ii_wy_runWords_26 rfl ?_
    refine sm_getR 50 ii_wy_runWords_27 fl_wy_15 (k := 49) rfl ?_
    refine sm_iload_n ii_wy_runWords_30 rfl ?_
    refine sm_aload_n ii_wy_runWords_31 rfl ?_
    refine sm_getRs ii_wy_runWords_32 fl_wy_52 (fun r5 => ?_)
    refine sm_iload_n ii_wy_runWords_35 rfl ?_
    refine sm_ialds ii_wy_runWords_36 (fun x6 => ?_)
    refine sm_iast ii_wy_runWords_37 (k := 50) rfl (fun w7 => ?_)
    refine sm_aload_n ii_wy_runWords_38 rfl ?_
    refine sm_getR 51 ii_wy_runWords_39 fl_wy_19 (k := 49) rfl ?_
    refine sm_iload_n ii_wy_runWords_42 rfl ?_
    refine sm_bipush (-9 : Int32) ii_wy_runWords_43 (by decide) ?_
    refine sm_iast ii_wy_runWords_45 (k := 51) rfl (fun w8 => ?_)
    refine sm_iinc (a3 + (1 : Int32)) [some (.ref 49), some (.ref a1), some (.int a2), some (.int (a3 + (1 : Int32)))] ii_wy_runWords_46 rfl rfl rfl rfl ?_
    refine sm_goto 18 ii_wy_runWords_49 (by decide) ?_
    exact hself18 (a1) (a2) ((a3 + (1 : Int32))) w8
set_option maxHeartbeats 4000000 in
set_option maxRecDepth 100000 in
theorem ss_wy_runWords_18_f {E : Nat × (Nat → Int32)}  : ∀ (n : Nat) (a1 : Nat) (a2 : Int32) (a3 : Int32) (w : sm_Mem), sm_Sim E (mi_wy_runWords) 18 [some (.ref 49), some (.ref a1), some (.int a2), some (.int a3)] [] w (ff_wy_runWords_18_f  n a1 a2 a3 w)
  | 0, _, _, _, _ => fun _ _ h => by cases h
  | n + 1, a1, a2, a3, w => ss_wy_runWords_18_b  _ (ss_wy_runWords_18_f  n) a1 a2 a3 w
set_option maxHeartbeats 4000000 in
set_option maxRecDepth 100000 in
theorem ss_wy_runWords_18 {E : Nat × (Nat → Int32)}  (a1 : Nat) (a2 : Int32) (a3 : Int32) (w : sm_Mem) : sm_Sim E (mi_wy_runWords) 18 [some (.ref 49), some (.ref a1), some (.int a2), some (.int a3)] [] w (ff_wy_runWords_18  a1 a2 a3 w) := ss_wy_runWords_18_f  sm_N a1 a2 a3 w
noncomputable def ff_wy_runWords  (a1 : Nat) (a2 : Int32) (w : sm_Mem) : sm_R := (Option.bind (sm_gI w a1 2 1) fun x9 => (sm_let (sm_wI w 49 3 (if (0 : Int32) < (if (5 : Int32) < x9 then (5 : Int32) else x9) then (if (5 : Int32) < x9 then (5 : Int32) else x9) else (0 : Int32))) fun w10 => ff_wy_runWords_18 (a1) (a2) ((0 : Int32)) w10))
set_option maxHeartbeats 4000000 in
set_option maxRecDepth 100000 in
theorem ss_wy_runWords_0 {E : Nat × (Nat → Int32)}  (a1 : Nat) (a2 : Int32) (w : sm_Mem) : sm_Sim E (mi_wy_runWords) 0 [some (.ref 49), some (.ref a1), some (.int a2), none] [] w (ff_wy_runWords  a1 a2 w) := by
  unfold ff_wy_runWords
  refine sm_aload_n ii_wy_runWords_0 rfl ?_
  refine sm_iconst (0 : Int32) ii_wy_runWords_1 (by decide) ?_
  refine sm_aload_n ii_wy_runWords_2 rfl ?_
  refine sm_getIs ii_wy_runWords_3 fl_wy_34 (fun x9 => ?_)
  refine sm_iconst (5 : Int32) ii_wy_runWords_6 (by decide) ?_
  refine sm_mmin ii_wy_runWords_7 mq_wy_40 mq_st_min mq_in mq_co_min (by decide) rfl ?_
  refine sm_mmax ii_wy_runWords_10 mq_wy_46 mq_st_max mq_in mq_co_max (by decide) rfl ?_
  refine sm_putI ii_wy_runWords_13 fp_wy_49 (k := 49) rfl (fun w10 => ?_)
  refine sm_iconst (0 : Int32) ii_wy_runWords_16 (by decide) ?_
  refine sm_istore_n [some (.ref 49), some (.ref a1), some (.int a2), some (.int (0 : Int32))] ii_wy_runWords_17 rfl rfl ?_
  exact ss_wy_runWords_18 (a1) (a2) ((0 : Int32)) w10
set_option maxHeartbeats 4000000 in
set_option maxRecDepth 100000 in
theorem mc_wy_runWords (a1 : Nat) (a2 : Int32) (w : sm_Mem) : sm_MC mi_wy_runWords [.ref 49, .ref a1, .int a2] w (ff_wy_runWords a1 a2 w) := sm_MC_of (0, fun _ => 0) (by decide +kernel) (by decide) rfl (Nat.le_of_ble_eq_true rfl) (ss_wy_runWords_0 a1 a2 w)
abbrev mi_wy_fullWays : sm_MI := (⟨"HerOrders$Ways", "fullWays", "()I"⟩, prog_7_method_9_code, 1, (some .int), 1)
set_option maxRecDepth 100000 in
theorem mf_wy_fullWays : sm_MF mi_wy_fullWays 0 := ⟨List.mem_of_getElem? (i := 674) (by decide +kernel), List.mem_of_getElem? (i := 129) (by decide +kernel), ⟨by decide, by decide⟩, by decide +kernel⟩
set_option maxRecDepth 100000 in
theorem mv_wy_fullWays : sm_MFV mi_wy_fullWays := ⟨List.mem_of_getElem? (i := 673) (by decide +kernel), List.mem_of_getElem? (i := 36) (by decide +kernel)⟩
set_option maxRecDepth 100000 in
theorem ii_wy_fullWays_0 : sm_D prog_7_method_9_code 0 1 1 (.aload_n 0) := ⟨by decide +kernel, rfl⟩
set_option maxRecDepth 100000 in
theorem ii_wy_fullWays_1 : sm_D prog_7_method_9_code 1 3 4 (.getfield 25) := ⟨by decide +kernel, rfl⟩
set_option maxRecDepth 100000 in
theorem ii_wy_fullWays_4 : sm_D prog_7_method_9_code 4 1 5 (.aload_n 0) := ⟨by decide +kernel, rfl⟩
set_option maxRecDepth 100000 in
theorem ii_wy_fullWays_5 : sm_D prog_7_method_9_code 5 3 8 (.getfield 49) := ⟨by decide +kernel, rfl⟩
set_option maxRecDepth 100000 in
theorem ii_wy_fullWays_8 : sm_D prog_7_method_9_code 8 1 9 (.iaload) := ⟨by decide +kernel, rfl⟩
set_option maxRecDepth 100000 in
theorem ii_wy_fullWays_9 : sm_D prog_7_method_9_code 9 1 10 (.ireturn) := ⟨by decide +kernel, rfl⟩
noncomputable def ff_wy_fullWays   (w : sm_Mem) : sm_R := (Option.bind (sm_rd w 53 6 (w.1 49 3)) fun x1 => (some (.int x1, w)))
set_option maxHeartbeats 4000000 in
set_option maxRecDepth 100000 in
theorem ss_wy_fullWays_0 {E : Nat × (Nat → Int32)}   (w : sm_Mem) : sm_Sim E (mi_wy_fullWays) 0 [some (.ref 49)] [] w (ff_wy_fullWays   w) := by
  unfold ff_wy_fullWays
  refine sm_aload_n ii_wy_fullWays_0 rfl ?_
  refine sm_getR 53 ii_wy_fullWays_1 fl_wy_25 (k := 49) rfl ?_
  refine sm_aload_n ii_wy_fullWays_4 rfl ?_
  refine sm_getI ii_wy_fullWays_5 fl_wy_49 (k := 49) rfl ?_
  refine sm_iald ii_wy_fullWays_8 (k := 53) rfl (fun x1 => ?_)
  exact sm_iret ii_wy_fullWays_9 rfl
set_option maxHeartbeats 4000000 in
set_option maxRecDepth 100000 in
theorem mc_wy_fullWays  (w : sm_Mem) : sm_MC mi_wy_fullWays [.ref 49] w (ff_wy_fullWays  w) := sm_MC_of (0, fun _ => 0) (by decide +kernel) (by decide) rfl (Nat.le_of_ble_eq_true rfl) (ss_wy_fullWays_0  w)
abbrev mi_td_share : sm_MI := (⟨"HerOrders$Told", "share", "(JJ)V"⟩, prog_5_method_3_code, 12, none, 1)
set_option maxRecDepth 100000 in
theorem mf_td_share : sm_MF mi_td_share 2 := ⟨List.mem_of_getElem? (i := 678) (by decide +kernel), List.mem_of_getElem? (i := 131) (by decide +kernel), ⟨by decide, by decide⟩, by decide +kernel⟩
set_option maxRecDepth 100000 in
theorem mv_td_share : sm_MFV mi_td_share := ⟨List.mem_of_getElem? (i := 677) (by decide +kernel), List.mem_of_getElem? (i := 37) (by decide +kernel)⟩
set_option maxRecDepth 100000 in
theorem ii_td_share_0 : sm_D prog_5_method_3_code 0 1 1 (.lload_n 1) := ⟨by decide +kernel, rfl⟩
set_option maxRecDepth 100000 in
theorem ii_td_share_1 : sm_D prog_5_method_3_code 1 2 3 (.lstore 5) := ⟨by decide +kernel, rfl⟩
set_option maxRecDepth 100000 in
theorem ii_td_share_3 : sm_D prog_5_method_3_code 3 1 4 (.lload_n 3) := ⟨by decide +kernel, rfl⟩
set_option maxRecDepth 100000 in
theorem ii_td_share_4 : sm_D prog_5_method_3_code 4 2 6 (.lstore 7) := ⟨by decide +kernel, rfl⟩
set_option maxRecDepth 100000 in
theorem ii_td_share_6 : sm_D prog_5_method_3_code 6 1 7 (.iconst 0) := ⟨by decide +kernel, rfl⟩
set_option maxRecDepth 100000 in
theorem ii_td_share_7 : sm_D prog_5_method_3_code 7 2 9 (.istore 9) := ⟨by decide +kernel, rfl⟩
set_option maxRecDepth 100000 in
theorem ii_td_share_9 : sm_D prog_5_method_3_code 9 2 11 (.iload 9) := ⟨by decide +kernel, rfl⟩
set_option maxRecDepth 100000 in
theorem ii_td_share_11 : sm_D prog_5_method_3_code 11 2 13 (.bipush 100) := ⟨by decide +kernel, rfl⟩
set_option maxRecDepth 100000 in
theorem ii_td_share_13 : sm_D prog_5_method_3_code 13 3 16 (.if_icmp .ge 31) := ⟨by decide +kernel, rfl⟩
set_option maxRecDepth 100000 in
theorem ii_td_share_16 : sm_D prog_5_method_3_code 16 2 18 (.lload 7) := ⟨by decide +kernel, rfl⟩
set_option maxRecDepth 100000 in
theorem ii_td_share_18 : sm_D prog_5_method_3_code 18 1 19 (.lconst 0) := ⟨by decide +kernel, rfl⟩
set_option maxRecDepth 100000 in
theorem ii_td_share_19 : sm_D prog_5_method_3_code 19 1 20 (.lcmp) := ⟨by decide +kernel, rfl⟩
set_option maxRecDepth 100000 in
theorem ii_td_share_20 : sm_D prog_5_method_3_code 20 3 23 (.ifCond .eq 24) := ⟨by decide +kernel, rfl⟩
set_option maxRecDepth 100000 in
theorem ii_td_share_23 : sm_D prog_5_method_3_code 23 2 25 (.lload 5) := ⟨by decide +kernel, rfl⟩
set_option maxRecDepth 100000 in
theorem ii_td_share_25 : sm_D prog_5_method_3_code 25 2 27 (.lload 7) := ⟨by decide +kernel, rfl⟩
set_option maxRecDepth 100000 in
theorem ii_td_share_27 : sm_D prog_5_method_3_code 27 1 28 (.lrem) := ⟨by decide +kernel, rfl⟩
set_option maxRecDepth 100000 in
theorem ii_td_share_28 : sm_D prog_5_method_3_code 28 2 30 (.lstore 10) := ⟨by decide +kernel, rfl⟩
set_option maxRecDepth 100000 in
theorem ii_td_share_30 : sm_D prog_5_method_3_code 30 2 32 (.lload 7) := ⟨by decide +kernel, rfl⟩
set_option maxRecDepth 100000 in
theorem ii_td_share_32 : sm_D prog_5_method_3_code 32 2 34 (.lstore 5) := ⟨by decide +kernel, rfl⟩
set_option maxRecDepth 100000 in
theorem ii_td_share_34 : sm_D prog_5_method_3_code 34 2 36 (.lload 10) := ⟨by decide +kernel, rfl⟩
set_option maxRecDepth 100000 in
theorem ii_td_share_36 : sm_D prog_5_method_3_code 36 2 38 (.lstore 7) := ⟨by decide +kernel, rfl⟩
set_option maxRecDepth 100000 in
theorem ii_td_share_38 : sm_D prog_5_method_3_code 38 3 41 (.iinc 9 1) := ⟨by decide +kernel, rfl⟩
set_option maxRecDepth 100000 in
theorem ii_td_share_41 : sm_D prog_5_method_3_code 41 3 44 (.goto (-32)) := ⟨by decide +kernel, rfl⟩
set_option maxRecDepth 100000 in
theorem ii_td_share_44 : sm_D prog_5_method_3_code 44 2 46 (.lload 5) := ⟨by decide +kernel, rfl⟩
set_option maxRecDepth 100000 in
theorem ii_td_share_46 : sm_D prog_5_method_3_code 46 1 47 (.lconst 0) := ⟨by decide +kernel, rfl⟩
set_option maxRecDepth 100000 in
theorem ii_td_share_47 : sm_D prog_5_method_3_code 47 1 48 (.lcmp) := ⟨by decide +kernel, rfl⟩
set_option maxRecDepth 100000 in
theorem ii_td_share_48 : sm_D prog_5_method_3_code 48 3 51 (.ifCond .ne 4) := ⟨by decide +kernel, rfl⟩
set_option maxRecDepth 100000 in
theorem ii_td_share_51 : sm_D prog_5_method_3_code 51 1 52 (.return_) := ⟨by decide +kernel, rfl⟩
set_option maxRecDepth 100000 in
theorem ii_td_share_52 : sm_D prog_5_method_3_code 52 1 53 (.aload_n 0) := ⟨by decide +kernel, rfl⟩
set_option maxRecDepth 100000 in
theorem ii_td_share_53 : sm_D prog_5_method_3_code 53 1 54 (.lload_n 1) := ⟨by decide +kernel, rfl⟩
set_option maxRecDepth 100000 in
theorem ii_td_share_54 : sm_D prog_5_method_3_code 54 2 56 (.lload 5) := ⟨by decide +kernel, rfl⟩
set_option maxRecDepth 100000 in
theorem ii_td_share_56 : sm_D prog_5_method_3_code 56 1 57 (.ldiv) := ⟨by decide +kernel, rfl⟩
set_option maxRecDepth 100000 in
theorem ii_td_share_57 : sm_D prog_5_method_3_code 57 3 60 (.putfield 23) := ⟨by decide +kernel, rfl⟩
set_option maxRecDepth 100000 in
theorem ii_td_share_60 : sm_D prog_5_method_3_code 60 1 61 (.aload_n 0) := ⟨by decide +kernel, rfl⟩
set_option maxRecDepth 100000 in
theorem ii_td_share_61 : sm_D prog_5_method_3_code 61 1 62 (.lload_n 3) := ⟨by decide +kernel, rfl⟩
set_option maxRecDepth 100000 in
theorem ii_td_share_62 : sm_D prog_5_method_3_code 62 2 64 (.lload 5) := ⟨by decide +kernel, rfl⟩
set_option maxRecDepth 100000 in
theorem ii_td_share_64 : sm_D prog_5_method_3_code 64 1 65 (.ldiv) := ⟨by decide +kernel, rfl⟩
set_option maxRecDepth 100000 in
theorem ii_td_share_65 : sm_D prog_5_method_3_code 65 3 68 (.putfield 9) := ⟨by decide +kernel, rfl⟩
set_option maxRecDepth 100000 in
theorem ii_td_share_68 : sm_D prog_5_method_3_code 68 1 69 (.return_) := ⟨by decide +kernel, rfl⟩
noncomputable def ff_td_share_44  (a1 : Int64) (a3 : Int64) (a5 : Int64) (w : sm_Mem) : sm_R := (if (lg_cmp a5 (0 : Int64)) = (0 : Int32) then (some (.null, w)) else (if a5 = (0 : Int64) then none else (sm_let (sm_wL w 60 1 (a1 / a5)) fun w2 => (if a5 = (0 : Int64) then none else (sm_let (sm_wL w2 60 2 (a3 / a5)) fun w4 => (some (.null, w4)))))))
set_option maxHeartbeats 4000000 in
set_option maxRecDepth 100000 in
theorem ss_td_share_44 {E : Nat × (Nat → Int32)}  (a1 : Int64) (a3 : Int64) (a5 : Int64) (w : sm_Mem) : sm_Sim E (mi_td_share) 44 [some (.ref 60), some (.long a1), none, some (.long a3), none, some (.long a5), none, none, none, none, none, none] [] w (ff_td_share_44  a1 a3 a5 w) := by
  unfold ff_td_share_44
  refine sm_lload ii_td_share_44 rfl ?_
  refine sm_lconst (0 : Int64) ii_td_share_46 (by decide) ?_
  refine sm_lcmp ii_td_share_47 ?_
  refine sm_if_ne 52 ii_td_share_48 (by decide) ?_ ?_
  · exact sm_vret ii_td_share_51 rfl
  · refine sm_aload_n ii_td_share_52 rfl ?_
    refine sm_lload_n ii_td_share_53 rfl ?_
    refine sm_lload ii_td_share_54 rfl ?_
    refine sm_ldiv ii_td_share_56 ?_
    refine sm_putL ii_td_share_57 fp_td_23 (k := 60) rfl (fun w2 => ?_)
    refine sm_aload_n ii_td_share_60 rfl ?_
    refine sm_lload_n ii_td_share_61 rfl ?_
    refine sm_lload ii_td_share_62 rfl ?_
    refine sm_ldiv ii_td_share_64 ?_
    refine sm_putL ii_td_share_65 fp_td_9 (k := 60) rfl (fun w4 => ?_)
    exact sm_vret ii_td_share_68 rfl
noncomputable def ff_td_share_9_b  (self9 : Int64 → Int64 → Int64 → Int64 → Int32 → sm_Mem → sm_R) (a1 : Int64) (a3 : Int64) (a5 : Int64) (a7 : Int64) (a9 : Int32) (w : sm_Mem) : sm_R := (if (100 : Int32) ≤ a9 then ff_td_share_44 (a1) (a3) (a5) w else (if (lg_cmp a7 (0 : Int64)) = (0 : Int32) then ff_td_share_44 (a1) (a3) (a5) w else (if a7 = (0 : Int64) then none else self9 (a1) (a3) (a7) ((a5 - a5 / a7 * a7)) ((a9 + (1 : Int32))) w)))
noncomputable def ff_td_share_9_f  : Nat → Int64 → Int64 → Int64 → Int64 → Int32 → sm_Mem → sm_R
  | 0, _, _, _, _, _, _ => none
  | n + 1, a1, a3, a5, a7, a9, w => ff_td_share_9_b  (ff_td_share_9_f  n) a1 a3 a5 a7 a9 w
noncomputable def ff_td_share_9  (a1 : Int64) (a3 : Int64) (a5 : Int64) (a7 : Int64) (a9 : Int32) (w : sm_Mem) : sm_R := ff_td_share_9_f  sm_N a1 a3 a5 a7 a9 w
set_option maxHeartbeats 4000000 in
set_option maxRecDepth 100000 in
theorem ss_td_share_9_b {E : Nat × (Nat → Int32)}  (self9 : Int64 → Int64 → Int64 → Int64 → Int32 → sm_Mem → sm_R) (hself9 : ∀ (a1 : Int64) (a3 : Int64) (a5 : Int64) (a7 : Int64) (a9 : Int32) (w : sm_Mem), sm_Sim E (mi_td_share) 9 [some (.ref 60), some (.long a1), none, some (.long a3), none, some (.long a5), none, some (.long a7), none, some (.int a9), none, none] [] w (self9 a1 a3 a5 a7 a9 w)) (a1 : Int64) (a3 : Int64) (a5 : Int64) (a7 : Int64) (a9 : Int32) (w : sm_Mem) : sm_Sim E (mi_td_share) 9 [some (.ref 60), some (.long a1), none, some (.long a3), none, some (.long a5), none, some (.long a7), none, some (.int a9), none, none] [] w (ff_td_share_9_b  self9 a1 a3 a5 a7 a9 w) := by
  unfold ff_td_share_9_b
  refine sm_iload ii_td_share_9 rfl ?_
  refine sm_bipush (100 : Int32) ii_td_share_11 (by decide) ?_
  refine sm_icmp_ge 44 ii_td_share_13 (by decide) ?_ ?_
  · refine sm_msk [true, true, false, true, false, true, false, false, false, false, false, false] [some (.ref 60), some (.long a1), none, some (.long a3), none, some (.long a5), none, none, none, none, none, none] rfl ?_
    exact ss_td_share_44 (a1) (a3) (a5) w
  · refine sm_lload ii_td_share_16 rfl ?_
    refine sm_lconst (0 : Int64) ii_td_share_18 (by decide) ?_
    refine sm_lcmp ii_td_share_19 ?_
    refine sm_if_eq 44 ii_td_share_20 (by decide) ?_ ?_
    · refine sm_msk [true, true, false, true, false, true, false, false, false, false, false, false] [some (.ref 60), some (.long a1), none, some (.long a3), none, some (.long a5), none, none, none, none, none, none] rfl ?_
      exact ss_td_share_44 (a1) (a3) (a5) w
    · refine sm_lload ii_td_share_23 rfl ?_
      refine sm_lload ii_td_share_25 rfl ?_
      refine sm_lrem ii_td_share_27 ?_
      refine sm_lstore [some (.ref 60), some (.long a1), none, some (.long a3), none, some (.long a5), none, some (.long a7), none, some (.int a9), some (.long (a5 - a5 / a7 * a7)), none] ii_td_share_28 rfl rfl ?_
      refine sm_lload ii_td_share_30 rfl ?_
      refine sm_lstore [some (.ref 60), some (.long a1), none, some (.long a3), none, some (.long a7), none, some (.long a7), none, some (.int a9), some (.long (a5 - a5 / a7 * a7)), none] ii_td_share_32 rfl rfl ?_
      refine sm_lload ii_td_share_34 rfl ?_
      refine sm_lstore [some (.ref 60), some (.long a1), none, some (.long a3), none, some (.long a7), none, some (.long (a5 - a5 / a7 * a7)), none, some (.int a9), some (.long (a5 - a5 / a7 * a7)), none] ii_td_share_36 rfl rfl ?_
      refine sm_iinc (a9 + (1 : Int32)) [some (.ref 60), some (.long a1), none, some (.long a3), none, some (.long a7), none, some (.long (a5 - a5 / a7 * a7)), none, some (.int (a9 + (1 : Int32))), some (.long (a5 - a5 / a7 * a7)), none] ii_td_share_38 rfl rfl rfl rfl ?_
      refine sm_goto 9 ii_td_share_41 (by decide) ?_
      refine sm_msk [true, true, false, true, false, true, false, true, false, true, false, false] [some (.ref 60), some (.long a1), none, some (.long a3), none, some (.long a7), none, some (.long (a5 - a5 / a7 * a7)), none, some (.int (a9 + (1 : Int32))), none, none] rfl ?_
      exact hself9 (a1) (a3) (a7) ((a5 - a5 / a7 * a7)) ((a9 + (1 : Int32))) w
set_option maxHeartbeats 4000000 in
set_option maxRecDepth 100000 in
theorem ss_td_share_9_f {E : Nat × (Nat → Int32)}  : ∀ (n : Nat) (a1 : Int64) (a3 : Int64) (a5 : Int64) (a7 : Int64) (a9 : Int32) (w : sm_Mem), sm_Sim E (mi_td_share) 9 [some (.ref 60), some (.long a1), none, some (.long a3), none, some (.long a5), none, some (.long a7), none, some (.int a9), none, none] [] w (ff_td_share_9_f  n a1 a3 a5 a7 a9 w)
  | 0, _, _, _, _, _, _ => fun _ _ h => by cases h
  | n + 1, a1, a3, a5, a7, a9, w => ss_td_share_9_b  _ (ss_td_share_9_f  n) a1 a3 a5 a7 a9 w
set_option maxHeartbeats 4000000 in
set_option maxRecDepth 100000 in
theorem ss_td_share_9 {E : Nat × (Nat → Int32)}  (a1 : Int64) (a3 : Int64) (a5 : Int64) (a7 : Int64) (a9 : Int32) (w : sm_Mem) : sm_Sim E (mi_td_share) 9 [some (.ref 60), some (.long a1), none, some (.long a3), none, some (.long a5), none, some (.long a7), none, some (.int a9), none, none] [] w (ff_td_share_9  a1 a3 a5 a7 a9 w) := ss_td_share_9_f  sm_N a1 a3 a5 a7 a9 w
noncomputable def ff_td_share  (a1 : Int64) (a3 : Int64) (w : sm_Mem) : sm_R := ff_td_share_9 (a1) (a3) (a1) (a3) ((0 : Int32)) w
set_option maxHeartbeats 4000000 in
set_option maxRecDepth 100000 in
theorem ss_td_share_0 {E : Nat × (Nat → Int32)}  (a1 : Int64) (a3 : Int64) (w : sm_Mem) : sm_Sim E (mi_td_share) 0 [some (.ref 60), some (.long a1), none, some (.long a3), none, none, none, none, none, none, none, none] [] w (ff_td_share  a1 a3 w) := by
  unfold ff_td_share
  refine sm_lload_n ii_td_share_0 rfl ?_
  refine sm_lstore [some (.ref 60), some (.long a1), none, some (.long a3), none, some (.long a1), none, none, none, none, none, none] ii_td_share_1 rfl rfl ?_
  refine sm_lload_n ii_td_share_3 rfl ?_
  refine sm_lstore [some (.ref 60), some (.long a1), none, some (.long a3), none, some (.long a1), none, some (.long a3), none, none, none, none] ii_td_share_4 rfl rfl ?_
  refine sm_iconst (0 : Int32) ii_td_share_6 (by decide) ?_
  refine sm_istore [some (.ref 60), some (.long a1), none, some (.long a3), none, some (.long a1), none, some (.long a3), none, some (.int (0 : Int32)), none, none] ii_td_share_7 rfl rfl ?_
  exact ss_td_share_9 (a1) (a3) (a1) (a3) ((0 : Int32)) w
set_option maxHeartbeats 4000000 in
set_option maxRecDepth 100000 in
theorem mc_td_share (a1 : Int64) (a3 : Int64) (w : sm_Mem) : sm_MC mi_td_share [.ref 60, .long a1, .long a3] w (ff_td_share a1 a3 w) := sm_MC_of (0, fun _ => 0) (by decide +kernel) (by decide) rfl (Nat.le_of_ble_eq_true rfl) (ss_td_share_0 a1 a3 w)
abbrev mi_wy_inAll : sm_MI := (⟨"HerOrders$Ways", "inAll", "()I"⟩, prog_7_method_10_code, 1, (some .int), 2)
set_option maxRecDepth 100000 in
theorem mf_wy_inAll : sm_MF mi_wy_inAll 0 := ⟨List.mem_of_getElem? (i := 682) (by decide +kernel), List.mem_of_getElem? (i := 129) (by decide +kernel), ⟨by decide, by decide⟩, by decide +kernel⟩
set_option maxRecDepth 100000 in
theorem mv_wy_inAll : sm_MFV mi_wy_inAll := ⟨List.mem_of_getElem? (i := 681) (by decide +kernel), List.mem_of_getElem? (i := 38) (by decide +kernel)⟩
set_option maxRecDepth 100000 in
theorem ii_wy_inAll_0 : sm_D prog_7_method_10_code 0 1 1 (.aload_n 0) := ⟨by decide +kernel, rfl⟩
set_option maxRecDepth 100000 in
theorem ii_wy_inAll_1 : sm_D prog_7_method_10_code 1 3 4 (.invokevirtual 114) := ⟨by decide +kernel, rfl⟩
set_option maxRecDepth 100000 in
theorem ii_wy_inAll_4 : sm_D prog_7_method_10_code 4 3 7 (.ifCond .ne 7) := ⟨by decide +kernel, rfl⟩
set_option maxRecDepth 100000 in
theorem ii_wy_inAll_7 : sm_D prog_7_method_10_code 7 1 8 (.iconst 0) := ⟨by decide +kernel, rfl⟩
set_option maxRecDepth 100000 in
theorem ii_wy_inAll_8 : sm_D prog_7_method_10_code 8 3 11 (.goto 7) := ⟨by decide +kernel, rfl⟩
set_option maxRecDepth 100000 in
theorem ii_wy_inAll_11 : sm_D prog_7_method_10_code 11 1 12 (.aload_n 0) := ⟨by decide +kernel, rfl⟩
set_option maxRecDepth 100000 in
theorem ii_wy_inAll_12 : sm_D prog_7_method_10_code 12 3 15 (.getfield 72) := ⟨by decide +kernel, rfl⟩
set_option maxRecDepth 100000 in
theorem ii_wy_inAll_15 : sm_D prog_7_method_10_code 15 1 16 (.ireturn) := ⟨by decide +kernel, rfl⟩
noncomputable def ff_wy_inAll   (w : sm_Mem) : sm_R := (sm_cI (ff_wy_fullWays  w) fun x1 w2 => (if x1 = (0 : Int32) then (some (.int (0 : Int32), w2)) else (some (.int (w2.1 49 10), w2))))
set_option maxHeartbeats 4000000 in
set_option maxRecDepth 100000 in
theorem ss_wy_inAll_0 {E : Nat × (Nat → Int32)}   (w : sm_Mem) : sm_Sim E (mi_wy_inAll) 0 [some (.ref 49)] [] w (ff_wy_inAll   w) := by
  unfold ff_wy_inAll
  refine sm_aload_n ii_wy_inAll_0 rfl ?_
  refine sm_cvI [] [] rfl ii_wy_inAll_1 ml_wy_114 (mf_wy_fullWays) (mv_wy_fullWays) (Nat.le_of_ble_eq_true rfl) rfl 5 rfl rfl rfl rfl (mc_wy_fullWays  w) (fun x1 w2 => ?_)
  refine sm_if_ne 11 ii_wy_inAll_4 (by decide) ?_ ?_
  · refine sm_iconst (0 : Int32) ii_wy_inAll_7 (by decide) ?_
    refine sm_goto 15 ii_wy_inAll_8 (by decide) ?_
    exact sm_iret ii_wy_inAll_15 rfl
  · refine sm_aload_n ii_wy_inAll_11 rfl ?_
    refine sm_getI ii_wy_inAll_12 fl_wy_72 (k := 49) rfl ?_
    exact sm_iret ii_wy_inAll_15 rfl
set_option maxHeartbeats 4000000 in
set_option maxRecDepth 100000 in
theorem mc_wy_inAll  (w : sm_Mem) : sm_MC mi_wy_inAll [.ref 49] w (ff_wy_inAll  w) := sm_MC_of (0, fun _ => 0) (by decide +kernel) (by decide) rfl (Nat.le_of_ble_eq_true rfl) (ss_wy_inAll_0  w)
abbrev mi_ho_ways : sm_MI := (⟨"HerOrders", "ways", "(I)I"⟩, prog_1_method_24_code, 3, (some .int), 15)
set_option maxRecDepth 100000 in
theorem mf_ho_ways : sm_MF mi_ho_ways 1 := ⟨List.mem_of_getElem? (i := 629) (by decide +kernel), List.mem_of_getElem? (i := 124) (by decide +kernel), ⟨by decide, by decide⟩, by decide +kernel⟩
set_option maxRecDepth 100000 in
theorem mv_ho_ways : sm_MFV mi_ho_ways := ⟨List.mem_of_getElem? (i := 627) (by decide +kernel), List.mem_of_getElem? (i := 628) (by decide +kernel)⟩
set_option maxRecDepth 100000 in
theorem ii_ho_ways_0 : sm_D prog_1_method_24_code 0 1 1 (.aload_n 0) := ⟨by decide +kernel, rfl⟩
set_option maxRecDepth 100000 in
theorem ii_ho_ways_1 : sm_D prog_1_method_24_code 1 1 2 (.iload_n 1) := ⟨by decide +kernel, rfl⟩
set_option maxRecDepth 100000 in
theorem ii_ho_ways_2 : sm_D prog_1_method_24_code 2 1 3 (.iconst 5) := ⟨by decide +kernel, rfl⟩
set_option maxRecDepth 100000 in
theorem ii_ho_ways_3 : sm_D prog_1_method_24_code 3 3 6 (.invokevirtual 192) := ⟨by decide +kernel, rfl⟩
set_option maxRecDepth 100000 in
theorem ii_ho_ways_6 : sm_D prog_1_method_24_code 6 1 7 (.istore_n 2) := ⟨by decide +kernel, rfl⟩
set_option maxRecDepth 100000 in
theorem ii_ho_ways_7 : sm_D prog_1_method_24_code 7 1 8 (.iload_n 2) := ⟨by decide +kernel, rfl⟩
set_option maxRecDepth 100000 in
theorem ii_ho_ways_8 : sm_D prog_1_method_24_code 8 3 11 (.ifCond .eq 5) := ⟨by decide +kernel, rfl⟩
set_option maxRecDepth 100000 in
theorem ii_ho_ways_11 : sm_D prog_1_method_24_code 11 1 12 (.iload_n 2) := ⟨by decide +kernel, rfl⟩
set_option maxRecDepth 100000 in
theorem ii_ho_ways_12 : sm_D prog_1_method_24_code 12 1 13 (.ireturn) := ⟨by decide +kernel, rfl⟩
set_option maxRecDepth 100000 in
theorem ii_ho_ways_13 : sm_D prog_1_method_24_code 13 1 14 (.aload_n 0) := ⟨by decide +kernel, rfl⟩
set_option maxRecDepth 100000 in
theorem ii_ho_ways_14 : sm_D prog_1_method_24_code 14 3 17 (.getfield 40) := ⟨by decide +kernel, rfl⟩
set_option maxRecDepth 100000 in
theorem ii_ho_ways_17 : sm_D prog_1_method_24_code 17 1 18 (.aload_n 0) := ⟨by decide +kernel, rfl⟩
set_option maxRecDepth 100000 in
theorem ii_ho_ways_18 : sm_D prog_1_method_24_code 18 3 21 (.getfield 11) := ⟨by decide +kernel, rfl⟩
set_option maxRecDepth 100000 in
theorem ii_ho_ways_21 : sm_D prog_1_method_24_code 21 1 22 (.iload_n 1) := ⟨by decide +kernel, rfl⟩
set_option maxRecDepth 100000 in
theorem ii_ho_ways_22 : sm_D prog_1_method_24_code 22 1 23 (.aaload) := ⟨by decide +kernel, rfl⟩
set_option maxRecDepth 100000 in
theorem ii_ho_ways_23 : sm_D prog_1_method_24_code 23 2 25 (.bipush (-9)) := ⟨by decide +kernel, rfl⟩
set_option maxRecDepth 100000 in
theorem ii_ho_ways_25 : sm_D prog_1_method_24_code 25 3 28 (.invokevirtual 195) := ⟨by decide +kernel, rfl⟩
set_option maxRecDepth 100000 in
theorem ii_ho_ways_28 : sm_D prog_1_method_24_code 28 1 29 (.aload_n 0) := ⟨by decide +kernel, rfl⟩
set_option maxRecDepth 100000 in
theorem ii_ho_ways_29 : sm_D prog_1_method_24_code 29 3 32 (.getfield 54) := ⟨by decide +kernel, rfl⟩
set_option maxRecDepth 100000 in
theorem ii_ho_ways_32 : sm_D prog_1_method_24_code 32 1 33 (.aload_n 0) := ⟨by decide +kernel, rfl⟩
set_option maxRecDepth 100000 in
theorem ii_ho_ways_33 : sm_D prog_1_method_24_code 33 3 36 (.getfield 40) := ⟨by decide +kernel, rfl⟩
set_option maxRecDepth 100000 in
theorem ii_ho_ways_36 : sm_D prog_1_method_24_code 36 3 39 (.invokevirtual 199) := ⟨by decide +kernel, rfl⟩
set_option maxRecDepth 100000 in
theorem ii_ho_ways_39 : sm_D prog_1_method_24_code 39 1 40 (.i2l) := ⟨by decide +kernel, rfl⟩
set_option maxRecDepth 100000 in
theorem ii_ho_ways_40 : sm_D prog_1_method_24_code 40 1 41 (.lconst 1) := ⟨by decide +kernel, rfl⟩
set_option maxRecDepth 100000 in
theorem ii_ho_ways_41 : sm_D prog_1_method_24_code 41 3 44 (.invokevirtual 203) := ⟨by decide +kernel, rfl⟩
set_option maxRecDepth 100000 in
theorem ii_ho_ways_44 : sm_D prog_1_method_24_code 44 1 45 (.aload_n 0) := ⟨by decide +kernel, rfl⟩
set_option maxRecDepth 100000 in
theorem ii_ho_ways_45 : sm_D prog_1_method_24_code 45 3 48 (.getfield 54) := ⟨by decide +kernel, rfl⟩
set_option maxRecDepth 100000 in
theorem ii_ho_ways_48 : sm_D prog_1_method_24_code 48 1 49 (.aload_n 0) := ⟨by decide +kernel, rfl⟩
set_option maxRecDepth 100000 in
theorem ii_ho_ways_49 : sm_D prog_1_method_24_code 49 3 52 (.getfield 40) := ⟨by decide +kernel, rfl⟩
set_option maxRecDepth 100000 in
theorem ii_ho_ways_52 : sm_D prog_1_method_24_code 52 3 55 (.invokevirtual 207) := ⟨by decide +kernel, rfl⟩
set_option maxRecDepth 100000 in
theorem ii_ho_ways_55 : sm_D prog_1_method_24_code 55 3 58 (.putfield 70) := ⟨by decide +kernel, rfl⟩
set_option maxRecDepth 100000 in
theorem ii_ho_ways_58 : sm_D prog_1_method_24_code 58 1 59 (.iconst 1) := ⟨by decide +kernel, rfl⟩
set_option maxRecDepth 100000 in
theorem ii_ho_ways_59 : sm_D prog_1_method_24_code 59 1 60 (.ireturn) := ⟨by decide +kernel, rfl⟩
noncomputable def ff_ho_ways  (a1 : Int32) (w : sm_Mem) : sm_R := (sm_cI (ff_ho_refusalOfWords (a1) ((5 : Int32)) w) fun x1 w2 => (if x1 = (0 : Int32) then (Option.bind (sm_rr 1 a1) fun r3 => (sm_cV (ff_wy_runWords (r3) ((-9 : Int32)) w2) fun w5 => (sm_cI (ff_wy_fullWays  w5) fun x6 w7 => (sm_cV (ff_td_share ((Int32.toInt64 x6)) ((1 : Int64)) w7) fun w9 => (sm_cI (ff_wy_inAll  w9) fun x10 w11 => (sm_let (sm_wI w11 60 0 x10) fun w12 => (some (.int (1 : Int32), w12)))))))) else (some (.int x1, w2))))
set_option maxHeartbeats 4000000 in
set_option maxRecDepth 100000 in
theorem ss_ho_ways_0 {E : Nat × (Nat → Int32)}  (a1 : Int32) (w : sm_Mem) : sm_Sim E (mi_ho_ways) 0 [some (.ref 0), some (.int a1), none] [] w (ff_ho_ways  a1 w) := by
  unfold ff_ho_ways
  refine sm_aload_n ii_ho_ways_0 rfl ?_
  refine sm_iload_n ii_ho_ways_1 rfl ?_
  refine sm_iconst (5 : Int32) ii_ho_ways_2 (by decide) ?_
  refine sm_cvI [.int a1, .int (5 : Int32)] [] rfl ii_ho_ways_3 ml_ho_192 (mf_ho_refusalOfWords) (mv_ho_refusalOfWords) (Nat.le_of_ble_eq_true rfl) rfl 6 rfl rfl rfl rfl (mc_ho_refusalOfWords (a1) ((5 : Int32)) w) (fun x1 w2 => ?_)
  refine sm_istore_n [some (.ref 0), some (.int a1), some (.int x1)] ii_ho_ways_6 rfl rfl ?_
  refine sm_iload_n ii_ho_ways_7 rfl ?_
  refine sm_if_eq 13 ii_ho_ways_8 (by decide) ?_ ?_
  · refine sm_aload_n ii_ho_ways_13 rfl ?_
    refine sm_getR 49 ii_ho_ways_14 fl_ho_40 (k := 0) rfl ?_
    refine sm_aload_n ii_ho_ways_17 rfl ?_
    refine sm_getR 1 ii_ho_ways_18 fl_ho_11 (k := 0) rfl ?_
    refine sm_iload_n ii_ho_ways_21 rfl ?_
    refine sm_aald ii_ho_ways_22 (fun r3 => ?_)
    refine sm_bipush (-9 : Int32) ii_ho_ways_23 (by decide) ?_
    refine sm_cvV [.ref r3, .int (-9 : Int32)] [] rfl ii_ho_ways_25 ml_ho_195 (mf_wy_runWords) (mv_wy_runWords) (Nat.le_of_ble_eq_true rfl) rfl 5 rfl rfl rfl rfl (mc_wy_runWords (r3) ((-9 : Int32)) w2) (fun w5 => ?_)
    refine sm_aload_n ii_ho_ways_28 rfl ?_
    refine sm_getR 60 ii_ho_ways_29 fl_ho_54 (k := 0) rfl ?_
    refine sm_aload_n ii_ho_ways_32 rfl ?_
    refine sm_getR 49 ii_ho_ways_33 fl_ho_40 (k := 0) rfl ?_
    refine sm_cvI [] [.ref 60] rfl ii_ho_ways_36 ml_ho_199 (mf_wy_fullWays) (mv_wy_fullWays) (Nat.le_of_ble_eq_true rfl) rfl 5 rfl rfl rfl rfl (mc_wy_fullWays  w5) (fun x6 w7 => ?_)
    refine sm_i2l ii_ho_ways_39 ?_
    refine sm_lconst (1 : Int64) ii_ho_ways_40 (by decide) ?_
    refine sm_cvV [.long (Int32.toInt64 x6), .long (1 : Int64)] [] rfl ii_ho_ways_41 ml_ho_203 (mf_td_share) (mv_td_share) (Nat.le_of_ble_eq_true rfl) rfl 3 rfl rfl rfl rfl (mc_td_share ((Int32.toInt64 x6)) ((1 : Int64)) w7) (fun w9 => ?_)
    refine sm_aload_n ii_ho_ways_44 rfl ?_
    refine sm_getR 60 ii_ho_ways_45 fl_ho_54 (k := 0) rfl ?_
    refine sm_aload_n ii_ho_ways_48 rfl ?_
    refine sm_getR 49 ii_ho_ways_49 fl_ho_40 (k := 0) rfl ?_
    refine sm_cvI [] [.ref 60] rfl ii_ho_ways_52 ml_ho_207 (mf_wy_inAll) (mv_wy_inAll) (Nat.le_of_ble_eq_true rfl) rfl 5 rfl rfl rfl rfl (mc_wy_inAll  w9) (fun x10 w11 => ?_)
    refine sm_putI ii_ho_ways_55 fp_ho_70 (k := 60) rfl (fun w12 => ?_)
    refine sm_iconst (1 : Int32) ii_ho_ways_58 (by decide) ?_
    exact sm_iret ii_ho_ways_59 rfl
  · refine sm_iload_n ii_ho_ways_11 rfl ?_
    exact sm_iret ii_ho_ways_12 rfl
set_option maxHeartbeats 4000000 in
set_option maxRecDepth 100000 in
theorem mc_ho_ways (a1 : Int32) (w : sm_Mem) : sm_MC mi_ho_ways [.ref 0, .int a1] w (ff_ho_ways a1 w) := sm_MC_of (0, fun _ => 0) (by decide +kernel) (by decide) rfl (Nat.le_of_ble_eq_true rfl) (ss_ho_ways_0 a1 w)
abbrev mi_mo_layGoal : sm_MI := (⟨"HerOrdersModel", "layGoal", "(II)V"⟩, prog_9_method_60_code, 4, none, 1)
set_option maxRecDepth 100000 in
theorem mf_mo_layGoal : sm_MF mi_mo_layGoal 2 := ⟨List.mem_of_getElem? (i := 1267) (by decide +kernel), List.mem_of_getElem? (i := 132) (by decide +kernel), ⟨by decide, by decide⟩, by decide +kernel⟩
set_option maxRecDepth 100000 in
theorem mv_mo_layGoal : sm_MFV mi_mo_layGoal := ⟨List.mem_of_getElem? (i := 1266) (by decide +kernel), List.mem_of_getElem? (i := 100) (by decide +kernel)⟩
set_option maxRecDepth 100000 in
theorem ii_mo_layGoal_0 : sm_D prog_9_method_60_code 0 1 1 (.aload_n 0) := ⟨by decide +kernel, rfl⟩
set_option maxRecDepth 100000 in
theorem ii_mo_layGoal_1 : sm_D prog_9_method_60_code 1 1 2 (.aload_n 0) := ⟨by decide +kernel, rfl⟩
set_option maxRecDepth 100000 in
theorem ii_mo_layGoal_2 : sm_D prog_9_method_60_code 2 3 5 (.getfield 22) := ⟨by decide +kernel, rfl⟩
set_option maxRecDepth 100000 in
theorem ii_mo_layGoal_5 : sm_D prog_9_method_60_code 5 1 6 (.iload_n 1) := ⟨by decide +kernel, rfl⟩
set_option maxRecDepth 100000 in
theorem ii_mo_layGoal_6 : sm_D prog_9_method_60_code 6 1 7 (.iaload) := ⟨by decide +kernel, rfl⟩
set_option maxRecDepth 100000 in
theorem ii_mo_layGoal_7 : sm_D prog_9_method_60_code 7 1 8 (.iload_n 2) := ⟨by decide +kernel, rfl⟩
set_option maxRecDepth 100000 in
theorem ii_mo_layGoal_8 : sm_D prog_9_method_60_code 8 1 9 (.idiv) := ⟨by decide +kernel, rfl⟩
set_option maxRecDepth 100000 in
theorem ii_mo_layGoal_9 : sm_D prog_9_method_60_code 9 3 12 (.putfield 208) := ⟨by decide +kernel, rfl⟩
set_option maxRecDepth 100000 in
theorem ii_mo_layGoal_12 : sm_D prog_9_method_60_code 12 1 13 (.iconst 0) := ⟨by decide +kernel, rfl⟩
set_option maxRecDepth 100000 in
theorem ii_mo_layGoal_13 : sm_D prog_9_method_60_code 13 1 14 (.istore_n 3) := ⟨by decide +kernel, rfl⟩
set_option maxRecDepth 100000 in
theorem ii_mo_layGoal_14 : sm_D prog_9_method_60_code 14 1 15 (.iload_n 3) := ⟨by decide +kernel, rfl⟩
set_option maxRecDepth 100000 in
theorem ii_mo_layGoal_15 : sm_D prog_9_method_60_code 15 1 16 (.aload_n 0) := ⟨by decide +kernel, rfl⟩
set_option maxRecDepth 100000 in
theorem ii_mo_layGoal_16 : sm_D prog_9_method_60_code 16 3 19 (.getfield 208) := ⟨by decide +kernel, rfl⟩
set_option maxRecDepth 100000 in
theorem ii_mo_layGoal_19 : sm_D prog_9_method_60_code 19 3 22 (.if_icmp .ge 59) := ⟨by decide +kernel, rfl⟩
set_option maxRecDepth 100000 in
theorem ii_mo_layGoal_22 : sm_D prog_9_method_60_code 22 1 23 (.aload_n 0) := ⟨by decide +kernel, rfl⟩
set_option maxRecDepth 100000 in
theorem ii_mo_layGoal_23 : sm_D prog_9_method_60_code 23 3 26 (.getfield 44) := ⟨by decide +kernel, rfl⟩
set_option maxRecDepth 100000 in
theorem ii_mo_layGoal_26 : sm_D prog_9_method_60_code 26 1 27 (.iload_n 3) := ⟨by decide +kernel, rfl⟩
set_option maxRecDepth 100000 in
theorem ii_mo_layGoal_27 : sm_D prog_9_method_60_code 27 1 28 (.aload_n 0) := ⟨by decide +kernel, rfl⟩
set_option maxRecDepth 100000 in
theorem ii_mo_layGoal_28 : sm_D prog_9_method_60_code 28 3 31 (.getfield 25) := ⟨by decide +kernel, rfl⟩
set_option maxRecDepth 100000 in
theorem ii_mo_layGoal_31 : sm_D prog_9_method_60_code 31 2 33 (.bipush 40) := ⟨by decide +kernel, rfl⟩
set_option maxRecDepth 100000 in
theorem ii_mo_layGoal_33 : sm_D prog_9_method_60_code 33 1 34 (.iload_n 1) := ⟨by decide +kernel, rfl⟩
set_option maxRecDepth 100000 in
theorem ii_mo_layGoal_34 : sm_D prog_9_method_60_code 34 1 35 (.imul) := ⟨by decide +kernel, rfl⟩
set_option maxRecDepth 100000 in
theorem ii_mo_layGoal_35 : sm_D prog_9_method_60_code 35 1 36 (.iload_n 2) := ⟨by decide +kernel, rfl⟩
set_option maxRecDepth 100000 in
theorem ii_mo_layGoal_36 : sm_D prog_9_method_60_code 36 1 37 (.iload_n 3) := ⟨by decide +kernel, rfl⟩
set_option maxRecDepth 100000 in
theorem ii_mo_layGoal_37 : sm_D prog_9_method_60_code 37 1 38 (.imul) := ⟨by decide +kernel, rfl⟩
set_option maxRecDepth 100000 in
theorem ii_mo_layGoal_38 : sm_D prog_9_method_60_code 38 1 39 (.iadd) := ⟨by decide +kernel, rfl⟩
set_option maxRecDepth 100000 in
theorem ii_mo_layGoal_39 : sm_D prog_9_method_60_code 39 1 40 (.iaload) := ⟨by decide +kernel, rfl⟩
set_option maxRecDepth 100000 in
theorem ii_mo_layGoal_40 : sm_D prog_9_method_60_code 40 1 41 (.iastore) := ⟨by decide +kernel, rfl⟩
set_option maxRecDepth 100000 in
theorem ii_mo_layGoal_41 : sm_D prog_9_method_60_code 41 1 42 (.aload_n 0) := ⟨by decide +kernel, rfl⟩
set_option maxRecDepth 100000 in
theorem ii_mo_layGoal_42 : sm_D prog_9_method_60_code 42 3 45 (.getfield 47) := ⟨by decide +kernel, rfl⟩
set_option maxRecDepth 100000 in
theorem ii_mo_layGoal_45 : sm_D prog_9_method_60_code 45 1 46 (.iload_n 3) := ⟨by decide +kernel, rfl⟩
set_option maxRecDepth 100000 in
theorem ii_mo_layGoal_46 : sm_D prog_9_method_60_code 46 1 47 (.iload_n 2) := ⟨by decide +kernel, rfl⟩
set_option maxRecDepth 100000 in
theorem ii_mo_layGoal_47 : sm_D prog_9_method_60_code 47 1 48 (.iconst 1) := ⟨by decide +kernel, rfl⟩
set_option maxRecDepth 100000 in
theorem ii_mo_layGoal_48 : sm_D prog_9_method_60_code 48 3 51 (.if_icmp .ne 8) := ⟨by decide +kernel, rfl⟩
set_option maxRecDepth 100000 in
theorem ii_mo_layGoal_51 : sm_D prog_9_method_60_code 51 2 53 (.bipush (-9)) := ⟨by decide +kernel, rfl⟩
set_option maxRecDepth 100000 in
theorem ii_mo_layGoal_53 : sm_D prog_9_method_60_code 53 3 56 (.goto 18) := ⟨by decide +kernel, rfl⟩
set_option maxRecDepth 100000 in
theorem ii_mo_layGoal_56 : sm_D prog_9_method_60_code 56 1 57 (.aload_n 0) := ⟨by decide +kernel, rfl⟩
set_option maxRecDepth 100000 in
theorem ii_mo_layGoal_57 : sm_D prog_9_method_60_code 57 3 60 (.getfield 25) := ⟨by decide +kernel, rfl⟩
set_option maxRecDepth 100000 in
theorem ii_mo_layGoal_60 : sm_D prog_9_method_60_code 60 2 62 (.bipush 40) := ⟨by decide +kernel, rfl⟩
set_option maxRecDepth 100000 in
theorem ii_mo_layGoal_62 : sm_D prog_9_method_60_code 62 1 63 (.iload_n 1) := ⟨by decide +kernel, rfl⟩
set_option maxRecDepth 100000 in
theorem ii_mo_layGoal_63 : sm_D prog_9_method_60_code 63 1 64 (.imul) := ⟨by decide +kernel, rfl⟩
set_option maxRecDepth 100000 in
theorem ii_mo_layGoal_64 : sm_D prog_9_method_60_code 64 1 65 (.iload_n 2) := ⟨by decide +kernel, rfl⟩
set_option maxRecDepth 100000 in
theorem ii_mo_layGoal_65 : sm_D prog_9_method_60_code 65 1 66 (.iload_n 3) := ⟨by decide +kernel, rfl⟩
set_option maxRecDepth 100000 in
theorem ii_mo_layGoal_66 : sm_D prog_9_method_60_code 66 1 67 (.imul) := ⟨by decide +kernel, rfl⟩
set_option maxRecDepth 100000 in
theorem ii_mo_layGoal_67 : sm_D prog_9_method_60_code 67 1 68 (.iadd) := ⟨by decide +kernel, rfl⟩
set_option maxRecDepth 100000 in
theorem ii_mo_layGoal_68 : sm_D prog_9_method_60_code 68 1 69 (.iconst 1) := ⟨by decide +kernel, rfl⟩
set_option maxRecDepth 100000 in
theorem ii_mo_layGoal_69 : sm_D prog_9_method_60_code 69 1 70 (.iadd) := ⟨by decide +kernel, rfl⟩
set_option maxRecDepth 100000 in
theorem ii_mo_layGoal_70 : sm_D prog_9_method_60_code 70 1 71 (.iaload) := ⟨by decide +kernel, rfl⟩
set_option maxRecDepth 100000 in
theorem ii_mo_layGoal_71 : sm_D prog_9_method_60_code 71 1 72 (.iastore) := ⟨by decide +kernel, rfl⟩
set_option maxRecDepth 100000 in
theorem ii_mo_layGoal_72 : sm_D prog_9_method_60_code 72 3 75 (.iinc 3 1) := ⟨by decide +kernel, rfl⟩
set_option maxRecDepth 100000 in
theorem ii_mo_layGoal_75 : sm_D prog_9_method_60_code 75 3 78 (.goto (-61)) := ⟨by decide +kernel, rfl⟩
set_option maxRecDepth 100000 in
theorem ii_mo_layGoal_78 : sm_D prog_9_method_60_code 78 1 79 (.aload_n 0) := ⟨by decide +kernel, rfl⟩
set_option maxRecDepth 100000 in
theorem ii_mo_layGoal_79 : sm_D prog_9_method_60_code 79 1 80 (.aload_n 0) := ⟨by decide +kernel, rfl⟩
set_option maxRecDepth 100000 in
theorem ii_mo_layGoal_80 : sm_D prog_9_method_60_code 80 3 83 (.getfield 135) := ⟨by decide +kernel, rfl⟩
set_option maxRecDepth 100000 in
theorem ii_mo_layGoal_83 : sm_D prog_9_method_60_code 83 3 86 (.putfield 211) := ⟨by decide +kernel, rfl⟩
set_option maxRecDepth 100000 in
theorem ii_mo_layGoal_86 : sm_D prog_9_method_60_code 86 1 87 (.aload_n 0) := ⟨by decide +kernel, rfl⟩
set_option maxRecDepth 100000 in
theorem ii_mo_layGoal_87 : sm_D prog_9_method_60_code 87 1 88 (.iconst 0) := ⟨by decide +kernel, rfl⟩
set_option maxRecDepth 100000 in
theorem ii_mo_layGoal_88 : sm_D prog_9_method_60_code 88 3 91 (.putfield 214) := ⟨by decide +kernel, rfl⟩
set_option maxRecDepth 100000 in
theorem ii_mo_layGoal_91 : sm_D prog_9_method_60_code 91 1 92 (.return_) := ⟨by decide +kernel, rfl⟩
noncomputable def ff_mo_layGoal_71 (self14 : Int32 → Int32 → Int32 → sm_Mem → sm_R) (a1 : Int32) (a2 : Int32) (a3 : Int32) (b1 : Int32) (b2 : Int32) (w : sm_Mem) : sm_R := (Option.bind (sm_wr w 74 5 b1 b2) fun w1 => self14 (a1) (a2) ((a3 + (1 : Int32))) w1)
set_option maxHeartbeats 4000000 in
set_option maxRecDepth 100000 in
theorem ss_mo_layGoal_71 {E : Nat × (Nat → Int32)} (self14 : Int32 → Int32 → Int32 → sm_Mem → sm_R) (hself14 : ∀ (a1 : Int32) (a2 : Int32) (a3 : Int32) (w : sm_Mem), sm_Sim E (mi_mo_layGoal) 14 [some (.ref 62), some (.int a1), some (.int a2), some (.int a3)] [] w (self14 a1 a2 a3 w)) (a1 : Int32) (a2 : Int32) (a3 : Int32) (b1 : Int32) (b2 : Int32) (w : sm_Mem) : sm_Sim E (mi_mo_layGoal) 71 [some (.ref 62), some (.int a1), some (.int a2), some (.int a3)] [.int b2, .int b1, .ref 74] w (ff_mo_layGoal_71 self14 a1 a2 a3 b1 b2 w) := by
  unfold ff_mo_layGoal_71
  refine sm_iast ii_mo_layGoal_71 (k := 74) rfl (fun w1 => ?_)
  refine sm_iinc (a3 + (1 : Int32)) [some (.ref 62), some (.int a1), some (.int a2), some (.int (a3 + (1 : Int32)))] ii_mo_layGoal_72 rfl rfl rfl rfl ?_
  refine sm_goto 14 ii_mo_layGoal_75 (by decide) ?_
  exact hself14 (a1) (a2) ((a3 + (1 : Int32))) w1
noncomputable def ff_mo_layGoal_14_b  (self14 : Int32 → Int32 → Int32 → sm_Mem → sm_R) (a1 : Int32) (a2 : Int32) (a3 : Int32) (w : sm_Mem) : sm_R := (if (w.1 62 21) ≤ a3 then (sm_let (sm_wI w 62 22 (w.1 62 1)) fun w2 => (sm_let (sm_wI w2 62 23 (0 : Int32)) fun w3 => (some (.null, w3)))) else (Option.bind (sm_rd w 68 240 (((40 : Int32) * a1) + (a2 * a3))) fun x4 => (Option.bind (sm_wr w 73 5 a3 x4) fun w5 => (if a2 = (1 : Int32) then ff_mo_layGoal_71 self14 (a1) (a2) (a3) (a3) ((-9 : Int32)) w5 else (Option.bind (sm_rd w5 68 240 ((((40 : Int32) * a1) + (a2 * a3)) + (1 : Int32))) fun x6 => ff_mo_layGoal_71 self14 (a1) (a2) (a3) (a3) (x6) w5)))))
noncomputable def ff_mo_layGoal_14_f  : Nat → Int32 → Int32 → Int32 → sm_Mem → sm_R
  | 0, _, _, _, _ => none
  | n + 1, a1, a2, a3, w => ff_mo_layGoal_14_b  (ff_mo_layGoal_14_f  n) a1 a2 a3 w
noncomputable def ff_mo_layGoal_14  (a1 : Int32) (a2 : Int32) (a3 : Int32) (w : sm_Mem) : sm_R := ff_mo_layGoal_14_f  sm_N a1 a2 a3 w
set_option maxHeartbeats 4000000 in
set_option maxRecDepth 100000 in
theorem ss_mo_layGoal_14_b {E : Nat × (Nat → Int32)}  (self14 : Int32 → Int32 → Int32 → sm_Mem → sm_R) (hself14 : ∀ (a1 : Int32) (a2 : Int32) (a3 : Int32) (w : sm_Mem), sm_Sim E (mi_mo_layGoal) 14 [some (.ref 62), some (.int a1), some (.int a2), some (.int a3)] [] w (self14 a1 a2 a3 w)) (a1 : Int32) (a2 : Int32) (a3 : Int32) (w : sm_Mem) : sm_Sim E (mi_mo_layGoal) 14 [some (.ref 62), some (.int a1), some (.int a2), some (.int a3)] [] w (ff_mo_layGoal_14_b  self14 a1 a2 a3 w) := by
  unfold ff_mo_layGoal_14_b
  refine sm_iload_n ii_mo_layGoal_14 rfl ?_
  refine sm_aload_n ii_mo_layGoal_15 rfl ?_
  refine sm_getI ii_mo_layGoal_16 fl_mo_208 (k := 62) rfl ?_
  refine sm_icmp_ge 78 ii_mo_layGoal_19 (by decide) ?_ ?_
  · refine sm_aload_n ii_mo_layGoal_78 rfl ?_
    refine sm_aload_n ii_mo_layGoal_79 rfl ?_
    refine sm_getI ii_mo_layGoal_80 fl_mo_135 (k := 62) rfl ?_
    refine sm_putI ii_mo_layGoal_83 fp_mo_211 (k := 62) rfl (fun w2 => ?_)
    refine sm_aload_n ii_mo_layGoal_86 rfl ?_
    refine sm_iconst (0 : Int32) ii_mo_layGoal_87 (by decide) ?_
    refine sm_putI ii_mo_layGoal_88 fp_mo_214 (k := 62) rfl (fun w3 => ?_)
    exact sm_vret ii_mo_layGoal_91 rfl
  · refine sm_aload_n ii_mo_layGoal_22 rfl ?_
    refine sm_getR 73 ii_mo_layGoal_23 fl_mo_44 (k := 62) rfl ?_
    refine sm_iload_n ii_mo_layGoal_26 rfl ?_
    refine sm_aload_n ii_mo_layGoal_27 rfl ?_
    refine sm_getR 68 ii_mo_layGoal_28 fl_mo_25 (k := 62) rfl ?_
    refine sm_bipush (40 : Int32) ii_mo_layGoal_31 (by decide) ?_
    refine sm_iload_n ii_mo_layGoal_33 rfl ?_
    refine sm_imul ii_mo_layGoal_34 ?_
    refine sm_iload_n ii_mo_layGoal_35 rfl ?_
    refine sm_iload_n ii_mo_layGoal_36 rfl ?_
    refine sm_imul ii_mo_layGoal_37 ?_
    refine sm_iadd ii_mo_layGoal_38 ?_
    refine sm_iald ii_mo_layGoal_39 (k := 68) rfl (fun x4 => ?_)
    refine sm_iast ii_mo_layGoal_40 (k := 73) rfl (fun w5 => ?_)
    refine sm_aload_n ii_mo_layGoal_41 rfl ?_
    refine sm_getR 74 ii_mo_layGoal_42 fl_mo_47 (k := 62) rfl ?_
    refine sm_iload_n ii_mo_layGoal_45 rfl ?_
    refine sm_iload_n ii_mo_layGoal_46 rfl ?_
    refine sm_iconst (1 : Int32) ii_mo_layGoal_47 (by decide) ?_
    refine sm_icmp_ne 56 ii_mo_layGoal_48 (by decide) ?_ ?_
    · refine sm_bipush (-9 : Int32) ii_mo_layGoal_51 (by decide) ?_
      refine sm_goto 71 ii_mo_layGoal_53 (by decide) ?_
      exact ss_mo_layGoal_71 self14 hself14 (a1) (a2) (a3) (a3) ((-9 : Int32)) w5
    · refine sm_aload_n ii_mo_layGoal_56 rfl ?_
      refine sm_getR 68 ii_mo_layGoal_57 fl_mo_25 (k := 62) rfl ?_
      refine sm_bipush (40 : Int32) ii_mo_layGoal_60 (by decide) ?_
      refine sm_iload_n ii_mo_layGoal_62 rfl ?_
      refine sm_imul ii_mo_layGoal_63 ?_
      refine sm_iload_n ii_mo_layGoal_64 rfl ?_
      refine sm_iload_n ii_mo_layGoal_65 rfl ?_
      refine sm_imul ii_mo_layGoal_66 ?_
      refine sm_iadd ii_mo_layGoal_67 ?_
      refine sm_iconst (1 : Int32) ii_mo_layGoal_68 (by decide) ?_
      refine sm_iadd ii_mo_layGoal_69 ?_
      refine sm_iald ii_mo_layGoal_70 (k := 68) rfl (fun x6 => ?_)
      exact ss_mo_layGoal_71 self14 hself14 (a1) (a2) (a3) (a3) (x6) w5
set_option maxHeartbeats 4000000 in
set_option maxRecDepth 100000 in
theorem ss_mo_layGoal_14_f {E : Nat × (Nat → Int32)}  : ∀ (n : Nat) (a1 : Int32) (a2 : Int32) (a3 : Int32) (w : sm_Mem), sm_Sim E (mi_mo_layGoal) 14 [some (.ref 62), some (.int a1), some (.int a2), some (.int a3)] [] w (ff_mo_layGoal_14_f  n a1 a2 a3 w)
  | 0, _, _, _, _ => fun _ _ h => by cases h
  | n + 1, a1, a2, a3, w => ss_mo_layGoal_14_b  _ (ss_mo_layGoal_14_f  n) a1 a2 a3 w
set_option maxHeartbeats 4000000 in
set_option maxRecDepth 100000 in
theorem ss_mo_layGoal_14 {E : Nat × (Nat → Int32)}  (a1 : Int32) (a2 : Int32) (a3 : Int32) (w : sm_Mem) : sm_Sim E (mi_mo_layGoal) 14 [some (.ref 62), some (.int a1), some (.int a2), some (.int a3)] [] w (ff_mo_layGoal_14  a1 a2 a3 w) := ss_mo_layGoal_14_f  sm_N a1 a2 a3 w
noncomputable def ff_mo_layGoal  (a1 : Int32) (a2 : Int32) (w : sm_Mem) : sm_R := (Option.bind (sm_rd w 67 6 a1) fun x7 => (if a2 = (0 : Int32) then none else (sm_let (sm_wI w 62 21 (x7 / a2)) fun w9 => ff_mo_layGoal_14 (a1) (a2) ((0 : Int32)) w9)))
set_option maxHeartbeats 4000000 in
set_option maxRecDepth 100000 in
theorem ss_mo_layGoal_0 {E : Nat × (Nat → Int32)}  (a1 : Int32) (a2 : Int32) (w : sm_Mem) : sm_Sim E (mi_mo_layGoal) 0 [some (.ref 62), some (.int a1), some (.int a2), none] [] w (ff_mo_layGoal  a1 a2 w) := by
  unfold ff_mo_layGoal
  refine sm_aload_n ii_mo_layGoal_0 rfl ?_
  refine sm_aload_n ii_mo_layGoal_1 rfl ?_
  refine sm_getR 67 ii_mo_layGoal_2 fl_mo_22 (k := 62) rfl ?_
  refine sm_iload_n ii_mo_layGoal_5 rfl ?_
  refine sm_iald ii_mo_layGoal_6 (k := 67) rfl (fun x7 => ?_)
  refine sm_iload_n ii_mo_layGoal_7 rfl ?_
  refine sm_idiv ii_mo_layGoal_8 ?_
  refine sm_putI ii_mo_layGoal_9 fp_mo_208 (k := 62) rfl (fun w9 => ?_)
  refine sm_iconst (0 : Int32) ii_mo_layGoal_12 (by decide) ?_
  refine sm_istore_n [some (.ref 62), some (.int a1), some (.int a2), some (.int (0 : Int32))] ii_mo_layGoal_13 rfl rfl ?_
  exact ss_mo_layGoal_14 (a1) (a2) ((0 : Int32)) w9
set_option maxHeartbeats 4000000 in
set_option maxRecDepth 100000 in
theorem mc_mo_layGoal (a1 : Int32) (a2 : Int32) (w : sm_Mem) : sm_MC mi_mo_layGoal [.ref 62, .int a1, .int a2] w (ff_mo_layGoal a1 a2 w) := sm_MC_of (0, fun _ => 0) (by decide +kernel) (by decide) rfl (Nat.le_of_ble_eq_true rfl) (ss_mo_layGoal_0 a1 a2 w)
abbrev mi_mo_noGoal : sm_MI := (⟨"HerOrdersModel", "noGoal", "(II)I"⟩, prog_9_method_68_code, 5, (some .int), 3)
set_option maxRecDepth 100000 in
theorem mf_mo_noGoal : sm_MF mi_mo_noGoal 2 := ⟨List.mem_of_getElem? (i := 1263) (by decide +kernel), List.mem_of_getElem? (i := 132) (by decide +kernel), ⟨by decide, by decide⟩, by decide +kernel⟩
set_option maxRecDepth 100000 in
theorem mv_mo_noGoal : sm_MFV mi_mo_noGoal := ⟨List.mem_of_getElem? (i := 1262) (by decide +kernel), List.mem_of_getElem? (i := 99) (by decide +kernel)⟩
set_option maxRecDepth 100000 in
theorem ii_mo_noGoal_0 : sm_D prog_9_method_68_code 0 1 1 (.aload_n 0) := ⟨by decide +kernel, rfl⟩
set_option maxRecDepth 100000 in
theorem ii_mo_noGoal_1 : sm_D prog_9_method_68_code 1 3 4 (.getfield 135) := ⟨by decide +kernel, rfl⟩
set_option maxRecDepth 100000 in
theorem ii_mo_noGoal_4 : sm_D prog_9_method_68_code 4 3 7 (.ifCond .ne 6) := ⟨by decide +kernel, rfl⟩
set_option maxRecDepth 100000 in
theorem ii_mo_noGoal_7 : sm_D prog_9_method_68_code 7 2 9 (.bipush (-4)) := ⟨by decide +kernel, rfl⟩
set_option maxRecDepth 100000 in
theorem ii_mo_noGoal_9 : sm_D prog_9_method_68_code 9 1 10 (.ireturn) := ⟨by decide +kernel, rfl⟩
set_option maxRecDepth 100000 in
theorem ii_mo_noGoal_10 : sm_D prog_9_method_68_code 10 1 11 (.aload_n 0) := ⟨by decide +kernel, rfl⟩
set_option maxRecDepth 100000 in
theorem ii_mo_noGoal_11 : sm_D prog_9_method_68_code 11 3 14 (.getfield 22) := ⟨by decide +kernel, rfl⟩
set_option maxRecDepth 100000 in
theorem ii_mo_noGoal_14 : sm_D prog_9_method_68_code 14 1 15 (.iload_n 1) := ⟨by decide +kernel, rfl⟩
set_option maxRecDepth 100000 in
theorem ii_mo_noGoal_15 : sm_D prog_9_method_68_code 15 1 16 (.iaload) := ⟨by decide +kernel, rfl⟩
set_option maxRecDepth 100000 in
theorem ii_mo_noGoal_16 : sm_D prog_9_method_68_code 16 3 19 (.ifCond .ge 9) := ⟨by decide +kernel, rfl⟩
set_option maxRecDepth 100000 in
theorem ii_mo_noGoal_19 : sm_D prog_9_method_68_code 19 1 20 (.aload_n 0) := ⟨by decide +kernel, rfl⟩
set_option maxRecDepth 100000 in
theorem ii_mo_noGoal_20 : sm_D prog_9_method_68_code 20 1 21 (.iconst 1) := ⟨by decide +kernel, rfl⟩
set_option maxRecDepth 100000 in
theorem ii_mo_noGoal_21 : sm_D prog_9_method_68_code 21 3 24 (.invokevirtual 81) := ⟨by decide +kernel, rfl⟩
set_option maxRecDepth 100000 in
theorem ii_mo_noGoal_24 : sm_D prog_9_method_68_code 24 1 25 (.ireturn) := ⟨by decide +kernel, rfl⟩
set_option maxRecDepth 100000 in
theorem ii_mo_noGoal_25 : sm_D prog_9_method_68_code 25 1 26 (.aload_n 0) := ⟨by decide +kernel, rfl⟩
set_option maxRecDepth 100000 in
theorem ii_mo_noGoal_26 : sm_D prog_9_method_68_code 26 3 29 (.getfield 22) := ⟨by decide +kernel, rfl⟩
set_option maxRecDepth 100000 in
theorem ii_mo_noGoal_29 : sm_D prog_9_method_68_code 29 1 30 (.iload_n 1) := ⟨by decide +kernel, rfl⟩
set_option maxRecDepth 100000 in
theorem ii_mo_noGoal_30 : sm_D prog_9_method_68_code 30 1 31 (.iaload) := ⟨by decide +kernel, rfl⟩
set_option maxRecDepth 100000 in
theorem ii_mo_noGoal_31 : sm_D prog_9_method_68_code 31 1 32 (.iload_n 2) := ⟨by decide +kernel, rfl⟩
set_option maxRecDepth 100000 in
theorem ii_mo_noGoal_32 : sm_D prog_9_method_68_code 32 1 33 (.irem) := ⟨by decide +kernel, rfl⟩
set_option maxRecDepth 100000 in
theorem ii_mo_noGoal_33 : sm_D prog_9_method_68_code 33 3 36 (.ifCond .ne 15) := ⟨by decide +kernel, rfl⟩
set_option maxRecDepth 100000 in
theorem ii_mo_noGoal_36 : sm_D prog_9_method_68_code 36 1 37 (.aload_n 0) := ⟨by decide +kernel, rfl⟩
set_option maxRecDepth 100000 in
theorem ii_mo_noGoal_37 : sm_D prog_9_method_68_code 37 3 40 (.getfield 22) := ⟨by decide +kernel, rfl⟩
set_option maxRecDepth 100000 in
theorem ii_mo_noGoal_40 : sm_D prog_9_method_68_code 40 1 41 (.iload_n 1) := ⟨by decide +kernel, rfl⟩
set_option maxRecDepth 100000 in
theorem ii_mo_noGoal_41 : sm_D prog_9_method_68_code 41 1 42 (.iaload) := ⟨by decide +kernel, rfl⟩
set_option maxRecDepth 100000 in
theorem ii_mo_noGoal_42 : sm_D prog_9_method_68_code 42 1 43 (.iconst 5) := ⟨by decide +kernel, rfl⟩
set_option maxRecDepth 100000 in
theorem ii_mo_noGoal_43 : sm_D prog_9_method_68_code 43 1 44 (.iload_n 2) := ⟨by decide +kernel, rfl⟩
set_option maxRecDepth 100000 in
theorem ii_mo_noGoal_44 : sm_D prog_9_method_68_code 44 1 45 (.imul) := ⟨by decide +kernel, rfl⟩
set_option maxRecDepth 100000 in
theorem ii_mo_noGoal_45 : sm_D prog_9_method_68_code 45 3 48 (.if_icmp .le 9) := ⟨by decide +kernel, rfl⟩
set_option maxRecDepth 100000 in
theorem ii_mo_noGoal_48 : sm_D prog_9_method_68_code 48 1 49 (.aload_n 0) := ⟨by decide +kernel, rfl⟩
set_option maxRecDepth 100000 in
theorem ii_mo_noGoal_49 : sm_D prog_9_method_68_code 49 1 50 (.iconst 5) := ⟨by decide +kernel, rfl⟩
set_option maxRecDepth 100000 in
theorem ii_mo_noGoal_50 : sm_D prog_9_method_68_code 50 3 53 (.invokevirtual 81) := ⟨by decide +kernel, rfl⟩
set_option maxRecDepth 100000 in
theorem ii_mo_noGoal_53 : sm_D prog_9_method_68_code 53 1 54 (.ireturn) := ⟨by decide +kernel, rfl⟩
set_option maxRecDepth 100000 in
theorem ii_mo_noGoal_54 : sm_D prog_9_method_68_code 54 1 55 (.iconst 1) := ⟨by decide +kernel, rfl⟩
set_option maxRecDepth 100000 in
theorem ii_mo_noGoal_55 : sm_D prog_9_method_68_code 55 1 56 (.istore_n 3) := ⟨by decide +kernel, rfl⟩
set_option maxRecDepth 100000 in
theorem ii_mo_noGoal_56 : sm_D prog_9_method_68_code 56 2 58 (.bipush 40) := ⟨by decide +kernel, rfl⟩
set_option maxRecDepth 100000 in
theorem ii_mo_noGoal_58 : sm_D prog_9_method_68_code 58 1 59 (.iload_n 1) := ⟨by decide +kernel, rfl⟩
set_option maxRecDepth 100000 in
theorem ii_mo_noGoal_59 : sm_D prog_9_method_68_code 59 1 60 (.imul) := ⟨by decide +kernel, rfl⟩
set_option maxRecDepth 100000 in
theorem ii_mo_noGoal_60 : sm_D prog_9_method_68_code 60 2 62 (.istore 4) := ⟨by decide +kernel, rfl⟩
set_option maxRecDepth 100000 in
theorem ii_mo_noGoal_62 : sm_D prog_9_method_68_code 62 2 64 (.iload 4) := ⟨by decide +kernel, rfl⟩
set_option maxRecDepth 100000 in
theorem ii_mo_noGoal_64 : sm_D prog_9_method_68_code 64 2 66 (.bipush 40) := ⟨by decide +kernel, rfl⟩
set_option maxRecDepth 100000 in
theorem ii_mo_noGoal_66 : sm_D prog_9_method_68_code 66 1 67 (.iload_n 1) := ⟨by decide +kernel, rfl⟩
set_option maxRecDepth 100000 in
theorem ii_mo_noGoal_67 : sm_D prog_9_method_68_code 67 1 68 (.imul) := ⟨by decide +kernel, rfl⟩
set_option maxRecDepth 100000 in
theorem ii_mo_noGoal_68 : sm_D prog_9_method_68_code 68 1 69 (.aload_n 0) := ⟨by decide +kernel, rfl⟩
set_option maxRecDepth 100000 in
theorem ii_mo_noGoal_69 : sm_D prog_9_method_68_code 69 3 72 (.getfield 22) := ⟨by decide +kernel, rfl⟩
set_option maxRecDepth 100000 in
theorem ii_mo_noGoal_72 : sm_D prog_9_method_68_code 72 1 73 (.iload_n 1) := ⟨by decide +kernel, rfl⟩
set_option maxRecDepth 100000 in
theorem ii_mo_noGoal_73 : sm_D prog_9_method_68_code 73 1 74 (.iaload) := ⟨by decide +kernel, rfl⟩
set_option maxRecDepth 100000 in
theorem ii_mo_noGoal_74 : sm_D prog_9_method_68_code 74 1 75 (.iadd) := ⟨by decide +kernel, rfl⟩
set_option maxRecDepth 100000 in
theorem ii_mo_noGoal_75 : sm_D prog_9_method_68_code 75 3 78 (.if_icmp .ge 32) := ⟨by decide +kernel, rfl⟩
set_option maxRecDepth 100000 in
theorem ii_mo_noGoal_78 : sm_D prog_9_method_68_code 78 1 79 (.iload_n 3) := ⟨by decide +kernel, rfl⟩
set_option maxRecDepth 100000 in
theorem ii_mo_noGoal_79 : sm_D prog_9_method_68_code 79 3 82 (.ifCond .eq 20) := ⟨by decide +kernel, rfl⟩
set_option maxRecDepth 100000 in
theorem ii_mo_noGoal_82 : sm_D prog_9_method_68_code 82 1 83 (.aload_n 0) := ⟨by decide +kernel, rfl⟩
set_option maxRecDepth 100000 in
theorem ii_mo_noGoal_83 : sm_D prog_9_method_68_code 83 3 86 (.getfield 25) := ⟨by decide +kernel, rfl⟩
set_option maxRecDepth 100000 in
theorem ii_mo_noGoal_86 : sm_D prog_9_method_68_code 86 2 88 (.iload 4) := ⟨by decide +kernel, rfl⟩
set_option maxRecDepth 100000 in
theorem ii_mo_noGoal_88 : sm_D prog_9_method_68_code 88 1 89 (.iaload) := ⟨by decide +kernel, rfl⟩
set_option maxRecDepth 100000 in
theorem ii_mo_noGoal_89 : sm_D prog_9_method_68_code 89 3 92 (.invokestatic 184) := ⟨by decide +kernel, rfl⟩
set_option maxRecDepth 100000 in
theorem ii_mo_noGoal_92 : sm_D prog_9_method_68_code 92 3 95 (.ifCond .eq 7) := ⟨by decide +kernel, rfl⟩
set_option maxRecDepth 100000 in
theorem ii_mo_noGoal_95 : sm_D prog_9_method_68_code 95 1 96 (.iconst 1) := ⟨by decide +kernel, rfl⟩
set_option maxRecDepth 100000 in
theorem ii_mo_noGoal_96 : sm_D prog_9_method_68_code 96 3 99 (.goto 4) := ⟨by decide +kernel, rfl⟩
set_option maxRecDepth 100000 in
theorem ii_mo_noGoal_99 : sm_D prog_9_method_68_code 99 1 100 (.iconst 0) := ⟨by decide +kernel, rfl⟩
set_option maxRecDepth 100000 in
theorem ii_mo_noGoal_100 : sm_D prog_9_method_68_code 100 1 101 (.istore_n 3) := ⟨by decide +kernel, rfl⟩
set_option maxRecDepth 100000 in
theorem ii_mo_noGoal_101 : sm_D prog_9_method_68_code 101 3 104 (.iinc 4 1) := ⟨by decide +kernel, rfl⟩
set_option maxRecDepth 100000 in
theorem ii_mo_noGoal_104 : sm_D prog_9_method_68_code 104 3 107 (.goto (-42)) := ⟨by decide +kernel, rfl⟩
set_option maxRecDepth 100000 in
theorem ii_mo_noGoal_107 : sm_D prog_9_method_68_code 107 1 108 (.iload_n 3) := ⟨by decide +kernel, rfl⟩
set_option maxRecDepth 100000 in
theorem ii_mo_noGoal_108 : sm_D prog_9_method_68_code 108 3 111 (.ifCond .ne 9) := ⟨by decide +kernel, rfl⟩
set_option maxRecDepth 100000 in
theorem ii_mo_noGoal_111 : sm_D prog_9_method_68_code 111 1 112 (.aload_n 0) := ⟨by decide +kernel, rfl⟩
set_option maxRecDepth 100000 in
theorem ii_mo_noGoal_112 : sm_D prog_9_method_68_code 112 1 113 (.iconst 3) := ⟨by decide +kernel, rfl⟩
set_option maxRecDepth 100000 in
theorem ii_mo_noGoal_113 : sm_D prog_9_method_68_code 113 3 116 (.invokevirtual 81) := ⟨by decide +kernel, rfl⟩
set_option maxRecDepth 100000 in
theorem ii_mo_noGoal_116 : sm_D prog_9_method_68_code 116 1 117 (.ireturn) := ⟨by decide +kernel, rfl⟩
set_option maxRecDepth 100000 in
theorem ii_mo_noGoal_117 : sm_D prog_9_method_68_code 117 1 118 (.aload_n 0) := ⟨by decide +kernel, rfl⟩
set_option maxRecDepth 100000 in
theorem ii_mo_noGoal_118 : sm_D prog_9_method_68_code 118 1 119 (.iload_n 1) := ⟨by decide +kernel, rfl⟩
set_option maxRecDepth 100000 in
theorem ii_mo_noGoal_119 : sm_D prog_9_method_68_code 119 1 120 (.iload_n 2) := ⟨by decide +kernel, rfl⟩
set_option maxRecDepth 100000 in
theorem ii_mo_noGoal_120 : sm_D prog_9_method_68_code 120 3 123 (.invokevirtual 239) := ⟨by decide +kernel, rfl⟩
set_option maxRecDepth 100000 in
theorem ii_mo_noGoal_123 : sm_D prog_9_method_68_code 123 1 124 (.iconst 0) := ⟨by decide +kernel, rfl⟩
set_option maxRecDepth 100000 in
theorem ii_mo_noGoal_124 : sm_D prog_9_method_68_code 124 1 125 (.ireturn) := ⟨by decide +kernel, rfl⟩
noncomputable def ff_mo_noGoal_99 (self62 : Int32 → Int32 → Int32 → Int32 → sm_Mem → sm_R) (a1 : Int32) (a2 : Int32) (a4 : Int32) (w : sm_Mem) : sm_R := self62 (a1) (a2) ((0 : Int32)) ((a4 + (1 : Int32))) w
set_option maxHeartbeats 4000000 in
set_option maxRecDepth 100000 in
theorem ss_mo_noGoal_99 {E : Nat × (Nat → Int32)} (self62 : Int32 → Int32 → Int32 → Int32 → sm_Mem → sm_R) (hself62 : ∀ (a1 : Int32) (a2 : Int32) (a3 : Int32) (a4 : Int32) (w : sm_Mem), sm_Sim E (mi_mo_noGoal) 62 [some (.ref 62), some (.int a1), some (.int a2), some (.int a3), some (.int a4)] [] w (self62 a1 a2 a3 a4 w)) (a1 : Int32) (a2 : Int32) (a4 : Int32) (w : sm_Mem) : sm_Sim E (mi_mo_noGoal) 99 [some (.ref 62), some (.int a1), some (.int a2), none, some (.int a4)] [] w (ff_mo_noGoal_99 self62 a1 a2 a4 w) := by
  unfold ff_mo_noGoal_99
  refine sm_iconst (0 : Int32) ii_mo_noGoal_99 (by decide) ?_
  refine sm_istore_n [some (.ref 62), some (.int a1), some (.int a2), some (.int (0 : Int32)), some (.int a4)] ii_mo_noGoal_100 rfl rfl ?_
  refine sm_iinc (a4 + (1 : Int32)) [some (.ref 62), some (.int a1), some (.int a2), some (.int (0 : Int32)), some (.int (a4 + (1 : Int32)))] ii_mo_noGoal_101 rfl rfl rfl rfl ?_
  refine sm_goto 62 ii_mo_noGoal_104 (by decide) ?_
  exact hself62 (a1) (a2) ((0 : Int32)) ((a4 + (1 : Int32))) w
noncomputable def ff_mo_noGoal_62_b  (self62 : Int32 → Int32 → Int32 → Int32 → sm_Mem → sm_R) (a1 : Int32) (a2 : Int32) (a3 : Int32) (a4 : Int32) (w : sm_Mem) : sm_R := (Option.bind (sm_rd w 67 6 a1) fun x1 => (if (((40 : Int32) * a1) + x1) ≤ a4 then (if a3 = (0 : Int32) then (sm_cI (ff_mo_find ((3 : Int32)) w) fun x4 w5 => (some (.int x4, w5))) else (sm_cV (ff_mo_layGoal (a1) (a2) w) fun w3 => (some (.int (0 : Int32), w3)))) else (if a3 = (0 : Int32) then ff_mo_noGoal_99 self62 (a1) (a2) (a4) w else (Option.bind (sm_rd w 68 240 a4) fun x6 => (sm_cI (ff_mo_isWord (x6) w) fun x7 w8 => (if x7 = (0 : Int32) then ff_mo_noGoal_99 self62 (a1) (a2) (a4) w8 else self62 (a1) (a2) ((1 : Int32)) ((a4 + (1 : Int32))) w8))))))
noncomputable def ff_mo_noGoal_62_f  : Nat → Int32 → Int32 → Int32 → Int32 → sm_Mem → sm_R
  | 0, _, _, _, _, _ => none
  | n + 1, a1, a2, a3, a4, w => ff_mo_noGoal_62_b  (ff_mo_noGoal_62_f  n) a1 a2 a3 a4 w
noncomputable def ff_mo_noGoal_62  (a1 : Int32) (a2 : Int32) (a3 : Int32) (a4 : Int32) (w : sm_Mem) : sm_R := ff_mo_noGoal_62_f  sm_N a1 a2 a3 a4 w
set_option maxHeartbeats 4000000 in
set_option maxRecDepth 100000 in
theorem ss_mo_noGoal_62_b {E : Nat × (Nat → Int32)}  (self62 : Int32 → Int32 → Int32 → Int32 → sm_Mem → sm_R) (hself62 : ∀ (a1 : Int32) (a2 : Int32) (a3 : Int32) (a4 : Int32) (w : sm_Mem), sm_Sim E (mi_mo_noGoal) 62 [some (.ref 62), some (.int a1), some (.int a2), some (.int a3), some (.int a4)] [] w (self62 a1 a2 a3 a4 w)) (a1 : Int32) (a2 : Int32) (a3 : Int32) (a4 : Int32) (w : sm_Mem) : sm_Sim E (mi_mo_noGoal) 62 [some (.ref 62), some (.int a1), some (.int a2), some (.int a3), some (.int a4)] [] w (ff_mo_noGoal_62_b  self62 a1 a2 a3 a4 w) := by
  unfold ff_mo_noGoal_62_b
  refine sm_iload ii_mo_noGoal_62 rfl ?_
  refine sm_bipush (40 : Int32) ii_mo_noGoal_64 (by decide) ?_
  refine sm_iload_n ii_mo_noGoal_66 rfl ?_
  refine sm_imul ii_mo_noGoal_67 ?_
  refine sm_aload_n ii_mo_noGoal_68 rfl ?_
  refine sm_getR 67 ii_mo_noGoal_69 fl_mo_22 (k := 62) rfl ?_
  refine sm_iload_n ii_mo_noGoal_72 rfl ?_
  refine sm_iald ii_mo_noGoal_73 (k := 67) rfl (fun x1 => ?_)
  refine sm_iadd ii_mo_noGoal_74 ?_
  refine sm_icmp_ge 107 ii_mo_noGoal_75 (by decide) ?_ ?_
  · refine sm_iload_n ii_mo_noGoal_107 rfl ?_
    refine sm_if_ne 117 ii_mo_noGoal_108 (by decide) ?_ ?_
    · refine sm_aload_n ii_mo_noGoal_111 rfl ?_
      refine sm_iconst (3 : Int32) ii_mo_noGoal_112 (by decide) ?_
      refine sm_cvI [.int (3 : Int32)] [] rfl ii_mo_noGoal_113 ml_mo_81 (mf_mo_find) (mv_mo_find) (Nat.le_of_ble_eq_true rfl) rfl 7 rfl rfl rfl rfl (mc_mo_find ((3 : Int32)) w) (fun x4 w5 => ?_)
      exact sm_iret ii_mo_noGoal_116 rfl
    · refine sm_aload_n ii_mo_noGoal_117 rfl ?_
      refine sm_iload_n ii_mo_noGoal_118 rfl ?_
      refine sm_iload_n ii_mo_noGoal_119 rfl ?_
      refine sm_cvV [.int a1, .int a2] [] rfl ii_mo_noGoal_120 ml_mo_239 (mf_mo_layGoal) (mv_mo_layGoal) (Nat.le_of_ble_eq_true rfl) rfl 7 rfl rfl rfl rfl (mc_mo_layGoal (a1) (a2) w) (fun w3 => ?_)
      refine sm_iconst (0 : Int32) ii_mo_noGoal_123 (by decide) ?_
      exact sm_iret ii_mo_noGoal_124 rfl
  · refine sm_iload_n ii_mo_noGoal_78 rfl ?_
    refine sm_if_eq 99 ii_mo_noGoal_79 (by decide) ?_ ?_
    · refine sm_msk [true, true, true, false, true] [some (.ref 62), some (.int a1), some (.int a2), none, some (.int a4)] rfl ?_
      exact ss_mo_noGoal_99 self62 hself62 (a1) (a2) (a4) w
    · refine sm_aload_n ii_mo_noGoal_82 rfl ?_
      refine sm_getR 68 ii_mo_noGoal_83 fl_mo_25 (k := 62) rfl ?_
      refine sm_iload ii_mo_noGoal_86 rfl ?_
      refine sm_iald ii_mo_noGoal_88 (k := 68) rfl (fun x6 => ?_)
      refine sm_csI [.int x6] [] rfl ii_mo_noGoal_89 ml_mo_184 (mf_mo_isWord) (mv_mo_isWord) (Nat.le_of_ble_eq_true rfl) rfl rfl rfl (mc_mo_isWord (x6) w) (fun x7 w8 => ?_)
      refine sm_if_eq 99 ii_mo_noGoal_92 (by decide) ?_ ?_
      · refine sm_msk [true, true, true, false, true] [some (.ref 62), some (.int a1), some (.int a2), none, some (.int a4)] rfl ?_
        exact ss_mo_noGoal_99 self62 hself62 (a1) (a2) (a4) w8
      · refine sm_iconst (1 : Int32) ii_mo_noGoal_95 (by decide) ?_
        refine sm_goto 100 ii_mo_noGoal_96 (by decide) ?_
        refine sm_istore_n [some (.ref 62), some (.int a1), some (.int a2), some (.int (1 : Int32)), some (.int a4)] ii_mo_noGoal_100 rfl rfl ?_
        refine sm_iinc (a4 + (1 : Int32)) [some (.ref 62), some (.int a1), some (.int a2), some (.int (1 : Int32)), some (.int (a4 + (1 : Int32)))] ii_mo_noGoal_101 rfl rfl rfl rfl ?_
        refine sm_goto 62 ii_mo_noGoal_104 (by decide) ?_
        exact hself62 (a1) (a2) ((1 : Int32)) ((a4 + (1 : Int32))) w8
set_option maxHeartbeats 4000000 in
set_option maxRecDepth 100000 in
theorem ss_mo_noGoal_62_f {E : Nat × (Nat → Int32)}  : ∀ (n : Nat) (a1 : Int32) (a2 : Int32) (a3 : Int32) (a4 : Int32) (w : sm_Mem), sm_Sim E (mi_mo_noGoal) 62 [some (.ref 62), some (.int a1), some (.int a2), some (.int a3), some (.int a4)] [] w (ff_mo_noGoal_62_f  n a1 a2 a3 a4 w)
  | 0, _, _, _, _, _ => fun _ _ h => by cases h
  | n + 1, a1, a2, a3, a4, w => ss_mo_noGoal_62_b  _ (ss_mo_noGoal_62_f  n) a1 a2 a3 a4 w
set_option maxHeartbeats 4000000 in
set_option maxRecDepth 100000 in
theorem ss_mo_noGoal_62 {E : Nat × (Nat → Int32)}  (a1 : Int32) (a2 : Int32) (a3 : Int32) (a4 : Int32) (w : sm_Mem) : sm_Sim E (mi_mo_noGoal) 62 [some (.ref 62), some (.int a1), some (.int a2), some (.int a3), some (.int a4)] [] w (ff_mo_noGoal_62  a1 a2 a3 a4 w) := ss_mo_noGoal_62_f  sm_N a1 a2 a3 a4 w
noncomputable def ff_mo_noGoal_48   (w : sm_Mem) : sm_R := (sm_cI (ff_mo_find ((5 : Int32)) w) fun x9 w10 => (some (.int x9, w10)))
set_option maxHeartbeats 4000000 in
set_option maxRecDepth 100000 in
theorem ss_mo_noGoal_48 {E : Nat × (Nat → Int32)}   (w : sm_Mem) : sm_Sim E (mi_mo_noGoal) 48 [some (.ref 62), none, none, none, none] [] w (ff_mo_noGoal_48   w) := by
  unfold ff_mo_noGoal_48
  refine sm_aload_n ii_mo_noGoal_48 rfl ?_
  refine sm_iconst (5 : Int32) ii_mo_noGoal_49 (by decide) ?_
  refine sm_cvI [.int (5 : Int32)] [] rfl ii_mo_noGoal_50 ml_mo_81 (mf_mo_find) (mv_mo_find) (Nat.le_of_ble_eq_true rfl) rfl 7 rfl rfl rfl rfl (mc_mo_find ((5 : Int32)) w) (fun x9 w10 => ?_)
  exact sm_iret ii_mo_noGoal_53 rfl
noncomputable def ff_mo_noGoal  (a1 : Int32) (a2 : Int32) (w : sm_Mem) : sm_R := (if (w.1 62 1) = (0 : Int32) then (some (.int (-4 : Int32), w)) else (Option.bind (sm_rd w 67 6 a1) fun x11 => (if (0 : Int32) ≤ x11 then (Option.bind (sm_rd w 67 6 a1) fun x12 => (if a2 = (0 : Int32) then none else (if (x12 - x12 / a2 * a2) = (0 : Int32) then (Option.bind (sm_rd w 67 6 a1) fun x14 => (if x14 ≤ ((5 : Int32) * a2) then ff_mo_noGoal_62 (a1) (a2) ((1 : Int32)) (((40 : Int32) * a1)) w else ff_mo_noGoal_48  w)) else ff_mo_noGoal_48  w))) else (sm_cI (ff_mo_find ((1 : Int32)) w) fun x15 w16 => (some (.int x15, w16))))))
set_option maxHeartbeats 4000000 in
set_option maxRecDepth 100000 in
theorem ss_mo_noGoal_0 {E : Nat × (Nat → Int32)}  (a1 : Int32) (a2 : Int32) (w : sm_Mem) : sm_Sim E (mi_mo_noGoal) 0 [some (.ref 62), some (.int a1), some (.int a2), none, none] [] w (ff_mo_noGoal  a1 a2 w) := by
  unfold ff_mo_noGoal
  refine sm_aload_n ii_mo_noGoal_0 rfl ?_
  refine sm_getI ii_mo_noGoal_1 fl_mo_135 (k := 62) rfl ?_
  refine sm_if_ne 10 ii_mo_noGoal_4 (by decide) ?_ ?_
  · refine sm_bipush (-4 : Int32) ii_mo_noGoal_7 (by decide) ?_
    exact sm_iret ii_mo_noGoal_9 rfl
  · refine sm_aload_n ii_mo_noGoal_10 rfl ?_
    refine sm_getR 67 ii_mo_noGoal_11 fl_mo_22 (k := 62) rfl ?_
    refine sm_iload_n ii_mo_noGoal_14 rfl ?_
    refine sm_iald ii_mo_noGoal_15 (k := 67) rfl (fun x11 => ?_)
    refine sm_if_ge 25 ii_mo_noGoal_16 (by decide) ?_ ?_
    · refine sm_aload_n ii_mo_noGoal_25 rfl ?_
      refine sm_getR 67 ii_mo_noGoal_26 fl_mo_22 (k := 62) rfl ?_
      refine sm_iload_n ii_mo_noGoal_29 rfl ?_
      refine sm_iald ii_mo_noGoal_30 (k := 67) rfl (fun x12 => ?_)
      refine sm_iload_n ii_mo_noGoal_31 rfl ?_
      refine sm_irem ii_mo_noGoal_32 ?_
      refine sm_if_ne 48 ii_mo_noGoal_33 (by decide) ?_ ?_
      · refine sm_aload_n ii_mo_noGoal_36 rfl ?_
        refine sm_getR 67 ii_mo_noGoal_37 fl_mo_22 (k := 62) rfl ?_
        refine sm_iload_n ii_mo_noGoal_40 rfl ?_
        refine sm_iald ii_mo_noGoal_41 (k := 67) rfl (fun x14 => ?_)
        refine sm_iconst (5 : Int32) ii_mo_noGoal_42 (by decide) ?_
        refine sm_iload_n ii_mo_noGoal_43 rfl ?_
        refine sm_imul ii_mo_noGoal_44 ?_
        refine sm_icmp_le 54 ii_mo_noGoal_45 (by decide) ?_ ?_
        · refine sm_iconst (1 : Int32) ii_mo_noGoal_54 (by decide) ?_
          refine sm_istore_n [some (.ref 62), some (.int a1), some (.int a2), some (.int (1 : Int32)), none] ii_mo_noGoal_55 rfl rfl ?_
          refine sm_bipush (40 : Int32) ii_mo_noGoal_56 (by decide) ?_
          refine sm_iload_n ii_mo_noGoal_58 rfl ?_
          refine sm_imul ii_mo_noGoal_59 ?_
          refine sm_istore [some (.ref 62), some (.int a1), some (.int a2), some (.int (1 : Int32)), some (.int ((40 : Int32) * a1))] ii_mo_noGoal_60 rfl rfl ?_
          exact ss_mo_noGoal_62 (a1) (a2) ((1 : Int32)) (((40 : Int32) * a1)) w
        · refine sm_msk [true, false, false, false, false] [some (.ref 62), none, none, none, none] rfl ?_
          exact ss_mo_noGoal_48  w
      · refine sm_msk [true, false, false, false, false] [some (.ref 62), none, none, none, none] rfl ?_
        exact ss_mo_noGoal_48  w
    · refine sm_aload_n ii_mo_noGoal_19 rfl ?_
      refine sm_iconst (1 : Int32) ii_mo_noGoal_20 (by decide) ?_
      refine sm_cvI [.int (1 : Int32)] [] rfl ii_mo_noGoal_21 ml_mo_81 (mf_mo_find) (mv_mo_find) (Nat.le_of_ble_eq_true rfl) rfl 7 rfl rfl rfl rfl (mc_mo_find ((1 : Int32)) w) (fun x15 w16 => ?_)
      exact sm_iret ii_mo_noGoal_24 rfl
set_option maxHeartbeats 4000000 in
set_option maxRecDepth 100000 in
theorem mc_mo_noGoal (a1 : Int32) (a2 : Int32) (w : sm_Mem) : sm_MC mi_mo_noGoal [.ref 62, .int a1, .int a2] w (ff_mo_noGoal a1 a2 w) := sm_MC_of (0, fun _ => 0) (by decide +kernel) (by decide) rfl (Nat.le_of_ble_eq_true rfl) (ss_mo_noGoal_0 a1 a2 w)
abbrev mi_mo_beginWays : sm_MI := (⟨"HerOrdersModel", "beginWays", "()V"⟩, prog_9_method_62_code, 2, none, 1)
set_option maxRecDepth 100000 in
theorem mf_mo_beginWays : sm_MF mi_mo_beginWays 0 := ⟨List.mem_of_getElem? (i := 1271) (by decide +kernel), List.mem_of_getElem? (i := 132) (by decide +kernel), ⟨by decide, by decide⟩, by decide +kernel⟩
set_option maxRecDepth 100000 in
theorem mv_mo_beginWays : sm_MFV mi_mo_beginWays := ⟨List.mem_of_getElem? (i := 1270) (by decide +kernel), List.mem_of_getElem? (i := 101) (by decide +kernel)⟩
set_option maxRecDepth 100000 in
theorem ii_mo_beginWays_0 : sm_D prog_9_method_62_code 0 1 1 (.iconst 0) := ⟨by decide +kernel, rfl⟩
set_option maxRecDepth 100000 in
theorem ii_mo_beginWays_1 : sm_D prog_9_method_62_code 1 1 2 (.istore_n 1) := ⟨by decide +kernel, rfl⟩
set_option maxRecDepth 100000 in
theorem ii_mo_beginWays_2 : sm_D prog_9_method_62_code 2 1 3 (.iload_n 1) := ⟨by decide +kernel, rfl⟩
set_option maxRecDepth 100000 in
theorem ii_mo_beginWays_3 : sm_D prog_9_method_62_code 3 1 4 (.aload_n 0) := ⟨by decide +kernel, rfl⟩
set_option maxRecDepth 100000 in
theorem ii_mo_beginWays_4 : sm_D prog_9_method_62_code 4 3 7 (.getfield 211) := ⟨by decide +kernel, rfl⟩
set_option maxRecDepth 100000 in
theorem ii_mo_beginWays_7 : sm_D prog_9_method_62_code 7 3 10 (.if_icmp .ge 37) := ⟨by decide +kernel, rfl⟩
set_option maxRecDepth 100000 in
theorem ii_mo_beginWays_10 : sm_D prog_9_method_62_code 10 1 11 (.aload_n 0) := ⟨by decide +kernel, rfl⟩
set_option maxRecDepth 100000 in
theorem ii_mo_beginWays_11 : sm_D prog_9_method_62_code 11 3 14 (.getfield 53) := ⟨by decide +kernel, rfl⟩
set_option maxRecDepth 100000 in
theorem ii_mo_beginWays_14 : sm_D prog_9_method_62_code 14 1 15 (.iload_n 1) := ⟨by decide +kernel, rfl⟩
set_option maxRecDepth 100000 in
theorem ii_mo_beginWays_15 : sm_D prog_9_method_62_code 15 1 16 (.iload_n 1) := ⟨by decide +kernel, rfl⟩
set_option maxRecDepth 100000 in
theorem ii_mo_beginWays_16 : sm_D prog_9_method_62_code 16 1 17 (.aload_n 0) := ⟨by decide +kernel, rfl⟩
set_option maxRecDepth 100000 in
theorem ii_mo_beginWays_17 : sm_D prog_9_method_62_code 17 3 20 (.getfield 135) := ⟨by decide +kernel, rfl⟩
set_option maxRecDepth 100000 in
theorem ii_mo_beginWays_20 : sm_D prog_9_method_62_code 20 3 23 (.if_icmp .ne 8) := ⟨by decide +kernel, rfl⟩
set_option maxRecDepth 100000 in
theorem ii_mo_beginWays_23 : sm_D prog_9_method_62_code 23 2 25 (.bipush 9) := ⟨by decide +kernel, rfl⟩
set_option maxRecDepth 100000 in
theorem ii_mo_beginWays_25 : sm_D prog_9_method_62_code 25 3 28 (.goto 12) := ⟨by decide +kernel, rfl⟩
set_option maxRecDepth 100000 in
theorem ii_mo_beginWays_28 : sm_D prog_9_method_62_code 28 1 29 (.aload_n 0) := ⟨by decide +kernel, rfl⟩
set_option maxRecDepth 100000 in
theorem ii_mo_beginWays_29 : sm_D prog_9_method_62_code 29 3 32 (.getfield 7) := ⟨by decide +kernel, rfl⟩
set_option maxRecDepth 100000 in
theorem ii_mo_beginWays_32 : sm_D prog_9_method_62_code 32 2 34 (.bipush 26) := ⟨by decide +kernel, rfl⟩
set_option maxRecDepth 100000 in
theorem ii_mo_beginWays_34 : sm_D prog_9_method_62_code 34 1 35 (.iload_n 1) := ⟨by decide +kernel, rfl⟩
set_option maxRecDepth 100000 in
theorem ii_mo_beginWays_35 : sm_D prog_9_method_62_code 35 1 36 (.iadd) := ⟨by decide +kernel, rfl⟩
set_option maxRecDepth 100000 in
theorem ii_mo_beginWays_36 : sm_D prog_9_method_62_code 36 1 37 (.iaload) := ⟨by decide +kernel, rfl⟩
set_option maxRecDepth 100000 in
theorem ii_mo_beginWays_37 : sm_D prog_9_method_62_code 37 1 38 (.iastore) := ⟨by decide +kernel, rfl⟩
set_option maxRecDepth 100000 in
theorem ii_mo_beginWays_38 : sm_D prog_9_method_62_code 38 3 41 (.iinc 1 1) := ⟨by decide +kernel, rfl⟩
set_option maxRecDepth 100000 in
theorem ii_mo_beginWays_41 : sm_D prog_9_method_62_code 41 3 44 (.goto (-39)) := ⟨by decide +kernel, rfl⟩
set_option maxRecDepth 100000 in
theorem ii_mo_beginWays_44 : sm_D prog_9_method_62_code 44 1 45 (.aload_n 0) := ⟨by decide +kernel, rfl⟩
set_option maxRecDepth 100000 in
theorem ii_mo_beginWays_45 : sm_D prog_9_method_62_code 45 3 48 (.getfield 50) := ⟨by decide +kernel, rfl⟩
set_option maxRecDepth 100000 in
theorem ii_mo_beginWays_48 : sm_D prog_9_method_62_code 48 1 49 (.iconst 0) := ⟨by decide +kernel, rfl⟩
set_option maxRecDepth 100000 in
theorem ii_mo_beginWays_49 : sm_D prog_9_method_62_code 49 1 50 (.iconst (-1)) := ⟨by decide +kernel, rfl⟩
set_option maxRecDepth 100000 in
theorem ii_mo_beginWays_50 : sm_D prog_9_method_62_code 50 1 51 (.iastore) := ⟨by decide +kernel, rfl⟩
set_option maxRecDepth 100000 in
theorem ii_mo_beginWays_51 : sm_D prog_9_method_62_code 51 1 52 (.aload_n 0) := ⟨by decide +kernel, rfl⟩
set_option maxRecDepth 100000 in
theorem ii_mo_beginWays_52 : sm_D prog_9_method_62_code 52 1 53 (.iconst 0) := ⟨by decide +kernel, rfl⟩
set_option maxRecDepth 100000 in
theorem ii_mo_beginWays_53 : sm_D prog_9_method_62_code 53 3 56 (.putfield 220) := ⟨by decide +kernel, rfl⟩
set_option maxRecDepth 100000 in
theorem ii_mo_beginWays_56 : sm_D prog_9_method_62_code 56 1 57 (.return_) := ⟨by decide +kernel, rfl⟩
noncomputable def ff_mo_beginWays_37 (self2 : Int32 → sm_Mem → sm_R) (a1 : Int32) (b1 : Int32) (b2 : Int32) (w : sm_Mem) : sm_R := (Option.bind (sm_wr w 76 7 b1 b2) fun w1 => self2 ((a1 + (1 : Int32))) w1)
set_option maxHeartbeats 4000000 in
set_option maxRecDepth 100000 in
theorem ss_mo_beginWays_37 {E : Nat × (Nat → Int32)} (self2 : Int32 → sm_Mem → sm_R) (hself2 : ∀ (a1 : Int32) (w : sm_Mem), sm_Sim E (mi_mo_beginWays) 2 [some (.ref 62), some (.int a1)] [] w (self2 a1 w)) (a1 : Int32) (b1 : Int32) (b2 : Int32) (w : sm_Mem) : sm_Sim E (mi_mo_beginWays) 37 [some (.ref 62), some (.int a1)] [.int b2, .int b1, .ref 76] w (ff_mo_beginWays_37 self2 a1 b1 b2 w) := by
  unfold ff_mo_beginWays_37
  refine sm_iast ii_mo_beginWays_37 (k := 76) rfl (fun w1 => ?_)
  refine sm_iinc (a1 + (1 : Int32)) [some (.ref 62), some (.int (a1 + (1 : Int32)))] ii_mo_beginWays_38 rfl rfl rfl rfl ?_
  refine sm_goto 2 ii_mo_beginWays_41 (by decide) ?_
  exact hself2 ((a1 + (1 : Int32))) w1
noncomputable def ff_mo_beginWays_2_b  (self2 : Int32 → sm_Mem → sm_R) (a1 : Int32) (w : sm_Mem) : sm_R := (if (w.1 62 22) ≤ a1 then (Option.bind (sm_wr w 75 6 (0 : Int32) (-1 : Int32)) fun w2 => (sm_let (sm_wI w2 62 27 (0 : Int32)) fun w3 => (some (.null, w3)))) else (if a1 = (w.1 62 1) then ff_mo_beginWays_37 self2 (a1) (a1) ((9 : Int32)) w else (Option.bind (sm_rd w 63 5184 ((26 : Int32) + a1)) fun x4 => ff_mo_beginWays_37 self2 (a1) (a1) (x4) w)))
noncomputable def ff_mo_beginWays_2_f  : Nat → Int32 → sm_Mem → sm_R
  | 0, _, _ => none
  | n + 1, a1, w => ff_mo_beginWays_2_b  (ff_mo_beginWays_2_f  n) a1 w
noncomputable def ff_mo_beginWays_2  (a1 : Int32) (w : sm_Mem) : sm_R := ff_mo_beginWays_2_f  sm_N a1 w
set_option maxHeartbeats 4000000 in
set_option maxRecDepth 100000 in
theorem ss_mo_beginWays_2_b {E : Nat × (Nat → Int32)}  (self2 : Int32 → sm_Mem → sm_R) (hself2 : ∀ (a1 : Int32) (w : sm_Mem), sm_Sim E (mi_mo_beginWays) 2 [some (.ref 62), some (.int a1)] [] w (self2 a1 w)) (a1 : Int32) (w : sm_Mem) : sm_Sim E (mi_mo_beginWays) 2 [some (.ref 62), some (.int a1)] [] w (ff_mo_beginWays_2_b  self2 a1 w) := by
  unfold ff_mo_beginWays_2_b
  refine sm_iload_n ii_mo_beginWays_2 rfl ?_
  refine sm_aload_n ii_mo_beginWays_3 rfl ?_
  refine sm_getI ii_mo_beginWays_4 fl_mo_211 (k := 62) rfl ?_
  refine sm_icmp_ge 44 ii_mo_beginWays_7 (by decide) ?_ ?_
  · refine sm_aload_n ii_mo_beginWays_44 rfl ?_
    refine sm_getR 75 ii_mo_beginWays_45 fl_mo_50 (k := 62) rfl ?_
    refine sm_iconst (0 : Int32) ii_mo_beginWays_48 (by decide) ?_
    refine sm_iconst (-1 : Int32) ii_mo_beginWays_49 (by decide) ?_
    refine sm_iast ii_mo_beginWays_50 (k := 75) rfl (fun w2 => ?_)
    refine sm_aload_n ii_mo_beginWays_51 rfl ?_
    refine sm_iconst (0 : Int32) ii_mo_beginWays_52 (by decide) ?_
    refine sm_putZ ii_mo_beginWays_53 fp_mo_220 (k := 62) rfl (by decide) (fun w3 => ?_)
    exact sm_vret ii_mo_beginWays_56 rfl
  · refine sm_aload_n ii_mo_beginWays_10 rfl ?_
    refine sm_getR 76 ii_mo_beginWays_11 fl_mo_53 (k := 62) rfl ?_
    refine sm_iload_n ii_mo_beginWays_14 rfl ?_
    refine sm_iload_n ii_mo_beginWays_15 rfl ?_
    refine sm_aload_n ii_mo_beginWays_16 rfl ?_
    refine sm_getI ii_mo_beginWays_17 fl_mo_135 (k := 62) rfl ?_
    refine sm_icmp_ne 28 ii_mo_beginWays_20 (by decide) ?_ ?_
    · refine sm_bipush (9 : Int32) ii_mo_beginWays_23 (by decide) ?_
      refine sm_goto 37 ii_mo_beginWays_25 (by decide) ?_
      exact ss_mo_beginWays_37 self2 hself2 (a1) (a1) ((9 : Int32)) w
    · refine sm_aload_n ii_mo_beginWays_28 rfl ?_
      refine sm_getR 63 ii_mo_beginWays_29 fl_mo_7 (k := 62) rfl ?_
      refine sm_bipush (26 : Int32) ii_mo_beginWays_32 (by decide) ?_
      refine sm_iload_n ii_mo_beginWays_34 rfl ?_
      refine sm_iadd ii_mo_beginWays_35 ?_
      refine sm_iald ii_mo_beginWays_36 (k := 63) rfl (fun x4 => ?_)
      exact ss_mo_beginWays_37 self2 hself2 (a1) (a1) (x4) w
set_option maxHeartbeats 4000000 in
set_option maxRecDepth 100000 in
theorem ss_mo_beginWays_2_f {E : Nat × (Nat → Int32)}  : ∀ (n : Nat) (a1 : Int32) (w : sm_Mem), sm_Sim E (mi_mo_beginWays) 2 [some (.ref 62), some (.int a1)] [] w (ff_mo_beginWays_2_f  n a1 w)
  | 0, _, _ => fun _ _ h => by cases h
  | n + 1, a1, w => ss_mo_beginWays_2_b  _ (ss_mo_beginWays_2_f  n) a1 w
set_option maxHeartbeats 4000000 in
set_option maxRecDepth 100000 in
theorem ss_mo_beginWays_2 {E : Nat × (Nat → Int32)}  (a1 : Int32) (w : sm_Mem) : sm_Sim E (mi_mo_beginWays) 2 [some (.ref 62), some (.int a1)] [] w (ff_mo_beginWays_2  a1 w) := ss_mo_beginWays_2_f  sm_N a1 w
noncomputable def ff_mo_beginWays   (w : sm_Mem) : sm_R := ff_mo_beginWays_2 ((0 : Int32)) w
set_option maxHeartbeats 4000000 in
set_option maxRecDepth 100000 in
theorem ss_mo_beginWays_0 {E : Nat × (Nat → Int32)}   (w : sm_Mem) : sm_Sim E (mi_mo_beginWays) 0 [some (.ref 62), none] [] w (ff_mo_beginWays   w) := by
  unfold ff_mo_beginWays
  refine sm_iconst (0 : Int32) ii_mo_beginWays_0 (by decide) ?_
  refine sm_istore_n [some (.ref 62), some (.int (0 : Int32))] ii_mo_beginWays_1 rfl rfl ?_
  exact ss_mo_beginWays_2 ((0 : Int32)) w
set_option maxHeartbeats 4000000 in
set_option maxRecDepth 100000 in
theorem mc_mo_beginWays  (w : sm_Mem) : sm_MC mi_mo_beginWays [.ref 62] w (ff_mo_beginWays  w) := sm_MC_of (0, fun _ => 0) (by decide +kernel) (by decide) rfl (Nat.le_of_ble_eq_true rfl) (ss_mo_beginWays_0  w)
abbrev mi_mo_roomOf : sm_MI := (⟨"HerOrdersModel", "roomOf", "(I)I"⟩, prog_9_method_61_code, 2, (some .int), 1)
set_option maxRecDepth 100000 in
theorem mf_mo_roomOf : sm_MF mi_mo_roomOf 1 := ⟨List.mem_of_getElem? (i := 1287) (by decide +kernel), List.mem_of_getElem? (i := 132) (by decide +kernel), ⟨by decide, by decide⟩, by decide +kernel⟩
set_option maxRecDepth 100000 in
theorem mv_mo_roomOf : sm_MFV mi_mo_roomOf := ⟨List.mem_of_getElem? (i := 1286) (by decide +kernel), List.mem_of_getElem? (i := 105) (by decide +kernel)⟩
set_option maxRecDepth 100000 in
theorem ii_mo_roomOf_0 : sm_D prog_9_method_61_code 0 1 1 (.iload_n 1) := ⟨by decide +kernel, rfl⟩
set_option maxRecDepth 100000 in
theorem ii_mo_roomOf_1 : sm_D prog_9_method_61_code 1 1 2 (.aload_n 0) := ⟨by decide +kernel, rfl⟩
set_option maxRecDepth 100000 in
theorem ii_mo_roomOf_2 : sm_D prog_9_method_61_code 2 3 5 (.getfield 135) := ⟨by decide +kernel, rfl⟩
set_option maxRecDepth 100000 in
theorem ii_mo_roomOf_5 : sm_D prog_9_method_61_code 5 3 8 (.if_icmp .ne 10) := ⟨by decide +kernel, rfl⟩
set_option maxRecDepth 100000 in
theorem ii_mo_roomOf_8 : sm_D prog_9_method_61_code 8 1 9 (.aload_n 0) := ⟨by decide +kernel, rfl⟩
set_option maxRecDepth 100000 in
theorem ii_mo_roomOf_9 : sm_D prog_9_method_61_code 9 3 12 (.getfield 217) := ⟨by decide +kernel, rfl⟩
set_option maxRecDepth 100000 in
theorem ii_mo_roomOf_12 : sm_D prog_9_method_61_code 12 3 15 (.goto 12) := ⟨by decide +kernel, rfl⟩
set_option maxRecDepth 100000 in
theorem ii_mo_roomOf_15 : sm_D prog_9_method_61_code 15 1 16 (.aload_n 0) := ⟨by decide +kernel, rfl⟩
set_option maxRecDepth 100000 in
theorem ii_mo_roomOf_16 : sm_D prog_9_method_61_code 16 3 19 (.getfield 7) := ⟨by decide +kernel, rfl⟩
set_option maxRecDepth 100000 in
theorem ii_mo_roomOf_19 : sm_D prog_9_method_61_code 19 2 21 (.bipush 20) := ⟨by decide +kernel, rfl⟩
set_option maxRecDepth 100000 in
theorem ii_mo_roomOf_21 : sm_D prog_9_method_61_code 21 1 22 (.iload_n 1) := ⟨by decide +kernel, rfl⟩
set_option maxRecDepth 100000 in
theorem ii_mo_roomOf_22 : sm_D prog_9_method_61_code 22 1 23 (.iadd) := ⟨by decide +kernel, rfl⟩
set_option maxRecDepth 100000 in
theorem ii_mo_roomOf_23 : sm_D prog_9_method_61_code 23 1 24 (.iaload) := ⟨by decide +kernel, rfl⟩
set_option maxRecDepth 100000 in
theorem ii_mo_roomOf_24 : sm_D prog_9_method_61_code 24 1 25 (.ireturn) := ⟨by decide +kernel, rfl⟩
noncomputable def ff_mo_roomOf  (a1 : Int32) (w : sm_Mem) : sm_R := (if a1 = (w.1 62 1) then (some (.int (w.1 62 24), w)) else (Option.bind (sm_rd w 63 5184 ((20 : Int32) + a1)) fun x1 => (some (.int x1, w))))
set_option maxHeartbeats 4000000 in
set_option maxRecDepth 100000 in
theorem ss_mo_roomOf_0 {E : Nat × (Nat → Int32)}  (a1 : Int32) (w : sm_Mem) : sm_Sim E (mi_mo_roomOf) 0 [some (.ref 62), some (.int a1)] [] w (ff_mo_roomOf  a1 w) := by
  unfold ff_mo_roomOf
  refine sm_iload_n ii_mo_roomOf_0 rfl ?_
  refine sm_aload_n ii_mo_roomOf_1 rfl ?_
  refine sm_getI ii_mo_roomOf_2 fl_mo_135 (k := 62) rfl ?_
  refine sm_icmp_ne 15 ii_mo_roomOf_5 (by decide) ?_ ?_
  · refine sm_aload_n ii_mo_roomOf_8 rfl ?_
    refine sm_getI ii_mo_roomOf_9 fl_mo_217 (k := 62) rfl ?_
    refine sm_goto 24 ii_mo_roomOf_12 (by decide) ?_
    exact sm_iret ii_mo_roomOf_24 rfl
  · refine sm_aload_n ii_mo_roomOf_15 rfl ?_
    refine sm_getR 63 ii_mo_roomOf_16 fl_mo_7 (k := 62) rfl ?_
    refine sm_bipush (20 : Int32) ii_mo_roomOf_19 (by decide) ?_
    refine sm_iload_n ii_mo_roomOf_21 rfl ?_
    refine sm_iadd ii_mo_roomOf_22 ?_
    refine sm_iald ii_mo_roomOf_23 (k := 63) rfl (fun x1 => ?_)
    exact sm_iret ii_mo_roomOf_24 rfl
set_option maxHeartbeats 4000000 in
set_option maxRecDepth 100000 in
theorem mc_mo_roomOf (a1 : Int32) (w : sm_Mem) : sm_MC mi_mo_roomOf [.ref 62, .int a1] w (ff_mo_roomOf a1 w) := sm_MC_of (0, fun _ => 0) (by decide +kernel) (by decide) rfl (Nat.le_of_ble_eq_true rfl) (ss_mo_roomOf_0 a1 w)
abbrev mi_mo_mayAt : sm_MI := (⟨"HerOrdersModel", "mayAt", "(II)Z"⟩, prog_9_method_63_code, 5, (some .boolean), 3)
set_option maxRecDepth 100000 in
theorem mf_mo_mayAt : sm_MF mi_mo_mayAt 2 := ⟨List.mem_of_getElem? (i := 1283) (by decide +kernel), List.mem_of_getElem? (i := 132) (by decide +kernel), ⟨by decide, by decide⟩, by decide +kernel⟩
set_option maxRecDepth 100000 in
theorem mv_mo_mayAt : sm_MFV mi_mo_mayAt := ⟨List.mem_of_getElem? (i := 1282) (by decide +kernel), List.mem_of_getElem? (i := 104) (by decide +kernel)⟩
set_option maxRecDepth 100000 in
theorem ii_mo_mayAt_0 : sm_D prog_9_method_63_code 0 1 1 (.iload_n 1) := ⟨by decide +kernel, rfl⟩
set_option maxRecDepth 100000 in
theorem ii_mo_mayAt_1 : sm_D prog_9_method_63_code 1 3 4 (.ifCond .ne 11) := ⟨by decide +kernel, rfl⟩
set_option maxRecDepth 100000 in
theorem ii_mo_mayAt_4 : sm_D prog_9_method_63_code 4 1 5 (.aload_n 0) := ⟨by decide +kernel, rfl⟩
set_option maxRecDepth 100000 in
theorem ii_mo_mayAt_5 : sm_D prog_9_method_63_code 5 1 6 (.iconst 0) := ⟨by decide +kernel, rfl⟩
set_option maxRecDepth 100000 in
theorem ii_mo_mayAt_6 : sm_D prog_9_method_63_code 6 3 9 (.invokevirtual 144) := ⟨by decide +kernel, rfl⟩
set_option maxRecDepth 100000 in
theorem ii_mo_mayAt_9 : sm_D prog_9_method_63_code 9 3 12 (.goto 11) := ⟨by decide +kernel, rfl⟩
set_option maxRecDepth 100000 in
theorem ii_mo_mayAt_12 : sm_D prog_9_method_63_code 12 1 13 (.aload_n 0) := ⟨by decide +kernel, rfl⟩
set_option maxRecDepth 100000 in
theorem ii_mo_mayAt_13 : sm_D prog_9_method_63_code 13 3 16 (.getfield 50) := ⟨by decide +kernel, rfl⟩
set_option maxRecDepth 100000 in
theorem ii_mo_mayAt_16 : sm_D prog_9_method_63_code 16 1 17 (.iload_n 1) := ⟨by decide +kernel, rfl⟩
set_option maxRecDepth 100000 in
theorem ii_mo_mayAt_17 : sm_D prog_9_method_63_code 17 1 18 (.iconst 1) := ⟨by decide +kernel, rfl⟩
set_option maxRecDepth 100000 in
theorem ii_mo_mayAt_18 : sm_D prog_9_method_63_code 18 1 19 (.isub) := ⟨by decide +kernel, rfl⟩
set_option maxRecDepth 100000 in
theorem ii_mo_mayAt_19 : sm_D prog_9_method_63_code 19 1 20 (.iaload) := ⟨by decide +kernel, rfl⟩
set_option maxRecDepth 100000 in
theorem ii_mo_mayAt_20 : sm_D prog_9_method_63_code 20 1 21 (.istore_n 3) := ⟨by decide +kernel, rfl⟩
set_option maxRecDepth 100000 in
theorem ii_mo_mayAt_21 : sm_D prog_9_method_63_code 21 1 22 (.iload_n 1) := ⟨by decide +kernel, rfl⟩
set_option maxRecDepth 100000 in
theorem ii_mo_mayAt_22 : sm_D prog_9_method_63_code 22 3 25 (.ifCond .ne 11) := ⟨by decide +kernel, rfl⟩
set_option maxRecDepth 100000 in
theorem ii_mo_mayAt_25 : sm_D prog_9_method_63_code 25 1 26 (.aload_n 0) := ⟨by decide +kernel, rfl⟩
set_option maxRecDepth 100000 in
theorem ii_mo_mayAt_26 : sm_D prog_9_method_63_code 26 1 27 (.iconst 0) := ⟨by decide +kernel, rfl⟩
set_option maxRecDepth 100000 in
theorem ii_mo_mayAt_27 : sm_D prog_9_method_63_code 27 3 30 (.invokevirtual 150) := ⟨by decide +kernel, rfl⟩
set_option maxRecDepth 100000 in
theorem ii_mo_mayAt_30 : sm_D prog_9_method_63_code 30 3 33 (.goto 11) := ⟨by decide +kernel, rfl⟩
set_option maxRecDepth 100000 in
theorem ii_mo_mayAt_33 : sm_D prog_9_method_63_code 33 1 34 (.aload_n 0) := ⟨by decide +kernel, rfl⟩
set_option maxRecDepth 100000 in
theorem ii_mo_mayAt_34 : sm_D prog_9_method_63_code 34 3 37 (.getfield 44) := ⟨by decide +kernel, rfl⟩
set_option maxRecDepth 100000 in
theorem ii_mo_mayAt_37 : sm_D prog_9_method_63_code 37 1 38 (.iload_n 1) := ⟨by decide +kernel, rfl⟩
set_option maxRecDepth 100000 in
theorem ii_mo_mayAt_38 : sm_D prog_9_method_63_code 38 1 39 (.iconst 1) := ⟨by decide +kernel, rfl⟩
set_option maxRecDepth 100000 in
theorem ii_mo_mayAt_39 : sm_D prog_9_method_63_code 39 1 40 (.isub) := ⟨by decide +kernel, rfl⟩
set_option maxRecDepth 100000 in
theorem ii_mo_mayAt_40 : sm_D prog_9_method_63_code 40 1 41 (.iaload) := ⟨by decide +kernel, rfl⟩
set_option maxRecDepth 100000 in
theorem ii_mo_mayAt_41 : sm_D prog_9_method_63_code 41 2 43 (.istore 4) := ⟨by decide +kernel, rfl⟩
set_option maxRecDepth 100000 in
theorem ii_mo_mayAt_43 : sm_D prog_9_method_63_code 43 1 44 (.aload_n 0) := ⟨by decide +kernel, rfl⟩
set_option maxRecDepth 100000 in
theorem ii_mo_mayAt_44 : sm_D prog_9_method_63_code 44 3 47 (.getfield 7) := ⟨by decide +kernel, rfl⟩
set_option maxRecDepth 100000 in
theorem ii_mo_mayAt_47 : sm_D prog_9_method_63_code 47 1 48 (.iconst 2) := ⟨by decide +kernel, rfl⟩
set_option maxRecDepth 100000 in
theorem ii_mo_mayAt_48 : sm_D prog_9_method_63_code 48 1 49 (.iaload) := ⟨by decide +kernel, rfl⟩
set_option maxRecDepth 100000 in
theorem ii_mo_mayAt_49 : sm_D prog_9_method_63_code 49 1 50 (.iload_n 1) := ⟨by decide +kernel, rfl⟩
set_option maxRecDepth 100000 in
theorem ii_mo_mayAt_50 : sm_D prog_9_method_63_code 50 1 51 (.iadd) := ⟨by decide +kernel, rfl⟩
set_option maxRecDepth 100000 in
theorem ii_mo_mayAt_51 : sm_D prog_9_method_63_code 51 2 53 (.bipush 8) := ⟨by decide +kernel, rfl⟩
set_option maxRecDepth 100000 in
theorem ii_mo_mayAt_53 : sm_D prog_9_method_63_code 53 3 56 (.if_icmp .ge 28) := ⟨by decide +kernel, rfl⟩
set_option maxRecDepth 100000 in
theorem ii_mo_mayAt_56 : sm_D prog_9_method_63_code 56 1 57 (.aload_n 0) := ⟨by decide +kernel, rfl⟩
set_option maxRecDepth 100000 in
theorem ii_mo_mayAt_57 : sm_D prog_9_method_63_code 57 3 60 (.getfield 53) := ⟨by decide +kernel, rfl⟩
set_option maxRecDepth 100000 in
theorem ii_mo_mayAt_60 : sm_D prog_9_method_63_code 60 1 61 (.iload_n 2) := ⟨by decide +kernel, rfl⟩
set_option maxRecDepth 100000 in
theorem ii_mo_mayAt_61 : sm_D prog_9_method_63_code 61 1 62 (.iaload) := ⟨by decide +kernel, rfl⟩
set_option maxRecDepth 100000 in
theorem ii_mo_mayAt_62 : sm_D prog_9_method_63_code 62 3 65 (.ifCond .eq 19) := ⟨by decide +kernel, rfl⟩
set_option maxRecDepth 100000 in
theorem ii_mo_mayAt_65 : sm_D prog_9_method_63_code 65 1 66 (.aload_n 0) := ⟨by decide +kernel, rfl⟩
set_option maxRecDepth 100000 in
theorem ii_mo_mayAt_66 : sm_D prog_9_method_63_code 66 3 69 (.getfield 214) := ⟨by decide +kernel, rfl⟩
set_option maxRecDepth 100000 in
theorem ii_mo_mayAt_69 : sm_D prog_9_method_63_code 69 1 70 (.iload_n 2) := ⟨by decide +kernel, rfl⟩
set_option maxRecDepth 100000 in
theorem ii_mo_mayAt_70 : sm_D prog_9_method_63_code 70 3 73 (.invokestatic 138) := ⟨by decide +kernel, rfl⟩
set_option maxRecDepth 100000 in
theorem ii_mo_mayAt_73 : sm_D prog_9_method_63_code 73 3 76 (.ifCond .ne 8) := ⟨by decide +kernel, rfl⟩
set_option maxRecDepth 100000 in
theorem ii_mo_mayAt_76 : sm_D prog_9_method_63_code 76 1 77 (.iload_n 3) := ⟨by decide +kernel, rfl⟩
set_option maxRecDepth 100000 in
theorem ii_mo_mayAt_77 : sm_D prog_9_method_63_code 77 1 78 (.iload_n 2) := ⟨by decide +kernel, rfl⟩
set_option maxRecDepth 100000 in
theorem ii_mo_mayAt_78 : sm_D prog_9_method_63_code 78 3 81 (.if_icmp .ne 5) := ⟨by decide +kernel, rfl⟩
set_option maxRecDepth 100000 in
theorem ii_mo_mayAt_81 : sm_D prog_9_method_63_code 81 1 82 (.iconst 0) := ⟨by decide +kernel, rfl⟩
set_option maxRecDepth 100000 in
theorem ii_mo_mayAt_82 : sm_D prog_9_method_63_code 82 1 83 (.ireturn) := ⟨by decide +kernel, rfl⟩
set_option maxRecDepth 100000 in
theorem ii_mo_mayAt_83 : sm_D prog_9_method_63_code 83 1 84 (.aload_n 0) := ⟨by decide +kernel, rfl⟩
set_option maxRecDepth 100000 in
theorem ii_mo_mayAt_84 : sm_D prog_9_method_63_code 84 3 87 (.getfield 47) := ⟨by decide +kernel, rfl⟩
set_option maxRecDepth 100000 in
theorem ii_mo_mayAt_87 : sm_D prog_9_method_63_code 87 1 88 (.iload_n 1) := ⟨by decide +kernel, rfl⟩
set_option maxRecDepth 100000 in
theorem ii_mo_mayAt_88 : sm_D prog_9_method_63_code 88 1 89 (.iaload) := ⟨by decide +kernel, rfl⟩
set_option maxRecDepth 100000 in
theorem ii_mo_mayAt_89 : sm_D prog_9_method_63_code 89 2 91 (.bipush (-9)) := ⟨by decide +kernel, rfl⟩
set_option maxRecDepth 100000 in
theorem ii_mo_mayAt_91 : sm_D prog_9_method_63_code 91 3 94 (.if_icmp .eq 17) := ⟨by decide +kernel, rfl⟩
set_option maxRecDepth 100000 in
theorem ii_mo_mayAt_94 : sm_D prog_9_method_63_code 94 1 95 (.aload_n 0) := ⟨by decide +kernel, rfl⟩
set_option maxRecDepth 100000 in
theorem ii_mo_mayAt_95 : sm_D prog_9_method_63_code 95 1 96 (.iload_n 2) := ⟨by decide +kernel, rfl⟩
set_option maxRecDepth 100000 in
theorem ii_mo_mayAt_96 : sm_D prog_9_method_63_code 96 3 99 (.invokevirtual 224) := ⟨by decide +kernel, rfl⟩
set_option maxRecDepth 100000 in
theorem ii_mo_mayAt_99 : sm_D prog_9_method_63_code 99 1 100 (.aload_n 0) := ⟨by decide +kernel, rfl⟩
set_option maxRecDepth 100000 in
theorem ii_mo_mayAt_100 : sm_D prog_9_method_63_code 100 3 103 (.getfield 47) := ⟨by decide +kernel, rfl⟩
set_option maxRecDepth 100000 in
theorem ii_mo_mayAt_103 : sm_D prog_9_method_63_code 103 1 104 (.iload_n 1) := ⟨by decide +kernel, rfl⟩
set_option maxRecDepth 100000 in
theorem ii_mo_mayAt_104 : sm_D prog_9_method_63_code 104 1 105 (.iaload) := ⟨by decide +kernel, rfl⟩
set_option maxRecDepth 100000 in
theorem ii_mo_mayAt_105 : sm_D prog_9_method_63_code 105 3 108 (.if_icmp .ne 25) := ⟨by decide +kernel, rfl⟩
set_option maxRecDepth 100000 in
theorem ii_mo_mayAt_108 : sm_D prog_9_method_63_code 108 1 109 (.iload_n 3) := ⟨by decide +kernel, rfl⟩
set_option maxRecDepth 100000 in
theorem ii_mo_mayAt_109 : sm_D prog_9_method_63_code 109 2 111 (.bipush (-9)) := ⟨by decide +kernel, rfl⟩
set_option maxRecDepth 100000 in
theorem ii_mo_mayAt_111 : sm_D prog_9_method_63_code 111 3 114 (.if_icmp .eq 21) := ⟨by decide +kernel, rfl⟩
set_option maxRecDepth 100000 in
theorem ii_mo_mayAt_114 : sm_D prog_9_method_63_code 114 1 115 (.aload_n 0) := ⟨by decide +kernel, rfl⟩
set_option maxRecDepth 100000 in
theorem ii_mo_mayAt_115 : sm_D prog_9_method_63_code 115 1 116 (.iload_n 2) := ⟨by decide +kernel, rfl⟩
set_option maxRecDepth 100000 in
theorem ii_mo_mayAt_116 : sm_D prog_9_method_63_code 116 3 119 (.invokevirtual 224) := ⟨by decide +kernel, rfl⟩
set_option maxRecDepth 100000 in
theorem ii_mo_mayAt_119 : sm_D prog_9_method_63_code 119 1 120 (.aload_n 0) := ⟨by decide +kernel, rfl⟩
set_option maxRecDepth 100000 in
theorem ii_mo_mayAt_120 : sm_D prog_9_method_63_code 120 1 121 (.iload_n 3) := ⟨by decide +kernel, rfl⟩
set_option maxRecDepth 100000 in
theorem ii_mo_mayAt_121 : sm_D prog_9_method_63_code 121 3 124 (.invokevirtual 224) := ⟨by decide +kernel, rfl⟩
set_option maxRecDepth 100000 in
theorem ii_mo_mayAt_124 : sm_D prog_9_method_63_code 124 3 127 (.invokestatic 147) := ⟨by decide +kernel, rfl⟩
set_option maxRecDepth 100000 in
theorem ii_mo_mayAt_127 : sm_D prog_9_method_63_code 127 3 130 (.ifCond .ne 5) := ⟨by decide +kernel, rfl⟩
set_option maxRecDepth 100000 in
theorem ii_mo_mayAt_130 : sm_D prog_9_method_63_code 130 1 131 (.iconst 0) := ⟨by decide +kernel, rfl⟩
set_option maxRecDepth 100000 in
theorem ii_mo_mayAt_131 : sm_D prog_9_method_63_code 131 1 132 (.ireturn) := ⟨by decide +kernel, rfl⟩
set_option maxRecDepth 100000 in
theorem ii_mo_mayAt_132 : sm_D prog_9_method_63_code 132 1 133 (.aload_n 0) := ⟨by decide +kernel, rfl⟩
set_option maxRecDepth 100000 in
theorem ii_mo_mayAt_133 : sm_D prog_9_method_63_code 133 3 136 (.getfield 13) := ⟨by decide +kernel, rfl⟩
set_option maxRecDepth 100000 in
theorem ii_mo_mayAt_136 : sm_D prog_9_method_63_code 136 1 137 (.iload_n 2) := ⟨by decide +kernel, rfl⟩
set_option maxRecDepth 100000 in
theorem ii_mo_mayAt_137 : sm_D prog_9_method_63_code 137 1 138 (.iaload) := ⟨by decide +kernel, rfl⟩
set_option maxRecDepth 100000 in
theorem ii_mo_mayAt_138 : sm_D prog_9_method_63_code 138 1 139 (.aload_n 0) := ⟨by decide +kernel, rfl⟩
set_option maxRecDepth 100000 in
theorem ii_mo_mayAt_139 : sm_D prog_9_method_63_code 139 3 142 (.getfield 16) := ⟨by decide +kernel, rfl⟩
set_option maxRecDepth 100000 in
theorem ii_mo_mayAt_142 : sm_D prog_9_method_63_code 142 1 143 (.iload_n 2) := ⟨by decide +kernel, rfl⟩
set_option maxRecDepth 100000 in
theorem ii_mo_mayAt_143 : sm_D prog_9_method_63_code 143 1 144 (.iaload) := ⟨by decide +kernel, rfl⟩
set_option maxRecDepth 100000 in
theorem ii_mo_mayAt_144 : sm_D prog_9_method_63_code 144 2 146 (.iload 4) := ⟨by decide +kernel, rfl⟩
set_option maxRecDepth 100000 in
theorem ii_mo_mayAt_146 : sm_D prog_9_method_63_code 146 1 147 (.aload_n 0) := ⟨by decide +kernel, rfl⟩
set_option maxRecDepth 100000 in
theorem ii_mo_mayAt_147 : sm_D prog_9_method_63_code 147 3 150 (.getfield 44) := ⟨by decide +kernel, rfl⟩
set_option maxRecDepth 100000 in
theorem ii_mo_mayAt_150 : sm_D prog_9_method_63_code 150 1 151 (.iload_n 1) := ⟨by decide +kernel, rfl⟩
set_option maxRecDepth 100000 in
theorem ii_mo_mayAt_151 : sm_D prog_9_method_63_code 151 1 152 (.iaload) := ⟨by decide +kernel, rfl⟩
set_option maxRecDepth 100000 in
theorem ii_mo_mayAt_152 : sm_D prog_9_method_63_code 152 1 153 (.aload_n 0) := ⟨by decide +kernel, rfl⟩
set_option maxRecDepth 100000 in
theorem ii_mo_mayAt_153 : sm_D prog_9_method_63_code 153 3 156 (.getfield 7) := ⟨by decide +kernel, rfl⟩
set_option maxRecDepth 100000 in
theorem ii_mo_mayAt_156 : sm_D prog_9_method_63_code 156 1 157 (.iconst 1) := ⟨by decide +kernel, rfl⟩
set_option maxRecDepth 100000 in
theorem ii_mo_mayAt_157 : sm_D prog_9_method_63_code 157 1 158 (.iaload) := ⟨by decide +kernel, rfl⟩
set_option maxRecDepth 100000 in
theorem ii_mo_mayAt_158 : sm_D prog_9_method_63_code 158 3 161 (.invokestatic 153) := ⟨by decide +kernel, rfl⟩
set_option maxRecDepth 100000 in
theorem ii_mo_mayAt_161 : sm_D prog_9_method_63_code 161 1 162 (.ireturn) := ⟨by decide +kernel, rfl⟩
noncomputable def ff_mo_mayAt_132  (a1 : Int32) (a2 : Int32) (a4 : Int32) (w : sm_Mem) : sm_R := (Option.bind (sm_rd w 64 7 a2) fun x1 => (Option.bind (sm_rd w 65 7 a2) fun x2 => (Option.bind (sm_rd w 73 5 a1) fun x3 => (Option.bind (sm_rd w 63 5184 (1 : Int32)) fun x4 => (sm_cI (ff_mo_isAble (x1) (x2) (a4) (x3) (x4) w) fun x5 w6 => (sm_rz x5 w6))))))
set_option maxHeartbeats 4000000 in
set_option maxRecDepth 100000 in
theorem ss_mo_mayAt_132 {E : Nat × (Nat → Int32)}  (a1 : Int32) (a2 : Int32) (a4 : Int32) (w : sm_Mem) : sm_Sim E (mi_mo_mayAt) 132 [some (.ref 62), some (.int a1), some (.int a2), none, some (.int a4)] [] w (ff_mo_mayAt_132  a1 a2 a4 w) := by
  unfold ff_mo_mayAt_132
  refine sm_aload_n ii_mo_mayAt_132 rfl ?_
  refine sm_getR 64 ii_mo_mayAt_133 fl_mo_13 (k := 62) rfl ?_
  refine sm_iload_n ii_mo_mayAt_136 rfl ?_
  refine sm_iald ii_mo_mayAt_137 (k := 64) rfl (fun x1 => ?_)
  refine sm_aload_n ii_mo_mayAt_138 rfl ?_
  refine sm_getR 65 ii_mo_mayAt_139 fl_mo_16 (k := 62) rfl ?_
  refine sm_iload_n ii_mo_mayAt_142 rfl ?_
  refine sm_iald ii_mo_mayAt_143 (k := 65) rfl (fun x2 => ?_)
  refine sm_iload ii_mo_mayAt_144 rfl ?_
  refine sm_aload_n ii_mo_mayAt_146 rfl ?_
  refine sm_getR 73 ii_mo_mayAt_147 fl_mo_44 (k := 62) rfl ?_
  refine sm_iload_n ii_mo_mayAt_150 rfl ?_
  refine sm_iald ii_mo_mayAt_151 (k := 73) rfl (fun x3 => ?_)
  refine sm_aload_n ii_mo_mayAt_152 rfl ?_
  refine sm_getR 63 ii_mo_mayAt_153 fl_mo_7 (k := 62) rfl ?_
  refine sm_iconst (1 : Int32) ii_mo_mayAt_156 (by decide) ?_
  refine sm_iald ii_mo_mayAt_157 (k := 63) rfl (fun x4 => ?_)
  refine sm_csI [.int x1, .int x2, .int a4, .int x3, .int x4] [] rfl ii_mo_mayAt_158 ml_mo_153 (mf_mo_isAble) (mv_mo_isAble) (Nat.le_of_ble_eq_true rfl) rfl rfl rfl (mc_mo_isAble (x1) (x2) (a4) (x3) (x4) w) (fun x5 w6 => ?_)
  exact sm_zret ii_mo_mayAt_161 rfl
noncomputable def ff_mo_mayAt_108  (a1 : Int32) (a2 : Int32) (a3 : Int32) (a4 : Int32) (w : sm_Mem) : sm_R := (if a3 = (-9 : Int32) then ff_mo_mayAt_132 (a1) (a2) (a4) w else (sm_cI (ff_mo_roomOf (a2) w) fun x7 w8 => (sm_cI (ff_mo_roomOf (a3) w8) fun x9 w10 => (sm_cI (ff_mo_areNear (x7) (x9) w10) fun x11 w12 => (if x11 = (0 : Int32) then (some (.int (0 : Int32), w12)) else ff_mo_mayAt_132 (a1) (a2) (a4) w12)))))
set_option maxHeartbeats 4000000 in
set_option maxRecDepth 100000 in
theorem ss_mo_mayAt_108 {E : Nat × (Nat → Int32)}  (a1 : Int32) (a2 : Int32) (a3 : Int32) (a4 : Int32) (w : sm_Mem) : sm_Sim E (mi_mo_mayAt) 108 [some (.ref 62), some (.int a1), some (.int a2), some (.int a3), some (.int a4)] [] w (ff_mo_mayAt_108  a1 a2 a3 a4 w) := by
  unfold ff_mo_mayAt_108
  refine sm_iload_n ii_mo_mayAt_108 rfl ?_
  refine sm_bipush (-9 : Int32) ii_mo_mayAt_109 (by decide) ?_
  refine sm_icmp_eq 132 ii_mo_mayAt_111 (by decide) ?_ ?_
  · refine sm_msk [true, true, true, false, true] [some (.ref 62), some (.int a1), some (.int a2), none, some (.int a4)] rfl ?_
    exact ss_mo_mayAt_132 (a1) (a2) (a4) w
  · refine sm_aload_n ii_mo_mayAt_114 rfl ?_
    refine sm_iload_n ii_mo_mayAt_115 rfl ?_
    refine sm_cvI [.int a2] [] rfl ii_mo_mayAt_116 ml_mo_224 (mf_mo_roomOf) (mv_mo_roomOf) (Nat.le_of_ble_eq_true rfl) rfl 7 rfl rfl rfl rfl (mc_mo_roomOf (a2) w) (fun x7 w8 => ?_)
    refine sm_aload_n ii_mo_mayAt_119 rfl ?_
    refine sm_iload_n ii_mo_mayAt_120 rfl ?_
    refine sm_cvI [.int a3] [.int x7] rfl ii_mo_mayAt_121 ml_mo_224 (mf_mo_roomOf) (mv_mo_roomOf) (Nat.le_of_ble_eq_true rfl) rfl 7 rfl rfl rfl rfl (mc_mo_roomOf (a3) w8) (fun x9 w10 => ?_)
    refine sm_csI [.int x7, .int x9] [] rfl ii_mo_mayAt_124 ml_mo_147 (mf_mo_areNear) (mv_mo_areNear) (Nat.le_of_ble_eq_true rfl) rfl rfl rfl (mc_mo_areNear (x7) (x9) w10) (fun x11 w12 => ?_)
    refine sm_if_ne 132 ii_mo_mayAt_127 (by decide) ?_ ?_
    · refine sm_iconst (0 : Int32) ii_mo_mayAt_130 (by decide) ?_
      exact sm_zret1 ii_mo_mayAt_131 rfl (by decide)
    · refine sm_msk [true, true, true, false, true] [some (.ref 62), some (.int a1), some (.int a2), none, some (.int a4)] rfl ?_
      exact ss_mo_mayAt_132 (a1) (a2) (a4) w12
noncomputable def ff_mo_mayAt_41  (a1 : Int32) (a2 : Int32) (a3 : Int32) (b0 : Int32) (w : sm_Mem) : sm_R := (Option.bind (sm_rd w 63 5184 (2 : Int32)) fun x13 => (if (8 : Int32) ≤ (x13 + a1) then (some (.int (0 : Int32), w)) else (Option.bind (sm_rd w 76 7 a2) fun x14 => (if x14 = (0 : Int32) then (some (.int (0 : Int32), w)) else (sm_cI (ff_mo_has ((w.1 62 23)) (a2) w) fun x15 w16 => (if x15 = (0 : Int32) then (if a3 = a2 then (some (.int (0 : Int32), w16)) else (Option.bind (sm_rd w16 74 5 a1) fun x17 => (if x17 = (-9 : Int32) then ff_mo_mayAt_108 (a1) (a2) (a3) (b0) w16 else (sm_cI (ff_mo_roomOf (a2) w16) fun x18 w19 => (Option.bind (sm_rd w19 74 5 a1) fun x20 => (if x18 = x20 then ff_mo_mayAt_108 (a1) (a2) (a3) (b0) w19 else (some (.int (0 : Int32), w19)))))))) else (some (.int (0 : Int32), w16))))))))
set_option maxHeartbeats 4000000 in
set_option maxRecDepth 100000 in
theorem ss_mo_mayAt_41 {E : Nat × (Nat → Int32)}  (a1 : Int32) (a2 : Int32) (a3 : Int32) (b0 : Int32) (w : sm_Mem) : sm_Sim E (mi_mo_mayAt) 41 [some (.ref 62), some (.int a1), some (.int a2), some (.int a3), none] [.int b0] w (ff_mo_mayAt_41  a1 a2 a3 b0 w) := by
  unfold ff_mo_mayAt_41
  refine sm_istore [some (.ref 62), some (.int a1), some (.int a2), some (.int a3), some (.int b0)] ii_mo_mayAt_41 rfl rfl ?_
  refine sm_aload_n ii_mo_mayAt_43 rfl ?_
  refine sm_getR 63 ii_mo_mayAt_44 fl_mo_7 (k := 62) rfl ?_
  refine sm_iconst (2 : Int32) ii_mo_mayAt_47 (by decide) ?_
  refine sm_iald ii_mo_mayAt_48 (k := 63) rfl (fun x13 => ?_)
  refine sm_iload_n ii_mo_mayAt_49 rfl ?_
  refine sm_iadd ii_mo_mayAt_50 ?_
  refine sm_bipush (8 : Int32) ii_mo_mayAt_51 (by decide) ?_
  refine sm_icmp_ge 81 ii_mo_mayAt_53 (by decide) ?_ ?_
  · refine sm_iconst (0 : Int32) ii_mo_mayAt_81 (by decide) ?_
    exact sm_zret1 ii_mo_mayAt_82 rfl (by decide)
  · refine sm_aload_n ii_mo_mayAt_56 rfl ?_
    refine sm_getR 76 ii_mo_mayAt_57 fl_mo_53 (k := 62) rfl ?_
    refine sm_iload_n ii_mo_mayAt_60 rfl ?_
    refine sm_iald ii_mo_mayAt_61 (k := 76) rfl (fun x14 => ?_)
    refine sm_if_eq 81 ii_mo_mayAt_62 (by decide) ?_ ?_
    · refine sm_iconst (0 : Int32) ii_mo_mayAt_81 (by decide) ?_
      exact sm_zret1 ii_mo_mayAt_82 rfl (by decide)
    · refine sm_aload_n ii_mo_mayAt_65 rfl ?_
      refine sm_getI ii_mo_mayAt_66 fl_mo_214 (k := 62) rfl ?_
      refine sm_iload_n ii_mo_mayAt_69 rfl ?_
      refine sm_csI [.int (w.1 62 23), .int a2] [] rfl ii_mo_mayAt_70 ml_mo_138 (mf_mo_has) (mv_mo_has) (Nat.le_of_ble_eq_true rfl) rfl rfl rfl (mc_mo_has ((w.1 62 23)) (a2) w) (fun x15 w16 => ?_)
      refine sm_if_ne 81 ii_mo_mayAt_73 (by decide) ?_ ?_
      · refine sm_iload_n ii_mo_mayAt_76 rfl ?_
        refine sm_iload_n ii_mo_mayAt_77 rfl ?_
        refine sm_icmp_ne 83 ii_mo_mayAt_78 (by decide) ?_ ?_
        · refine sm_iconst (0 : Int32) ii_mo_mayAt_81 (by decide) ?_
          exact sm_zret1 ii_mo_mayAt_82 rfl (by decide)
        · refine sm_aload_n ii_mo_mayAt_83 rfl ?_
          refine sm_getR 74 ii_mo_mayAt_84 fl_mo_47 (k := 62) rfl ?_
          refine sm_iload_n ii_mo_mayAt_87 rfl ?_
          refine sm_iald ii_mo_mayAt_88 (k := 74) rfl (fun x17 => ?_)
          refine sm_bipush (-9 : Int32) ii_mo_mayAt_89 (by decide) ?_
          refine sm_icmp_eq 108 ii_mo_mayAt_91 (by decide) ?_ ?_
          · exact ss_mo_mayAt_108 (a1) (a2) (a3) (b0) w16
          · refine sm_aload_n ii_mo_mayAt_94 rfl ?_
            refine sm_iload_n ii_mo_mayAt_95 rfl ?_
            refine sm_cvI [.int a2] [] rfl ii_mo_mayAt_96 ml_mo_224 (mf_mo_roomOf) (mv_mo_roomOf) (Nat.le_of_ble_eq_true rfl) rfl 7 rfl rfl rfl rfl (mc_mo_roomOf (a2) w16) (fun x18 w19 => ?_)
            refine sm_aload_n ii_mo_mayAt_99 rfl ?_
            refine sm_getR 74 ii_mo_mayAt_100 fl_mo_47 (k := 62) rfl ?_
            refine sm_iload_n ii_mo_mayAt_103 rfl ?_
            refine sm_iald ii_mo_mayAt_104 (k := 74) rfl (fun x20 => ?_)
            refine sm_icmp_ne 130 ii_mo_mayAt_105 (by decide) ?_ ?_
            · exact ss_mo_mayAt_108 (a1) (a2) (a3) (b0) w19
            · refine sm_iconst (0 : Int32) ii_mo_mayAt_130 (by decide) ?_
              exact sm_zret1 ii_mo_mayAt_131 rfl (by decide)
      · refine sm_iconst (0 : Int32) ii_mo_mayAt_81 (by decide) ?_
        exact sm_zret1 ii_mo_mayAt_82 rfl (by decide)
noncomputable def ff_mo_mayAt_20  (a1 : Int32) (a2 : Int32) (b0 : Int32) (w : sm_Mem) : sm_R := (if a1 = (0 : Int32) then (sm_cI (ff_mo_lastWord ((0 : Int32)) w) fun x22 w23 => ff_mo_mayAt_41 (a1) (a2) (b0) (x22) w23) else (Option.bind (sm_rd w 73 5 (a1 - (1 : Int32))) fun x21 => ff_mo_mayAt_41 (a1) (a2) (b0) (x21) w))
set_option maxHeartbeats 4000000 in
set_option maxRecDepth 100000 in
theorem ss_mo_mayAt_20 {E : Nat × (Nat → Int32)}  (a1 : Int32) (a2 : Int32) (b0 : Int32) (w : sm_Mem) : sm_Sim E (mi_mo_mayAt) 20 [some (.ref 62), some (.int a1), some (.int a2), none, none] [.int b0] w (ff_mo_mayAt_20  a1 a2 b0 w) := by
  unfold ff_mo_mayAt_20
  refine sm_istore_n [some (.ref 62), some (.int a1), some (.int a2), some (.int b0), none] ii_mo_mayAt_20 rfl rfl ?_
  refine sm_iload_n ii_mo_mayAt_21 rfl ?_
  refine sm_if_ne 33 ii_mo_mayAt_22 (by decide) ?_ ?_
  · refine sm_aload_n ii_mo_mayAt_25 rfl ?_
    refine sm_iconst (0 : Int32) ii_mo_mayAt_26 (by decide) ?_
    refine sm_cvI [.int (0 : Int32)] [] rfl ii_mo_mayAt_27 ml_mo_150 (mf_mo_lastWord) (mv_mo_lastWord) (Nat.le_of_ble_eq_true rfl) rfl 7 rfl rfl rfl rfl (mc_mo_lastWord ((0 : Int32)) w) (fun x22 w23 => ?_)
    refine sm_goto 41 ii_mo_mayAt_30 (by decide) ?_
    exact ss_mo_mayAt_41 (a1) (a2) (b0) (x22) w23
  · refine sm_aload_n ii_mo_mayAt_33 rfl ?_
    refine sm_getR 73 ii_mo_mayAt_34 fl_mo_44 (k := 62) rfl ?_
    refine sm_iload_n ii_mo_mayAt_37 rfl ?_
    refine sm_iconst (1 : Int32) ii_mo_mayAt_38 (by decide) ?_
    refine sm_isub ii_mo_mayAt_39 ?_
    refine sm_iald ii_mo_mayAt_40 (k := 73) rfl (fun x21 => ?_)
    exact ss_mo_mayAt_41 (a1) (a2) (b0) (x21) w
noncomputable def ff_mo_mayAt  (a1 : Int32) (a2 : Int32) (w : sm_Mem) : sm_R := (if a1 = (0 : Int32) then (sm_cI (ff_mo_lastWho ((0 : Int32)) w) fun x25 w26 => ff_mo_mayAt_20 (a1) (a2) (x25) w26) else (Option.bind (sm_rd w 75 6 (a1 - (1 : Int32))) fun x24 => ff_mo_mayAt_20 (a1) (a2) (x24) w))
set_option maxHeartbeats 4000000 in
set_option maxRecDepth 100000 in
theorem ss_mo_mayAt_0 {E : Nat × (Nat → Int32)}  (a1 : Int32) (a2 : Int32) (w : sm_Mem) : sm_Sim E (mi_mo_mayAt) 0 [some (.ref 62), some (.int a1), some (.int a2), none, none] [] w (ff_mo_mayAt  a1 a2 w) := by
  unfold ff_mo_mayAt
  refine sm_iload_n ii_mo_mayAt_0 rfl ?_
  refine sm_if_ne 12 ii_mo_mayAt_1 (by decide) ?_ ?_
  · refine sm_aload_n ii_mo_mayAt_4 rfl ?_
    refine sm_iconst (0 : Int32) ii_mo_mayAt_5 (by decide) ?_
    refine sm_cvI [.int (0 : Int32)] [] rfl ii_mo_mayAt_6 ml_mo_144 (mf_mo_lastWho) (mv_mo_lastWho) (Nat.le_of_ble_eq_true rfl) rfl 7 rfl rfl rfl rfl (mc_mo_lastWho ((0 : Int32)) w) (fun x25 w26 => ?_)
    refine sm_goto 20 ii_mo_mayAt_9 (by decide) ?_
    exact ss_mo_mayAt_20 (a1) (a2) (x25) w26
  · refine sm_aload_n ii_mo_mayAt_12 rfl ?_
    refine sm_getR 75 ii_mo_mayAt_13 fl_mo_50 (k := 62) rfl ?_
    refine sm_iload_n ii_mo_mayAt_16 rfl ?_
    refine sm_iconst (1 : Int32) ii_mo_mayAt_17 (by decide) ?_
    refine sm_isub ii_mo_mayAt_18 ?_
    refine sm_iald ii_mo_mayAt_19 (k := 75) rfl (fun x24 => ?_)
    exact ss_mo_mayAt_20 (a1) (a2) (x24) w
set_option maxHeartbeats 4000000 in
set_option maxRecDepth 100000 in
theorem mc_mo_mayAt (a1 : Int32) (a2 : Int32) (w : sm_Mem) : sm_MC mi_mo_mayAt [.ref 62, .int a1, .int a2] w (ff_mo_mayAt a1 a2 w) := sm_MC_of (0, fun _ => 0) (by decide +kernel) (by decide) rfl (Nat.le_of_ble_eq_true rfl) (ss_mo_mayAt_0 a1 a2 w)
abbrev mi_mo_nextSpeaker : sm_MI := (⟨"HerOrdersModel", "nextSpeaker", "(II)I"⟩, prog_9_method_64_code, 4, (some .int), 4)
set_option maxRecDepth 100000 in
theorem mf_mo_nextSpeaker : sm_MF mi_mo_nextSpeaker 2 := ⟨List.mem_of_getElem? (i := 1279) (by decide +kernel), List.mem_of_getElem? (i := 132) (by decide +kernel), ⟨by decide, by decide⟩, by decide +kernel⟩
set_option maxRecDepth 100000 in
theorem mv_mo_nextSpeaker : sm_MFV mi_mo_nextSpeaker := ⟨List.mem_of_getElem? (i := 1278) (by decide +kernel), List.mem_of_getElem? (i := 103) (by decide +kernel)⟩
set_option maxRecDepth 100000 in
theorem ii_mo_nextSpeaker_0 : sm_D prog_9_method_64_code 0 1 1 (.iload_n 2) := ⟨by decide +kernel, rfl⟩
set_option maxRecDepth 100000 in
theorem ii_mo_nextSpeaker_1 : sm_D prog_9_method_64_code 1 1 2 (.istore_n 3) := ⟨by decide +kernel, rfl⟩
set_option maxRecDepth 100000 in
theorem ii_mo_nextSpeaker_2 : sm_D prog_9_method_64_code 2 1 3 (.iload_n 3) := ⟨by decide +kernel, rfl⟩
set_option maxRecDepth 100000 in
theorem ii_mo_nextSpeaker_3 : sm_D prog_9_method_64_code 3 1 4 (.aload_n 0) := ⟨by decide +kernel, rfl⟩
set_option maxRecDepth 100000 in
theorem ii_mo_nextSpeaker_4 : sm_D prog_9_method_64_code 4 3 7 (.getfield 211) := ⟨by decide +kernel, rfl⟩
set_option maxRecDepth 100000 in
theorem ii_mo_nextSpeaker_7 : sm_D prog_9_method_64_code 7 3 10 (.if_icmp .ge 18) := ⟨by decide +kernel, rfl⟩
set_option maxRecDepth 100000 in
theorem ii_mo_nextSpeaker_10 : sm_D prog_9_method_64_code 10 1 11 (.aload_n 0) := ⟨by decide +kernel, rfl⟩
set_option maxRecDepth 100000 in
theorem ii_mo_nextSpeaker_11 : sm_D prog_9_method_64_code 11 1 12 (.iload_n 1) := ⟨by decide +kernel, rfl⟩
set_option maxRecDepth 100000 in
theorem ii_mo_nextSpeaker_12 : sm_D prog_9_method_64_code 12 1 13 (.iload_n 3) := ⟨by decide +kernel, rfl⟩
set_option maxRecDepth 100000 in
theorem ii_mo_nextSpeaker_13 : sm_D prog_9_method_64_code 13 3 16 (.invokevirtual 227) := ⟨by decide +kernel, rfl⟩
set_option maxRecDepth 100000 in
theorem ii_mo_nextSpeaker_16 : sm_D prog_9_method_64_code 16 3 19 (.ifCond .ne 9) := ⟨by decide +kernel, rfl⟩
set_option maxRecDepth 100000 in
theorem ii_mo_nextSpeaker_19 : sm_D prog_9_method_64_code 19 3 22 (.iinc 3 1) := ⟨by decide +kernel, rfl⟩
set_option maxRecDepth 100000 in
theorem ii_mo_nextSpeaker_22 : sm_D prog_9_method_64_code 22 3 25 (.goto (-20)) := ⟨by decide +kernel, rfl⟩
set_option maxRecDepth 100000 in
theorem ii_mo_nextSpeaker_25 : sm_D prog_9_method_64_code 25 1 26 (.iload_n 3) := ⟨by decide +kernel, rfl⟩
set_option maxRecDepth 100000 in
theorem ii_mo_nextSpeaker_26 : sm_D prog_9_method_64_code 26 1 27 (.ireturn) := ⟨by decide +kernel, rfl⟩
noncomputable def ff_mo_nextSpeaker_2_b  (self2 : Int32 → Int32 → sm_Mem → sm_R) (a1 : Int32) (a3 : Int32) (w : sm_Mem) : sm_R := (if (w.1 62 22) ≤ a3 then (some (.int a3, w)) else (sm_cI (ff_mo_mayAt (a1) (a3) w) fun x1 w2 => (if x1 = (0 : Int32) then self2 (a1) ((a3 + (1 : Int32))) w2 else (some (.int a3, w2)))))
noncomputable def ff_mo_nextSpeaker_2_f  : Nat → Int32 → Int32 → sm_Mem → sm_R
  | 0, _, _, _ => none
  | n + 1, a1, a3, w => ff_mo_nextSpeaker_2_b  (ff_mo_nextSpeaker_2_f  n) a1 a3 w
noncomputable def ff_mo_nextSpeaker_2  (a1 : Int32) (a3 : Int32) (w : sm_Mem) : sm_R := ff_mo_nextSpeaker_2_f  sm_N a1 a3 w
set_option maxHeartbeats 4000000 in
set_option maxRecDepth 100000 in
theorem ss_mo_nextSpeaker_2_b {E : Nat × (Nat → Int32)}  (self2 : Int32 → Int32 → sm_Mem → sm_R) (hself2 : ∀ (a1 : Int32) (a3 : Int32) (w : sm_Mem), sm_Sim E (mi_mo_nextSpeaker) 2 [some (.ref 62), some (.int a1), none, some (.int a3)] [] w (self2 a1 a3 w)) (a1 : Int32) (a3 : Int32) (w : sm_Mem) : sm_Sim E (mi_mo_nextSpeaker) 2 [some (.ref 62), some (.int a1), none, some (.int a3)] [] w (ff_mo_nextSpeaker_2_b  self2 a1 a3 w) := by
  unfold ff_mo_nextSpeaker_2_b
  refine sm_iload_n ii_mo_nextSpeaker_2 rfl ?_
  refine sm_aload_n ii_mo_nextSpeaker_3 rfl ?_
  refine sm_getI ii_mo_nextSpeaker_4 fl_mo_211 (k := 62) rfl ?_
  refine sm_icmp_ge 25 ii_mo_nextSpeaker_7 (by decide) ?_ ?_
  · refine sm_iload_n ii_mo_nextSpeaker_25 rfl ?_
    exact sm_iret ii_mo_nextSpeaker_26 rfl
  · refine sm_aload_n ii_mo_nextSpeaker_10 rfl ?_
    refine sm_iload_n ii_mo_nextSpeaker_11 rfl ?_
    refine sm_iload_n ii_mo_nextSpeaker_12 rfl ?_
    refine sm_cvI [.int a1, .int a3] [] rfl ii_mo_nextSpeaker_13 ml_mo_227 (mf_mo_mayAt) (mv_mo_mayAt) (Nat.le_of_ble_eq_true rfl) rfl 7 rfl rfl rfl rfl (mc_mo_mayAt (a1) (a3) w) (fun x1 w2 => ?_)
    refine sm_if_ne 25 ii_mo_nextSpeaker_16 (by decide) ?_ ?_
    · refine sm_iinc (a3 + (1 : Int32)) [some (.ref 62), some (.int a1), none, some (.int (a3 + (1 : Int32)))] ii_mo_nextSpeaker_19 rfl rfl rfl rfl ?_
      refine sm_goto 2 ii_mo_nextSpeaker_22 (by decide) ?_
      exact hself2 (a1) ((a3 + (1 : Int32))) w2
    · refine sm_iload_n ii_mo_nextSpeaker_25 rfl ?_
      exact sm_iret ii_mo_nextSpeaker_26 rfl
set_option maxHeartbeats 4000000 in
set_option maxRecDepth 100000 in
theorem ss_mo_nextSpeaker_2_f {E : Nat × (Nat → Int32)}  : ∀ (n : Nat) (a1 : Int32) (a3 : Int32) (w : sm_Mem), sm_Sim E (mi_mo_nextSpeaker) 2 [some (.ref 62), some (.int a1), none, some (.int a3)] [] w (ff_mo_nextSpeaker_2_f  n a1 a3 w)
  | 0, _, _, _ => fun _ _ h => by cases h
  | n + 1, a1, a3, w => ss_mo_nextSpeaker_2_b  _ (ss_mo_nextSpeaker_2_f  n) a1 a3 w
set_option maxHeartbeats 4000000 in
set_option maxRecDepth 100000 in
theorem ss_mo_nextSpeaker_2 {E : Nat × (Nat → Int32)}  (a1 : Int32) (a3 : Int32) (w : sm_Mem) : sm_Sim E (mi_mo_nextSpeaker) 2 [some (.ref 62), some (.int a1), none, some (.int a3)] [] w (ff_mo_nextSpeaker_2  a1 a3 w) := ss_mo_nextSpeaker_2_f  sm_N a1 a3 w
noncomputable def ff_mo_nextSpeaker  (a1 : Int32) (a2 : Int32) (w : sm_Mem) : sm_R := ff_mo_nextSpeaker_2 (a1) (a2) w
set_option maxHeartbeats 4000000 in
set_option maxRecDepth 100000 in
theorem ss_mo_nextSpeaker_0 {E : Nat × (Nat → Int32)}  (a1 : Int32) (a2 : Int32) (w : sm_Mem) : sm_Sim E (mi_mo_nextSpeaker) 0 [some (.ref 62), some (.int a1), some (.int a2), none] [] w (ff_mo_nextSpeaker  a1 a2 w) := by
  unfold ff_mo_nextSpeaker
  refine sm_iload_n ii_mo_nextSpeaker_0 rfl ?_
  refine sm_istore_n [some (.ref 62), some (.int a1), some (.int a2), some (.int a2)] ii_mo_nextSpeaker_1 rfl rfl ?_
  refine sm_msk [true, true, false, true] [some (.ref 62), some (.int a1), none, some (.int a2)] rfl ?_
  exact ss_mo_nextSpeaker_2 (a1) (a2) w
set_option maxHeartbeats 4000000 in
set_option maxRecDepth 100000 in
theorem mc_mo_nextSpeaker (a1 : Int32) (a2 : Int32) (w : sm_Mem) : sm_MC mi_mo_nextSpeaker [.ref 62, .int a1, .int a2] w (ff_mo_nextSpeaker a1 a2 w) := sm_MC_of (0, fun _ => 0) (by decide +kernel) (by decide) rfl (Nat.le_of_ble_eq_true rfl) (ss_mo_nextSpeaker_0 a1 a2 w)
abbrev mi_mo_nextWay : sm_MI := (⟨"HerOrdersModel", "nextWay", "()Z"⟩, prog_9_method_65_code, 3, (some .boolean), 5)
set_option maxRecDepth 100000 in
theorem mf_mo_nextWay : sm_MF mi_mo_nextWay 0 := ⟨List.mem_of_getElem? (i := 1275) (by decide +kernel), List.mem_of_getElem? (i := 132) (by decide +kernel), ⟨by decide, by decide⟩, by decide +kernel⟩
set_option maxRecDepth 100000 in
theorem mv_mo_nextWay : sm_MFV mi_mo_nextWay := ⟨List.mem_of_getElem? (i := 1274) (by decide +kernel), List.mem_of_getElem? (i := 102) (by decide +kernel)⟩
set_option maxRecDepth 100000 in
theorem ii_mo_nextWay_0 : sm_D prog_9_method_65_code 0 1 1 (.iconst 0) := ⟨by decide +kernel, rfl⟩
set_option maxRecDepth 100000 in
theorem ii_mo_nextWay_1 : sm_D prog_9_method_65_code 1 1 2 (.istore_n 1) := ⟨by decide +kernel, rfl⟩
set_option maxRecDepth 100000 in
theorem ii_mo_nextWay_2 : sm_D prog_9_method_65_code 2 1 3 (.aload_n 0) := ⟨by decide +kernel, rfl⟩
set_option maxRecDepth 100000 in
theorem ii_mo_nextWay_3 : sm_D prog_9_method_65_code 3 3 6 (.getfield 220) := ⟨by decide +kernel, rfl⟩
set_option maxRecDepth 100000 in
theorem ii_mo_nextWay_6 : sm_D prog_9_method_65_code 6 3 9 (.ifCond .eq 32) := ⟨by decide +kernel, rfl⟩
set_option maxRecDepth 100000 in
theorem ii_mo_nextWay_9 : sm_D prog_9_method_65_code 9 1 10 (.aload_n 0) := ⟨by decide +kernel, rfl⟩
set_option maxRecDepth 100000 in
theorem ii_mo_nextWay_10 : sm_D prog_9_method_65_code 10 3 13 (.getfield 208) := ⟨by decide +kernel, rfl⟩
set_option maxRecDepth 100000 in
theorem ii_mo_nextWay_13 : sm_D prog_9_method_65_code 13 1 14 (.iconst 1) := ⟨by decide +kernel, rfl⟩
set_option maxRecDepth 100000 in
theorem ii_mo_nextWay_14 : sm_D prog_9_method_65_code 14 1 15 (.isub) := ⟨by decide +kernel, rfl⟩
set_option maxRecDepth 100000 in
theorem ii_mo_nextWay_15 : sm_D prog_9_method_65_code 15 1 16 (.istore_n 1) := ⟨by decide +kernel, rfl⟩
set_option maxRecDepth 100000 in
theorem ii_mo_nextWay_16 : sm_D prog_9_method_65_code 16 1 17 (.iload_n 1) := ⟨by decide +kernel, rfl⟩
set_option maxRecDepth 100000 in
theorem ii_mo_nextWay_17 : sm_D prog_9_method_65_code 17 3 20 (.ifCond .lt 35) := ⟨by decide +kernel, rfl⟩
set_option maxRecDepth 100000 in
theorem ii_mo_nextWay_20 : sm_D prog_9_method_65_code 20 1 21 (.aload_n 0) := ⟨by decide +kernel, rfl⟩
set_option maxRecDepth 100000 in
theorem ii_mo_nextWay_21 : sm_D prog_9_method_65_code 21 3 24 (.getfield 53) := ⟨by decide +kernel, rfl⟩
set_option maxRecDepth 100000 in
theorem ii_mo_nextWay_24 : sm_D prog_9_method_65_code 24 1 25 (.aload_n 0) := ⟨by decide +kernel, rfl⟩
set_option maxRecDepth 100000 in
theorem ii_mo_nextWay_25 : sm_D prog_9_method_65_code 25 3 28 (.getfield 50) := ⟨by decide +kernel, rfl⟩
set_option maxRecDepth 100000 in
theorem ii_mo_nextWay_28 : sm_D prog_9_method_65_code 28 1 29 (.iload_n 1) := ⟨by decide +kernel, rfl⟩
set_option maxRecDepth 100000 in
theorem ii_mo_nextWay_29 : sm_D prog_9_method_65_code 29 1 30 (.iaload) := ⟨by decide +kernel, rfl⟩
set_option maxRecDepth 100000 in
theorem ii_mo_nextWay_30 : sm_D prog_9_method_65_code 30 1 31 (.dup2) := ⟨by decide +kernel, rfl⟩
set_option maxRecDepth 100000 in
theorem ii_mo_nextWay_31 : sm_D prog_9_method_65_code 31 1 32 (.iaload) := ⟨by decide +kernel, rfl⟩
set_option maxRecDepth 100000 in
theorem ii_mo_nextWay_32 : sm_D prog_9_method_65_code 32 1 33 (.iconst 1) := ⟨by decide +kernel, rfl⟩
set_option maxRecDepth 100000 in
theorem ii_mo_nextWay_33 : sm_D prog_9_method_65_code 33 1 34 (.iadd) := ⟨by decide +kernel, rfl⟩
set_option maxRecDepth 100000 in
theorem ii_mo_nextWay_34 : sm_D prog_9_method_65_code 34 1 35 (.iastore) := ⟨by decide +kernel, rfl⟩
set_option maxRecDepth 100000 in
theorem ii_mo_nextWay_35 : sm_D prog_9_method_65_code 35 3 38 (.goto 17) := ⟨by decide +kernel, rfl⟩
set_option maxRecDepth 100000 in
theorem ii_mo_nextWay_38 : sm_D prog_9_method_65_code 38 1 39 (.aload_n 0) := ⟨by decide +kernel, rfl⟩
set_option maxRecDepth 100000 in
theorem ii_mo_nextWay_39 : sm_D prog_9_method_65_code 39 3 42 (.getfield 208) := ⟨by decide +kernel, rfl⟩
set_option maxRecDepth 100000 in
theorem ii_mo_nextWay_42 : sm_D prog_9_method_65_code 42 3 45 (.ifCond .ne 10) := ⟨by decide +kernel, rfl⟩
set_option maxRecDepth 100000 in
theorem ii_mo_nextWay_45 : sm_D prog_9_method_65_code 45 1 46 (.aload_n 0) := ⟨by decide +kernel, rfl⟩
set_option maxRecDepth 100000 in
theorem ii_mo_nextWay_46 : sm_D prog_9_method_65_code 46 1 47 (.iconst 1) := ⟨by decide +kernel, rfl⟩
set_option maxRecDepth 100000 in
theorem ii_mo_nextWay_47 : sm_D prog_9_method_65_code 47 3 50 (.putfield 220) := ⟨by decide +kernel, rfl⟩
set_option maxRecDepth 100000 in
theorem ii_mo_nextWay_50 : sm_D prog_9_method_65_code 50 1 51 (.iconst 1) := ⟨by decide +kernel, rfl⟩
set_option maxRecDepth 100000 in
theorem ii_mo_nextWay_51 : sm_D prog_9_method_65_code 51 1 52 (.ireturn) := ⟨by decide +kernel, rfl⟩
set_option maxRecDepth 100000 in
theorem ii_mo_nextWay_52 : sm_D prog_9_method_65_code 52 1 53 (.aload_n 0) := ⟨by decide +kernel, rfl⟩
set_option maxRecDepth 100000 in
theorem ii_mo_nextWay_53 : sm_D prog_9_method_65_code 53 1 54 (.iconst 1) := ⟨by decide +kernel, rfl⟩
set_option maxRecDepth 100000 in
theorem ii_mo_nextWay_54 : sm_D prog_9_method_65_code 54 3 57 (.putfield 220) := ⟨by decide +kernel, rfl⟩
set_option maxRecDepth 100000 in
theorem ii_mo_nextWay_57 : sm_D prog_9_method_65_code 57 1 58 (.iload_n 1) := ⟨by decide +kernel, rfl⟩
set_option maxRecDepth 100000 in
theorem ii_mo_nextWay_58 : sm_D prog_9_method_65_code 58 3 61 (.ifCond .lt 90) := ⟨by decide +kernel, rfl⟩
set_option maxRecDepth 100000 in
theorem ii_mo_nextWay_61 : sm_D prog_9_method_65_code 61 1 62 (.aload_n 0) := ⟨by decide +kernel, rfl⟩
set_option maxRecDepth 100000 in
theorem ii_mo_nextWay_62 : sm_D prog_9_method_65_code 62 1 63 (.iload_n 1) := ⟨by decide +kernel, rfl⟩
set_option maxRecDepth 100000 in
theorem ii_mo_nextWay_63 : sm_D prog_9_method_65_code 63 1 64 (.aload_n 0) := ⟨by decide +kernel, rfl⟩
set_option maxRecDepth 100000 in
theorem ii_mo_nextWay_64 : sm_D prog_9_method_65_code 64 3 67 (.getfield 50) := ⟨by decide +kernel, rfl⟩
set_option maxRecDepth 100000 in
theorem ii_mo_nextWay_67 : sm_D prog_9_method_65_code 67 1 68 (.iload_n 1) := ⟨by decide +kernel, rfl⟩
set_option maxRecDepth 100000 in
theorem ii_mo_nextWay_68 : sm_D prog_9_method_65_code 68 1 69 (.iaload) := ⟨by decide +kernel, rfl⟩
set_option maxRecDepth 100000 in
theorem ii_mo_nextWay_69 : sm_D prog_9_method_65_code 69 1 70 (.iconst 1) := ⟨by decide +kernel, rfl⟩
set_option maxRecDepth 100000 in
theorem ii_mo_nextWay_70 : sm_D prog_9_method_65_code 70 1 71 (.iadd) := ⟨by decide +kernel, rfl⟩
set_option maxRecDepth 100000 in
theorem ii_mo_nextWay_71 : sm_D prog_9_method_65_code 71 3 74 (.invokevirtual 230) := ⟨by decide +kernel, rfl⟩
set_option maxRecDepth 100000 in
theorem ii_mo_nextWay_74 : sm_D prog_9_method_65_code 74 1 75 (.istore_n 2) := ⟨by decide +kernel, rfl⟩
set_option maxRecDepth 100000 in
theorem ii_mo_nextWay_75 : sm_D prog_9_method_65_code 75 1 76 (.iload_n 2) := ⟨by decide +kernel, rfl⟩
set_option maxRecDepth 100000 in
theorem ii_mo_nextWay_76 : sm_D prog_9_method_65_code 76 1 77 (.aload_n 0) := ⟨by decide +kernel, rfl⟩
set_option maxRecDepth 100000 in
theorem ii_mo_nextWay_77 : sm_D prog_9_method_65_code 77 3 80 (.getfield 211) := ⟨by decide +kernel, rfl⟩
set_option maxRecDepth 100000 in
theorem ii_mo_nextWay_80 : sm_D prog_9_method_65_code 80 3 83 (.if_icmp .ge 43) := ⟨by decide +kernel, rfl⟩
set_option maxRecDepth 100000 in
theorem ii_mo_nextWay_83 : sm_D prog_9_method_65_code 83 1 84 (.aload_n 0) := ⟨by decide +kernel, rfl⟩
set_option maxRecDepth 100000 in
theorem ii_mo_nextWay_84 : sm_D prog_9_method_65_code 84 3 87 (.getfield 50) := ⟨by decide +kernel, rfl⟩
set_option maxRecDepth 100000 in
theorem ii_mo_nextWay_87 : sm_D prog_9_method_65_code 87 1 88 (.iload_n 1) := ⟨by decide +kernel, rfl⟩
set_option maxRecDepth 100000 in
theorem ii_mo_nextWay_88 : sm_D prog_9_method_65_code 88 1 89 (.iload_n 2) := ⟨by decide +kernel, rfl⟩
set_option maxRecDepth 100000 in
theorem ii_mo_nextWay_89 : sm_D prog_9_method_65_code 89 1 90 (.iastore) := ⟨by decide +kernel, rfl⟩
set_option maxRecDepth 100000 in
theorem ii_mo_nextWay_90 : sm_D prog_9_method_65_code 90 1 91 (.aload_n 0) := ⟨by decide +kernel, rfl⟩
set_option maxRecDepth 100000 in
theorem ii_mo_nextWay_91 : sm_D prog_9_method_65_code 91 3 94 (.getfield 53) := ⟨by decide +kernel, rfl⟩
set_option maxRecDepth 100000 in
theorem ii_mo_nextWay_94 : sm_D prog_9_method_65_code 94 1 95 (.iload_n 2) := ⟨by decide +kernel, rfl⟩
set_option maxRecDepth 100000 in
theorem ii_mo_nextWay_95 : sm_D prog_9_method_65_code 95 1 96 (.dup2) := ⟨by decide +kernel, rfl⟩
set_option maxRecDepth 100000 in
theorem ii_mo_nextWay_96 : sm_D prog_9_method_65_code 96 1 97 (.iaload) := ⟨by decide +kernel, rfl⟩
set_option maxRecDepth 100000 in
theorem ii_mo_nextWay_97 : sm_D prog_9_method_65_code 97 1 98 (.iconst 1) := ⟨by decide +kernel, rfl⟩
set_option maxRecDepth 100000 in
theorem ii_mo_nextWay_98 : sm_D prog_9_method_65_code 98 1 99 (.isub) := ⟨by decide +kernel, rfl⟩
set_option maxRecDepth 100000 in
theorem ii_mo_nextWay_99 : sm_D prog_9_method_65_code 99 1 100 (.iastore) := ⟨by decide +kernel, rfl⟩
set_option maxRecDepth 100000 in
theorem ii_mo_nextWay_100 : sm_D prog_9_method_65_code 100 3 103 (.iinc 1 1) := ⟨by decide +kernel, rfl⟩
set_option maxRecDepth 100000 in
theorem ii_mo_nextWay_103 : sm_D prog_9_method_65_code 103 1 104 (.iload_n 1) := ⟨by decide +kernel, rfl⟩
set_option maxRecDepth 100000 in
theorem ii_mo_nextWay_104 : sm_D prog_9_method_65_code 104 1 105 (.aload_n 0) := ⟨by decide +kernel, rfl⟩
set_option maxRecDepth 100000 in
theorem ii_mo_nextWay_105 : sm_D prog_9_method_65_code 105 3 108 (.getfield 208) := ⟨by decide +kernel, rfl⟩
set_option maxRecDepth 100000 in
theorem ii_mo_nextWay_108 : sm_D prog_9_method_65_code 108 3 111 (.if_icmp .ne 5) := ⟨by decide +kernel, rfl⟩
set_option maxRecDepth 100000 in
theorem ii_mo_nextWay_111 : sm_D prog_9_method_65_code 111 1 112 (.iconst 1) := ⟨by decide +kernel, rfl⟩
set_option maxRecDepth 100000 in
theorem ii_mo_nextWay_112 : sm_D prog_9_method_65_code 112 1 113 (.ireturn) := ⟨by decide +kernel, rfl⟩
set_option maxRecDepth 100000 in
theorem ii_mo_nextWay_113 : sm_D prog_9_method_65_code 113 1 114 (.aload_n 0) := ⟨by decide +kernel, rfl⟩
set_option maxRecDepth 100000 in
theorem ii_mo_nextWay_114 : sm_D prog_9_method_65_code 114 3 117 (.getfield 50) := ⟨by decide +kernel, rfl⟩
set_option maxRecDepth 100000 in
theorem ii_mo_nextWay_117 : sm_D prog_9_method_65_code 117 1 118 (.iload_n 1) := ⟨by decide +kernel, rfl⟩
set_option maxRecDepth 100000 in
theorem ii_mo_nextWay_118 : sm_D prog_9_method_65_code 118 1 119 (.iconst (-1)) := ⟨by decide +kernel, rfl⟩
set_option maxRecDepth 100000 in
theorem ii_mo_nextWay_119 : sm_D prog_9_method_65_code 119 1 120 (.iastore) := ⟨by decide +kernel, rfl⟩
set_option maxRecDepth 100000 in
theorem ii_mo_nextWay_120 : sm_D prog_9_method_65_code 120 3 123 (.goto 25) := ⟨by decide +kernel, rfl⟩
set_option maxRecDepth 100000 in
theorem ii_mo_nextWay_123 : sm_D prog_9_method_65_code 123 3 126 (.iinc 1 (-1)) := ⟨by decide +kernel, rfl⟩
set_option maxRecDepth 100000 in
theorem ii_mo_nextWay_126 : sm_D prog_9_method_65_code 126 1 127 (.iload_n 1) := ⟨by decide +kernel, rfl⟩
set_option maxRecDepth 100000 in
theorem ii_mo_nextWay_127 : sm_D prog_9_method_65_code 127 3 130 (.ifCond .lt 18) := ⟨by decide +kernel, rfl⟩
set_option maxRecDepth 100000 in
theorem ii_mo_nextWay_130 : sm_D prog_9_method_65_code 130 1 131 (.aload_n 0) := ⟨by decide +kernel, rfl⟩
set_option maxRecDepth 100000 in
theorem ii_mo_nextWay_131 : sm_D prog_9_method_65_code 131 3 134 (.getfield 53) := ⟨by decide +kernel, rfl⟩
set_option maxRecDepth 100000 in
theorem ii_mo_nextWay_134 : sm_D prog_9_method_65_code 134 1 135 (.aload_n 0) := ⟨by decide +kernel, rfl⟩
set_option maxRecDepth 100000 in
theorem ii_mo_nextWay_135 : sm_D prog_9_method_65_code 135 3 138 (.getfield 50) := ⟨by decide +kernel, rfl⟩
set_option maxRecDepth 100000 in
theorem ii_mo_nextWay_138 : sm_D prog_9_method_65_code 138 1 139 (.iload_n 1) := ⟨by decide +kernel, rfl⟩
set_option maxRecDepth 100000 in
theorem ii_mo_nextWay_139 : sm_D prog_9_method_65_code 139 1 140 (.iaload) := ⟨by decide +kernel, rfl⟩
set_option maxRecDepth 100000 in
theorem ii_mo_nextWay_140 : sm_D prog_9_method_65_code 140 1 141 (.dup2) := ⟨by decide +kernel, rfl⟩
set_option maxRecDepth 100000 in
theorem ii_mo_nextWay_141 : sm_D prog_9_method_65_code 141 1 142 (.iaload) := ⟨by decide +kernel, rfl⟩
set_option maxRecDepth 100000 in
theorem ii_mo_nextWay_142 : sm_D prog_9_method_65_code 142 1 143 (.iconst 1) := ⟨by decide +kernel, rfl⟩
set_option maxRecDepth 100000 in
theorem ii_mo_nextWay_143 : sm_D prog_9_method_65_code 143 1 144 (.iadd) := ⟨by decide +kernel, rfl⟩
set_option maxRecDepth 100000 in
theorem ii_mo_nextWay_144 : sm_D prog_9_method_65_code 144 1 145 (.iastore) := ⟨by decide +kernel, rfl⟩
set_option maxRecDepth 100000 in
theorem ii_mo_nextWay_145 : sm_D prog_9_method_65_code 145 3 148 (.goto (-88)) := ⟨by decide +kernel, rfl⟩
set_option maxRecDepth 100000 in
theorem ii_mo_nextWay_148 : sm_D prog_9_method_65_code 148 1 149 (.iconst 0) := ⟨by decide +kernel, rfl⟩
set_option maxRecDepth 100000 in
theorem ii_mo_nextWay_149 : sm_D prog_9_method_65_code 149 1 150 (.ireturn) := ⟨by decide +kernel, rfl⟩
noncomputable def ff_mo_nextWay_57_b  (self57 : Int32 → sm_Mem → sm_R) (a1 : Int32) (w : sm_Mem) : sm_R := (if a1 < (0 : Int32) then (some (.int (0 : Int32), w)) else (Option.bind (sm_rd w 75 6 a1) fun x1 => (sm_cI (ff_mo_nextSpeaker (a1) ((x1 + (1 : Int32))) w) fun x2 w3 => (if (w3.1 62 22) ≤ x2 then (if (a1 + (-1 : Int32)) < (0 : Int32) then self57 ((a1 + (-1 : Int32))) w3 else (Option.bind (sm_rd w3 75 6 (a1 + (-1 : Int32))) fun x4 => (Option.bind (sm_rd w3 76 7 x4) fun x5 => (Option.bind (sm_wr w3 76 7 x4 (x5 + (1 : Int32))) fun w6 => self57 ((a1 + (-1 : Int32))) w6)))) else (Option.bind (sm_wr w3 75 6 a1 x2) fun w7 => (Option.bind (sm_rd w7 76 7 x2) fun x8 => (Option.bind (sm_wr w7 76 7 x2 (x8 - (1 : Int32))) fun w9 => (if (a1 + (1 : Int32)) = (w9.1 62 21) then (some (.int (1 : Int32), w9)) else (Option.bind (sm_wr w9 75 6 (a1 + (1 : Int32)) (-1 : Int32)) fun w10 => self57 ((a1 + (1 : Int32))) w10)))))))))
noncomputable def ff_mo_nextWay_57_f  : Nat → Int32 → sm_Mem → sm_R
  | 0, _, _ => none
  | n + 1, a1, w => ff_mo_nextWay_57_b  (ff_mo_nextWay_57_f  n) a1 w
noncomputable def ff_mo_nextWay_57  (a1 : Int32) (w : sm_Mem) : sm_R := ff_mo_nextWay_57_f  sm_N a1 w
set_option maxHeartbeats 4000000 in
set_option maxRecDepth 100000 in
theorem ss_mo_nextWay_57_b {E : Nat × (Nat → Int32)}  (self57 : Int32 → sm_Mem → sm_R) (hself57 : ∀ (a1 : Int32) (w : sm_Mem), sm_Sim E (mi_mo_nextWay) 57 [some (.ref 62), some (.int a1), none] [] w (self57 a1 w)) (a1 : Int32) (w : sm_Mem) : sm_Sim E (mi_mo_nextWay) 57 [some (.ref 62), some (.int a1), none] [] w (ff_mo_nextWay_57_b  self57 a1 w) := by
  unfold ff_mo_nextWay_57_b
  refine sm_iload_n ii_mo_nextWay_57 rfl ?_
  refine sm_if_lt 148 ii_mo_nextWay_58 (by decide) ?_ ?_
  · refine sm_iconst (0 : Int32) ii_mo_nextWay_148 (by decide) ?_
    exact sm_zret1 ii_mo_nextWay_149 rfl (by decide)
  · refine sm_aload_n ii_mo_nextWay_61 rfl ?_
    refine sm_iload_n ii_mo_nextWay_62 rfl ?_
    refine sm_aload_n ii_mo_nextWay_63 rfl ?_
    refine sm_getR 75 ii_mo_nextWay_64 fl_mo_50 (k := 62) rfl ?_
    refine sm_iload_n ii_mo_nextWay_67 rfl ?_
    refine sm_iald ii_mo_nextWay_68 (k := 75) rfl (fun x1 => ?_)
    refine sm_iconst (1 : Int32) ii_mo_nextWay_69 (by decide) ?_
    refine sm_iadd ii_mo_nextWay_70 ?_
    refine sm_cvI [.int a1, .int (x1 + (1 : Int32))] [] rfl ii_mo_nextWay_71 ml_mo_230 (mf_mo_nextSpeaker) (mv_mo_nextSpeaker) (Nat.le_of_ble_eq_true rfl) rfl 7 rfl rfl rfl rfl (mc_mo_nextSpeaker (a1) ((x1 + (1 : Int32))) w) (fun x2 w3 => ?_)
    refine sm_istore_n [some (.ref 62), some (.int a1), some (.int x2)] ii_mo_nextWay_74 rfl rfl ?_
    refine sm_iload_n ii_mo_nextWay_75 rfl ?_
    refine sm_aload_n ii_mo_nextWay_76 rfl ?_
    refine sm_getI ii_mo_nextWay_77 fl_mo_211 (k := 62) rfl ?_
    refine sm_icmp_ge 123 ii_mo_nextWay_80 (by decide) ?_ ?_
    · refine sm_iinc (a1 + (-1 : Int32)) [some (.ref 62), some (.int (a1 + (-1 : Int32))), some (.int x2)] ii_mo_nextWay_123 rfl rfl rfl rfl ?_
      refine sm_iload_n ii_mo_nextWay_126 rfl ?_
      refine sm_if_lt 145 ii_mo_nextWay_127 (by decide) ?_ ?_
      · refine sm_goto 57 ii_mo_nextWay_145 (by decide) ?_
        refine sm_msk [true, true, false] [some (.ref 62), some (.int (a1 + (-1 : Int32))), none] rfl ?_
        exact hself57 ((a1 + (-1 : Int32))) w3
      · refine sm_aload_n ii_mo_nextWay_130 rfl ?_
        refine sm_getR 76 ii_mo_nextWay_131 fl_mo_53 (k := 62) rfl ?_
        refine sm_aload_n ii_mo_nextWay_134 rfl ?_
        refine sm_getR 75 ii_mo_nextWay_135 fl_mo_50 (k := 62) rfl ?_
        refine sm_iload_n ii_mo_nextWay_138 rfl ?_
        refine sm_iald ii_mo_nextWay_139 (k := 75) rfl (fun x4 => ?_)
        refine sm_dup2 ii_mo_nextWay_140 ?_
        refine sm_iald ii_mo_nextWay_141 (k := 76) rfl (fun x5 => ?_)
        refine sm_iconst (1 : Int32) ii_mo_nextWay_142 (by decide) ?_
        refine sm_iadd ii_mo_nextWay_143 ?_
        refine sm_iast ii_mo_nextWay_144 (k := 76) rfl (fun w6 => ?_)
        refine sm_goto 57 ii_mo_nextWay_145 (by decide) ?_
        refine sm_msk [true, true, false] [some (.ref 62), some (.int (a1 + (-1 : Int32))), none] rfl ?_
        exact hself57 ((a1 + (-1 : Int32))) w6
    · refine sm_aload_n ii_mo_nextWay_83 rfl ?_
      refine sm_getR 75 ii_mo_nextWay_84 fl_mo_50 (k := 62) rfl ?_
      refine sm_iload_n ii_mo_nextWay_87 rfl ?_
      refine sm_iload_n ii_mo_nextWay_88 rfl ?_
      refine sm_iast ii_mo_nextWay_89 (k := 75) rfl (fun w7 => ?_)
      refine sm_aload_n ii_mo_nextWay_90 rfl ?_
      refine sm_getR 76 ii_mo_nextWay_91 fl_mo_53 (k := 62) rfl ?_
      refine sm_iload_n ii_mo_nextWay_94 rfl ?_
      refine sm_dup2 ii_mo_nextWay_95 ?_
      refine sm_iald ii_mo_nextWay_96 (k := 76) rfl (fun x8 => ?_)
      refine sm_iconst (1 : Int32) ii_mo_nextWay_97 (by decide) ?_
      refine sm_isub ii_mo_nextWay_98 ?_
      refine sm_iast ii_mo_nextWay_99 (k := 76) rfl (fun w9 => ?_)
      refine sm_iinc (a1 + (1 : Int32)) [some (.ref 62), some (.int (a1 + (1 : Int32))), some (.int x2)] ii_mo_nextWay_100 rfl rfl rfl rfl ?_
      refine sm_iload_n ii_mo_nextWay_103 rfl ?_
      refine sm_aload_n ii_mo_nextWay_104 rfl ?_
      refine sm_getI ii_mo_nextWay_105 fl_mo_208 (k := 62) rfl ?_
      refine sm_icmp_ne 113 ii_mo_nextWay_108 (by decide) ?_ ?_
      · refine sm_iconst (1 : Int32) ii_mo_nextWay_111 (by decide) ?_
        exact sm_zret1 ii_mo_nextWay_112 rfl (by decide)
      · refine sm_aload_n ii_mo_nextWay_113 rfl ?_
        refine sm_getR 75 ii_mo_nextWay_114 fl_mo_50 (k := 62) rfl ?_
        refine sm_iload_n ii_mo_nextWay_117 rfl ?_
        refine sm_iconst (-1 : Int32) ii_mo_nextWay_118 (by decide) ?_
        refine sm_iast ii_mo_nextWay_119 (k := 75) rfl (fun w10 => ?_)
        refine sm_goto 145 ii_mo_nextWay_120 (by decide) ?_
        refine sm_goto 57 ii_mo_nextWay_145 (by decide) ?_
        refine sm_msk [true, true, false] [some (.ref 62), some (.int (a1 + (1 : Int32))), none] rfl ?_
        exact hself57 ((a1 + (1 : Int32))) w10
set_option maxHeartbeats 4000000 in
set_option maxRecDepth 100000 in
theorem ss_mo_nextWay_57_f {E : Nat × (Nat → Int32)}  : ∀ (n : Nat) (a1 : Int32) (w : sm_Mem), sm_Sim E (mi_mo_nextWay) 57 [some (.ref 62), some (.int a1), none] [] w (ff_mo_nextWay_57_f  n a1 w)
  | 0, _, _ => fun _ _ h => by cases h
  | n + 1, a1, w => ss_mo_nextWay_57_b  _ (ss_mo_nextWay_57_f  n) a1 w
set_option maxHeartbeats 4000000 in
set_option maxRecDepth 100000 in
theorem ss_mo_nextWay_57 {E : Nat × (Nat → Int32)}  (a1 : Int32) (w : sm_Mem) : sm_Sim E (mi_mo_nextWay) 57 [some (.ref 62), some (.int a1), none] [] w (ff_mo_nextWay_57  a1 w) := ss_mo_nextWay_57_f  sm_N a1 w
noncomputable def ff_mo_nextWay_52  (a1 : Int32) (w : sm_Mem) : sm_R := (sm_let (sm_wI w 62 27 (1 : Int32)) fun w11 => ff_mo_nextWay_57 (a1) w11)
set_option maxHeartbeats 4000000 in
set_option maxRecDepth 100000 in
theorem ss_mo_nextWay_52 {E : Nat × (Nat → Int32)}  (a1 : Int32) (w : sm_Mem) : sm_Sim E (mi_mo_nextWay) 52 [some (.ref 62), some (.int a1), none] [] w (ff_mo_nextWay_52  a1 w) := by
  unfold ff_mo_nextWay_52
  refine sm_aload_n ii_mo_nextWay_52 rfl ?_
  refine sm_iconst (1 : Int32) ii_mo_nextWay_53 (by decide) ?_
  refine sm_putZ ii_mo_nextWay_54 fp_mo_220 (k := 62) rfl (by decide) (fun w11 => ?_)
  exact ss_mo_nextWay_57 (a1) w11
noncomputable def ff_mo_nextWay   (w : sm_Mem) : sm_R := (if (w.1 62 27) = (0 : Int32) then (if (w.1 62 21) = (0 : Int32) then (sm_let (sm_wI w 62 27 (1 : Int32)) fun w12 => (some (.int (1 : Int32), w12))) else ff_mo_nextWay_52 ((0 : Int32)) w) else (if ((w.1 62 21) - (1 : Int32)) < (0 : Int32) then ff_mo_nextWay_52 (((w.1 62 21) - (1 : Int32))) w else (Option.bind (sm_rd w 75 6 ((w.1 62 21) - (1 : Int32))) fun x13 => (Option.bind (sm_rd w 76 7 x13) fun x14 => (Option.bind (sm_wr w 76 7 x13 (x14 + (1 : Int32))) fun w15 => ff_mo_nextWay_52 (((w.1 62 21) - (1 : Int32))) w15)))))
set_option maxHeartbeats 4000000 in
set_option maxRecDepth 100000 in
theorem ss_mo_nextWay_0 {E : Nat × (Nat → Int32)}   (w : sm_Mem) : sm_Sim E (mi_mo_nextWay) 0 [some (.ref 62), none, none] [] w (ff_mo_nextWay   w) := by
  unfold ff_mo_nextWay
  refine sm_iconst (0 : Int32) ii_mo_nextWay_0 (by decide) ?_
  refine sm_istore_n [some (.ref 62), some (.int (0 : Int32)), none] ii_mo_nextWay_1 rfl rfl ?_
  refine sm_aload_n ii_mo_nextWay_2 rfl ?_
  refine sm_getI ii_mo_nextWay_3 fl_mo_220 (k := 62) rfl ?_
  refine sm_if_eq 38 ii_mo_nextWay_6 (by decide) ?_ ?_
  · refine sm_aload_n ii_mo_nextWay_38 rfl ?_
    refine sm_getI ii_mo_nextWay_39 fl_mo_208 (k := 62) rfl ?_
    refine sm_if_ne 52 ii_mo_nextWay_42 (by decide) ?_ ?_
    · refine sm_aload_n ii_mo_nextWay_45 rfl ?_
      refine sm_iconst (1 : Int32) ii_mo_nextWay_46 (by decide) ?_
      refine sm_putZ ii_mo_nextWay_47 fp_mo_220 (k := 62) rfl (by decide) (fun w12 => ?_)
      refine sm_iconst (1 : Int32) ii_mo_nextWay_50 (by decide) ?_
      exact sm_zret1 ii_mo_nextWay_51 rfl (by decide)
    · exact ss_mo_nextWay_52 ((0 : Int32)) w
  · refine sm_aload_n ii_mo_nextWay_9 rfl ?_
    refine sm_getI ii_mo_nextWay_10 fl_mo_208 (k := 62) rfl ?_
    refine sm_iconst (1 : Int32) ii_mo_nextWay_13 (by decide) ?_
    refine sm_isub ii_mo_nextWay_14 ?_
    refine sm_istore_n [some (.ref 62), some (.int ((w.1 62 21) - (1 : Int32))), none] ii_mo_nextWay_15 rfl rfl ?_
    refine sm_iload_n ii_mo_nextWay_16 rfl ?_
    refine sm_if_lt 52 ii_mo_nextWay_17 (by decide) ?_ ?_
    · exact ss_mo_nextWay_52 (((w.1 62 21) - (1 : Int32))) w
    · refine sm_aload_n ii_mo_nextWay_20 rfl ?_
      refine sm_getR 76 ii_mo_nextWay_21 fl_mo_53 (k := 62) rfl ?_
      refine sm_aload_n ii_mo_nextWay_24 rfl ?_
      refine sm_getR 75 ii_mo_nextWay_25 fl_mo_50 (k := 62) rfl ?_
      refine sm_iload_n ii_mo_nextWay_28 rfl ?_
      refine sm_iald ii_mo_nextWay_29 (k := 75) rfl (fun x13 => ?_)
      refine sm_dup2 ii_mo_nextWay_30 ?_
      refine sm_iald ii_mo_nextWay_31 (k := 76) rfl (fun x14 => ?_)
      refine sm_iconst (1 : Int32) ii_mo_nextWay_32 (by decide) ?_
      refine sm_iadd ii_mo_nextWay_33 ?_
      refine sm_iast ii_mo_nextWay_34 (k := 76) rfl (fun w15 => ?_)
      refine sm_goto 52 ii_mo_nextWay_35 (by decide) ?_
      exact ss_mo_nextWay_52 (((w.1 62 21) - (1 : Int32))) w15
set_option maxHeartbeats 4000000 in
set_option maxRecDepth 100000 in
theorem mc_mo_nextWay  (w : sm_Mem) : sm_MC mi_mo_nextWay [.ref 62] w (ff_mo_nextWay  w) := sm_MC_of (0, fun _ => 0) (by decide +kernel) (by decide) rfl (Nat.le_of_ble_eq_true rfl) (ss_mo_nextWay_0  w)
abbrev mi_mo_spokeIn : sm_MI := (⟨"HerOrdersModel", "spokeIn", "()I"⟩, prog_9_method_67_code, 3, (some .int), 1)
set_option maxRecDepth 100000 in
theorem mf_mo_spokeIn : sm_MF mi_mo_spokeIn 0 := ⟨List.mem_of_getElem? (i := 1291) (by decide +kernel), List.mem_of_getElem? (i := 132) (by decide +kernel), ⟨by decide, by decide⟩, by decide +kernel⟩
set_option maxRecDepth 100000 in
theorem mv_mo_spokeIn : sm_MFV mi_mo_spokeIn := ⟨List.mem_of_getElem? (i := 1290) (by decide +kernel), List.mem_of_getElem? (i := 106) (by decide +kernel)⟩
set_option maxRecDepth 100000 in
theorem ii_mo_spokeIn_0 : sm_D prog_9_method_67_code 0 1 1 (.iconst 0) := ⟨by decide +kernel, rfl⟩
set_option maxRecDepth 100000 in
theorem ii_mo_spokeIn_1 : sm_D prog_9_method_67_code 1 1 2 (.istore_n 1) := ⟨by decide +kernel, rfl⟩
set_option maxRecDepth 100000 in
theorem ii_mo_spokeIn_2 : sm_D prog_9_method_67_code 2 1 3 (.iconst 0) := ⟨by decide +kernel, rfl⟩
set_option maxRecDepth 100000 in
theorem ii_mo_spokeIn_3 : sm_D prog_9_method_67_code 3 1 4 (.istore_n 2) := ⟨by decide +kernel, rfl⟩
set_option maxRecDepth 100000 in
theorem ii_mo_spokeIn_4 : sm_D prog_9_method_67_code 4 1 5 (.iload_n 2) := ⟨by decide +kernel, rfl⟩
set_option maxRecDepth 100000 in
theorem ii_mo_spokeIn_5 : sm_D prog_9_method_67_code 5 1 6 (.aload_n 0) := ⟨by decide +kernel, rfl⟩
set_option maxRecDepth 100000 in
theorem ii_mo_spokeIn_6 : sm_D prog_9_method_67_code 6 3 9 (.getfield 208) := ⟨by decide +kernel, rfl⟩
set_option maxRecDepth 100000 in
theorem ii_mo_spokeIn_9 : sm_D prog_9_method_67_code 9 3 12 (.if_icmp .ge 20) := ⟨by decide +kernel, rfl⟩
set_option maxRecDepth 100000 in
theorem ii_mo_spokeIn_12 : sm_D prog_9_method_67_code 12 1 13 (.iload_n 1) := ⟨by decide +kernel, rfl⟩
set_option maxRecDepth 100000 in
theorem ii_mo_spokeIn_13 : sm_D prog_9_method_67_code 13 1 14 (.iconst 1) := ⟨by decide +kernel, rfl⟩
set_option maxRecDepth 100000 in
theorem ii_mo_spokeIn_14 : sm_D prog_9_method_67_code 14 1 15 (.aload_n 0) := ⟨by decide +kernel, rfl⟩
set_option maxRecDepth 100000 in
theorem ii_mo_spokeIn_15 : sm_D prog_9_method_67_code 15 3 18 (.getfield 50) := ⟨by decide +kernel, rfl⟩
set_option maxRecDepth 100000 in
theorem ii_mo_spokeIn_18 : sm_D prog_9_method_67_code 18 1 19 (.iload_n 2) := ⟨by decide +kernel, rfl⟩
set_option maxRecDepth 100000 in
theorem ii_mo_spokeIn_19 : sm_D prog_9_method_67_code 19 1 20 (.iaload) := ⟨by decide +kernel, rfl⟩
set_option maxRecDepth 100000 in
theorem ii_mo_spokeIn_20 : sm_D prog_9_method_67_code 20 1 21 (.ishl) := ⟨by decide +kernel, rfl⟩
set_option maxRecDepth 100000 in
theorem ii_mo_spokeIn_21 : sm_D prog_9_method_67_code 21 1 22 (.ior) := ⟨by decide +kernel, rfl⟩
set_option maxRecDepth 100000 in
theorem ii_mo_spokeIn_22 : sm_D prog_9_method_67_code 22 1 23 (.istore_n 1) := ⟨by decide +kernel, rfl⟩
set_option maxRecDepth 100000 in
theorem ii_mo_spokeIn_23 : sm_D prog_9_method_67_code 23 3 26 (.iinc 2 1) := ⟨by decide +kernel, rfl⟩
set_option maxRecDepth 100000 in
theorem ii_mo_spokeIn_26 : sm_D prog_9_method_67_code 26 3 29 (.goto (-22)) := ⟨by decide +kernel, rfl⟩
set_option maxRecDepth 100000 in
theorem ii_mo_spokeIn_29 : sm_D prog_9_method_67_code 29 1 30 (.iload_n 1) := ⟨by decide +kernel, rfl⟩
set_option maxRecDepth 100000 in
theorem ii_mo_spokeIn_30 : sm_D prog_9_method_67_code 30 1 31 (.ireturn) := ⟨by decide +kernel, rfl⟩
noncomputable def ff_mo_spokeIn_4_b  (self4 : Int32 → Int32 → sm_Mem → sm_R) (a1 : Int32) (a2 : Int32) (w : sm_Mem) : sm_R := (if (w.1 62 21) ≤ a2 then (some (.int a1, w)) else (Option.bind (sm_rd w 75 6 a2) fun x1 => self4 ((a1 ||| ((1 : Int32) <<< (x1 &&& (31 : Int32))))) ((a2 + (1 : Int32))) w))
noncomputable def ff_mo_spokeIn_4_f  : Nat → Int32 → Int32 → sm_Mem → sm_R
  | 0, _, _, _ => none
  | n + 1, a1, a2, w => ff_mo_spokeIn_4_b  (ff_mo_spokeIn_4_f  n) a1 a2 w
noncomputable def ff_mo_spokeIn_4  (a1 : Int32) (a2 : Int32) (w : sm_Mem) : sm_R := ff_mo_spokeIn_4_f  sm_N a1 a2 w
set_option maxHeartbeats 4000000 in
set_option maxRecDepth 100000 in
theorem ss_mo_spokeIn_4_b {E : Nat × (Nat → Int32)}  (self4 : Int32 → Int32 → sm_Mem → sm_R) (hself4 : ∀ (a1 : Int32) (a2 : Int32) (w : sm_Mem), sm_Sim E (mi_mo_spokeIn) 4 [some (.ref 62), some (.int a1), some (.int a2)] [] w (self4 a1 a2 w)) (a1 : Int32) (a2 : Int32) (w : sm_Mem) : sm_Sim E (mi_mo_spokeIn) 4 [some (.ref 62), some (.int a1), some (.int a2)] [] w (ff_mo_spokeIn_4_b  self4 a1 a2 w) := by
  unfold ff_mo_spokeIn_4_b
  refine sm_iload_n ii_mo_spokeIn_4 rfl ?_
  refine sm_aload_n ii_mo_spokeIn_5 rfl ?_
  refine sm_getI ii_mo_spokeIn_6 fl_mo_208 (k := 62) rfl ?_
  refine sm_icmp_ge 29 ii_mo_spokeIn_9 (by decide) ?_ ?_
  · refine sm_iload_n ii_mo_spokeIn_29 rfl ?_
    exact sm_iret ii_mo_spokeIn_30 rfl
  · refine sm_iload_n ii_mo_spokeIn_12 rfl ?_
    refine sm_iconst (1 : Int32) ii_mo_spokeIn_13 (by decide) ?_
    refine sm_aload_n ii_mo_spokeIn_14 rfl ?_
    refine sm_getR 75 ii_mo_spokeIn_15 fl_mo_50 (k := 62) rfl ?_
    refine sm_iload_n ii_mo_spokeIn_18 rfl ?_
    refine sm_iald ii_mo_spokeIn_19 (k := 75) rfl (fun x1 => ?_)
    refine sm_ishl ii_mo_spokeIn_20 ?_
    refine sm_ior ii_mo_spokeIn_21 ?_
    refine sm_istore_n [some (.ref 62), some (.int (a1 ||| ((1 : Int32) <<< (x1 &&& (31 : Int32))))), some (.int a2)] ii_mo_spokeIn_22 rfl rfl ?_
    refine sm_iinc (a2 + (1 : Int32)) [some (.ref 62), some (.int (a1 ||| ((1 : Int32) <<< (x1 &&& (31 : Int32))))), some (.int (a2 + (1 : Int32)))] ii_mo_spokeIn_23 rfl rfl rfl rfl ?_
    refine sm_goto 4 ii_mo_spokeIn_26 (by decide) ?_
    exact hself4 ((a1 ||| ((1 : Int32) <<< (x1 &&& (31 : Int32))))) ((a2 + (1 : Int32))) w
set_option maxHeartbeats 4000000 in
set_option maxRecDepth 100000 in
theorem ss_mo_spokeIn_4_f {E : Nat × (Nat → Int32)}  : ∀ (n : Nat) (a1 : Int32) (a2 : Int32) (w : sm_Mem), sm_Sim E (mi_mo_spokeIn) 4 [some (.ref 62), some (.int a1), some (.int a2)] [] w (ff_mo_spokeIn_4_f  n a1 a2 w)
  | 0, _, _, _ => fun _ _ h => by cases h
  | n + 1, a1, a2, w => ss_mo_spokeIn_4_b  _ (ss_mo_spokeIn_4_f  n) a1 a2 w
set_option maxHeartbeats 4000000 in
set_option maxRecDepth 100000 in
theorem ss_mo_spokeIn_4 {E : Nat × (Nat → Int32)}  (a1 : Int32) (a2 : Int32) (w : sm_Mem) : sm_Sim E (mi_mo_spokeIn) 4 [some (.ref 62), some (.int a1), some (.int a2)] [] w (ff_mo_spokeIn_4  a1 a2 w) := ss_mo_spokeIn_4_f  sm_N a1 a2 w
noncomputable def ff_mo_spokeIn   (w : sm_Mem) : sm_R := ff_mo_spokeIn_4 ((0 : Int32)) ((0 : Int32)) w
set_option maxHeartbeats 4000000 in
set_option maxRecDepth 100000 in
theorem ss_mo_spokeIn_0 {E : Nat × (Nat → Int32)}   (w : sm_Mem) : sm_Sim E (mi_mo_spokeIn) 0 [some (.ref 62), none, none] [] w (ff_mo_spokeIn   w) := by
  unfold ff_mo_spokeIn
  refine sm_iconst (0 : Int32) ii_mo_spokeIn_0 (by decide) ?_
  refine sm_istore_n [some (.ref 62), some (.int (0 : Int32)), none] ii_mo_spokeIn_1 rfl rfl ?_
  refine sm_iconst (0 : Int32) ii_mo_spokeIn_2 (by decide) ?_
  refine sm_istore_n [some (.ref 62), some (.int (0 : Int32)), some (.int (0 : Int32))] ii_mo_spokeIn_3 rfl rfl ?_
  exact ss_mo_spokeIn_4 ((0 : Int32)) ((0 : Int32)) w
set_option maxHeartbeats 4000000 in
set_option maxRecDepth 100000 in
theorem mc_mo_spokeIn  (w : sm_Mem) : sm_MC mi_mo_spokeIn [.ref 62] w (ff_mo_spokeIn  w) := sm_MC_of (0, fun _ => 0) (by decide +kernel) (by decide) rfl (Nat.le_of_ble_eq_true rfl) (ss_mo_spokeIn_0  w)
