/-! the program, by a program: functions of its methods and that the methods do them -/
set_option maxRecDepth 100000 in
theorem ml_wy_102 : sm_ML "HerOrders$Ways" 102 ⟨"java/lang/Integer", "bitCount", "(I)I"⟩ := Or.inl (List.mem_of_getElem? (i := 522) (by decide +kernel))
set_option maxRecDepth 100000 in
theorem fl_wy_49 : sm_FL "HerOrders$Ways" 49 5 3 := ⟨RX5, TX5, 14, rfl, by decide, rfl, sm_inX5, Or.inl (List.mem_of_getElem? (i := 207) (by decide +kernel))⟩
set_option maxRecDepth 100000 in
theorem fl_wy_78 : sm_FL "HerOrders$Ways" 78 5 13 := ⟨RX5, TX5, 14, rfl, by decide, rfl, sm_inX5, Or.inl (List.mem_of_getElem? (i := 223) (by decide +kernel))⟩
set_option maxRecDepth 100000 in
theorem ml_wy_111 : sm_ML "HerOrders$Ways" 111 ⟨"HerOrders$Ways", "isLess", "(II)Z"⟩ := Or.inl (List.mem_of_getElem? (i := 532) (by decide +kernel))
set_option maxRecDepth 100000 in
theorem fl_wy_22 : sm_FL "HerOrders$Ways" 22 5 4 := ⟨RX5, TX5, 14, rfl, by decide, rfl, sm_inX5, Or.inl (List.mem_of_getElem? (i := 209) (by decide +kernel))⟩
set_option maxRecDepth 100000 in
theorem fl_wy_63 : sm_FL "HerOrders$Ways" 63 5 12 := ⟨RX5, TX5, 14, rfl, by decide, rfl, sm_inX5, Or.inl (List.mem_of_getElem? (i := 222) (by decide +kernel))⟩
set_option maxRecDepth 100000 in
theorem fl_wy_15 : sm_FL "HerOrders$Ways" 15 5 1 := ⟨RX5, TX5, 14, rfl, by decide, rfl, sm_inX5, Or.inl (List.mem_of_getElem? (i := 205) (by decide +kernel))⟩
set_option maxRecDepth 100000 in
theorem ml_wy_108 : sm_ML "HerOrders$Ways" 108 ⟨"HerOrders$Ways", "weighGuest", "()V"⟩ := Or.inl (List.mem_of_getElem? (i := 528) (by decide +kernel))
set_option maxRecDepth 100000 in
theorem fl_wy_31 : sm_FL "HerOrders$Ways" 31 5 7 := ⟨RX5, TX5, 14, rfl, by decide, rfl, sm_inX5, Or.inl (List.mem_of_getElem? (i := 213) (by decide +kernel))⟩
set_option maxRecDepth 100000 in
theorem fl_wy_72 : sm_FL "HerOrders$Ways" 72 5 10 := ⟨RX5, TX5, 14, rfl, by decide, rfl, sm_inX5, Or.inl (List.mem_of_getElem? (i := 219) (by decide +kernel))⟩
set_option maxRecDepth 100000 in
theorem fl_wy_75 : sm_FL "HerOrders$Ways" 75 5 11 := ⟨RX5, TX5, 14, rfl, by decide, rfl, sm_inX5, Or.inl (List.mem_of_getElem? (i := 220) (by decide +kernel))⟩
set_option maxRecDepth 100000 in
theorem fl_wy_66 : sm_FL "HerOrders$Ways" 66 5 8 := ⟨RX5, TX5, 14, rfl, by decide, rfl, sm_inX5, Or.inl (List.mem_of_getElem? (i := 215) (by decide +kernel))⟩
set_option maxRecDepth 100000 in
theorem fl_wy_9 : sm_FL "HerOrders$Ways" 9 5 0 := ⟨RX5, TX5, 14, rfl, by decide, rfl, sm_inX5, Or.inl (List.mem_of_getElem? (i := 204) (by decide +kernel))⟩
set_option maxRecDepth 100000 in
theorem ml_wy_92 : sm_ML "HerOrders$Ways" 92 ⟨"HerOrders$House", "can", "(II)Z"⟩ := Or.inr ⟨"HerOrders", List.mem_of_getElem? (i := 535) (by decide +kernel)⟩
set_option maxRecDepth 100000 in
theorem ml_wy_96 : sm_ML "HerOrders$Ways" 96 ⟨"HerOrders$House", "push", "(II)V"⟩ := Or.inr ⟨"HerOrders", List.mem_of_getElem? (i := 536) (by decide +kernel)⟩
set_option maxRecDepth 100000 in
theorem ml_wy_59 : sm_ML "HerOrders$Ways" 59 ⟨"HerOrders$Ways", "goOn", "(II)V"⟩ := Or.inl (List.mem_of_getElem? (i := 514) (by decide +kernel))
set_option maxRecDepth 100000 in
theorem ml_wy_99 : sm_ML "HerOrders$Ways" 99 ⟨"HerOrders$House", "pop", "()V"⟩ := Or.inr ⟨"HerOrders", List.mem_of_getElem? (i := 537) (by decide +kernel)⟩
set_option maxRecDepth 100000 in
theorem fl_wy_84 : sm_FL "HerOrders$Ways" 84 1 0 := ⟨RX1, TX1, 13, rfl, by decide, rfl, sm_inX1, Or.inr ⟨"HerOrders", List.mem_of_getElem? (i := 147) (by decide +kernel)⟩⟩
set_option maxRecDepth 100000 in
theorem fl_wy_19 : sm_FL "HerOrders$Ways" 19 5 2 := ⟨RX5, TX5, 14, rfl, by decide, rfl, sm_inX5, Or.inl (List.mem_of_getElem? (i := 206) (by decide +kernel))⟩
set_option maxRecDepth 100000 in
theorem fl_wy_89 : sm_FL "HerOrders$Ways" 89 1 5 := ⟨RX1, TX1, 13, rfl, by decide, rfl, sm_inX1, Or.inr ⟨"HerOrders", List.mem_of_getElem? (i := 154) (by decide +kernel)⟩⟩
set_option maxRecDepth 100000 in
theorem mq_wy_46 : Cond.methodLink "HerOrders$Ways" 46 Lib.Math.max.name ∈ lw_tbl := List.mem_of_getElem? (i := 509) (by decide +kernel)
set_option maxRecDepth 100000 in
theorem ml_wy_81 : sm_ML "HerOrders$Ways" 81 ⟨"HerOrders$Ways", "finish", "(I)V"⟩ := Or.inl (List.mem_of_getElem? (i := 518) (by decide +kernel))
set_option maxRecDepth 100000 in
theorem ml_wy_55 : sm_ML "HerOrders$Ways" 55 ⟨"HerOrders$Ways", "clear", "(I)V"⟩ := Or.inl (List.mem_of_getElem? (i := 510) (by decide +kernel))
set_option maxRecDepth 100000 in
theorem fl_wy_52 : sm_FL "HerOrders$Ways" 52 2 0 := ⟨RX2, TX2, 2, rfl, by decide, rfl, sm_inX2, Or.inr ⟨"HerOrders", List.mem_of_getElem? (i := 98) (by decide +kernel)⟩⟩
set_option maxRecDepth 100000 in
theorem fl_wy_34 : sm_FL "HerOrders$Ways" 34 2 1 := ⟨RX2, TX2, 2, rfl, by decide, rfl, sm_inX2, Or.inr ⟨"HerOrders", List.mem_of_getElem? (i := 102) (by decide +kernel)⟩⟩
set_option maxRecDepth 100000 in
theorem mq_wy_40 : Cond.methodLink "HerOrders$Ways" 40 Lib.Math.min.name ∈ lw_tbl := List.mem_of_getElem? (i := 508) (by decide +kernel)
set_option maxRecDepth 100000 in
theorem fp_wy_49 : sm_FP "HerOrders$Ways" 49 5 3 .int := ⟨RX5, TX5, 14, tyX5, rfl, by decide, rfl, sm_inX5, tyX5_ok, nmX5, rfl, by decide +kernel, Or.inl (List.mem_of_getElem? (i := 207) (by decide +kernel))⟩
set_option maxRecDepth 100000 in
theorem fp_td_23 : sm_FP "HerOrders$Told" 23 3 1 .long := ⟨RX3, TX3, 5, tyX3, rfl, by decide, rfl, sm_inX3, tyX3_ok, nmX3, rfl, by decide +kernel, Or.inl (List.mem_of_getElem? (i := 285) (by decide +kernel))⟩
set_option maxRecDepth 100000 in
theorem fp_td_9 : sm_FP "HerOrders$Told" 9 3 2 .long := ⟨RX3, TX3, 5, tyX3, rfl, by decide, rfl, sm_inX3, tyX3_ok, nmX3, rfl, by decide +kernel, Or.inl (List.mem_of_getElem? (i := 287) (by decide +kernel))⟩
set_option maxRecDepth 100000 in
theorem ml_wy_114 : sm_ML "HerOrders$Ways" 114 ⟨"HerOrders$Ways", "fullWays", "()I"⟩ := Or.inl (List.mem_of_getElem? (i := 553) (by decide +kernel))
set_option maxRecDepth 100000 in
theorem ml_ho_192 : sm_ML "HerOrders" 192 ⟨"HerOrders", "refusalOfWords", "(II)I"⟩ := Or.inl (List.mem_of_getElem? (i := 495) (by decide +kernel))
set_option maxRecDepth 100000 in
theorem fl_ho_40 : sm_FL "HerOrders" 40 6 4 := ⟨RX6, TX6, 7, rfl, by decide, rfl, sm_inX6, Or.inl (List.mem_of_getElem? (i := 306) (by decide +kernel))⟩
set_option maxRecDepth 100000 in
theorem ml_ho_195 : sm_ML "HerOrders" 195 ⟨"HerOrders$Ways", "runWords", "(LHerOrders$Row;I)V"⟩ := Or.inr ⟨"HerOrders", List.mem_of_getElem? (i := 504) (by decide +kernel)⟩
set_option maxRecDepth 100000 in
theorem ml_ho_199 : sm_ML "HerOrders" 199 ⟨"HerOrders$Ways", "fullWays", "()I"⟩ := Or.inr ⟨"HerOrders", List.mem_of_getElem? (i := 541) (by decide +kernel)⟩
set_option maxRecDepth 100000 in
theorem ml_ho_203 : sm_ML "HerOrders" 203 ⟨"HerOrders$Told", "share", "(JJ)V"⟩ := Or.inr ⟨"HerOrders", List.mem_of_getElem? (i := 545) (by decide +kernel)⟩
set_option maxRecDepth 100000 in
theorem ml_ho_207 : sm_ML "HerOrders" 207 ⟨"HerOrders$Ways", "inAll", "()I"⟩ := Or.inr ⟨"HerOrders", List.mem_of_getElem? (i := 549) (by decide +kernel)⟩
set_option maxRecDepth 100000 in
theorem fl_ho_300 : sm_FL "HerOrders" 300 3 1 := ⟨RX3, TX3, 5, rfl, by decide, rfl, sm_inX3, Or.inr ⟨"HerOrders", List.mem_of_getElem? (i := 286) (by decide +kernel)⟩⟩
set_option maxRecDepth 100000 in
theorem ml_ho_222 : sm_ML "HerOrders" 222 ⟨"HerOrders$Ways", "farthest", "()I"⟩ := Or.inr ⟨"HerOrders", List.mem_of_getElem? (i := 567) (by decide +kernel)⟩
set_option maxRecDepth 100000 in
theorem fl_ho_225 : sm_FL "HerOrders" 225 5 5 := ⟨RX5, TX5, 14, rfl, by decide, rfl, sm_inX5, Or.inr ⟨"HerOrders", List.mem_of_getElem? (i := 211) (by decide +kernel)⟩⟩
set_option maxRecDepth 100000 in
theorem ml_rw_28 : sm_ML "HerOrders$Row" 28 ⟨"HerOrders$Row", "begin", "(II)V"⟩ := Or.inl (List.mem_of_getElem? (i := 562) (by decide +kernel))
set_option maxRecDepth 100000 in
theorem fl_ho_210 : sm_FL "HerOrders" 210 5 7 := ⟨RX5, TX5, 14, rfl, by decide, rfl, sm_inX5, Or.inr ⟨"HerOrders", List.mem_of_getElem? (i := 214) (by decide +kernel)⟩⟩
set_option maxRecDepth 100000 in
theorem fl_ho_213 : sm_FL "HerOrders" 213 5 3 := ⟨RX5, TX5, 14, rfl, by decide, rfl, sm_inX5, Or.inr ⟨"HerOrders", List.mem_of_getElem? (i := 208) (by decide +kernel)⟩⟩
set_option maxRecDepth 100000 in
theorem ml_ho_216 : sm_ML "HerOrders" 216 ⟨"HerOrders$Row", "become", "([II)V"⟩ := Or.inr ⟨"HerOrders", List.mem_of_getElem? (i := 558) (by decide +kernel)⟩
set_option maxRecDepth 100000 in
theorem fl_ho_219 : sm_FL "HerOrders" 219 5 8 := ⟨RX5, TX5, 14, rfl, by decide, rfl, sm_inX5, Or.inr ⟨"HerOrders", List.mem_of_getElem? (i := 216) (by decide +kernel)⟩⟩
set_option maxRecDepth 100000 in
theorem ml_la_117 : sm_ML "HerOrdersLaw" 117 ⟨"HerOrders", "lay", "(III)I"⟩ := Or.inl (List.mem_of_getElem? (i := 346) (by decide +kernel))
set_option maxRecDepth 100000 in
theorem fl_tr_9 : sm_FL "HerOrders$Trials" 9 4 0 := ⟨RX4, TX4, 5, rfl, by decide, rfl, sm_inX4, Or.inl (List.mem_of_getElem? (i := 260) (by decide +kernel))⟩
set_option maxRecDepth 100000 in
theorem fl_tr_29 : sm_FL "HerOrders$Trials" 29 1 0 := ⟨RX1, TX1, 13, rfl, by decide, rfl, sm_inX1, Or.inr ⟨"HerOrders", List.mem_of_getElem? (i := 146) (by decide +kernel)⟩⟩
set_option maxRecDepth 100000 in
theorem fl_tr_15 : sm_FL "HerOrders$Trials" 15 4 1 := ⟨RX4, TX4, 5, rfl, by decide, rfl, sm_inX4, Or.inl (List.mem_of_getElem? (i := 261) (by decide +kernel))⟩
set_option maxRecDepth 100000 in
theorem ml_tr_35 : sm_ML "HerOrders$Trials" 35 ⟨"HerOrders$House", "can", "(II)Z"⟩ := Or.inr ⟨"HerOrders", List.mem_of_getElem? (i := 583) (by decide +kernel)⟩
set_option maxRecDepth 100000 in
theorem ml_tr_38 : sm_ML "HerOrders$Trials" 38 ⟨"HerOrders$House", "push", "(II)V"⟩ := Or.inr ⟨"HerOrders", List.mem_of_getElem? (i := 584) (by decide +kernel)⟩
set_option maxRecDepth 100000 in
theorem ml_tr_25 : sm_ML "HerOrders$Trials" 25 ⟨"HerOrders$Trials", "hasWay", "(II)Z"⟩ := Or.inl (List.mem_of_getElem? (i := 579) (by decide +kernel))
set_option maxRecDepth 100000 in
theorem ml_tr_42 : sm_ML "HerOrders$Trials" 42 ⟨"HerOrders$House", "pop", "()V"⟩ := Or.inr ⟨"HerOrders", List.mem_of_getElem? (i := 585) (by decide +kernel)⟩
set_option maxRecDepth 100000 in
theorem fl_ho_47 : sm_FL "HerOrders" 47 6 5 := ⟨RX6, TX6, 7, rfl, by decide, rfl, sm_inX6, Or.inl (List.mem_of_getElem? (i := 307) (by decide +kernel))⟩
set_option maxRecDepth 100000 in
theorem ml_ho_228 : sm_ML "HerOrders" 228 ⟨"HerOrders$Trials", "firstDumb", "(I)I"⟩ := Or.inr ⟨"HerOrders", List.mem_of_getElem? (i := 575) (by decide +kernel)⟩
abbrev mi_ig_bitCount : sm_MI := (⟨"java/lang/Integer", "bitCount", "(I)I"⟩, prog_10_method_49_code, 1, (some .int), 1)
set_option maxRecDepth 100000 in
theorem mf_ig_bitCount : sm_MF mi_ig_bitCount 1 := ⟨List.mem_of_getElem? (i := 524) (by decide +kernel), List.mem_of_getElem? (i := 77) (by decide +kernel), ⟨by decide, by decide⟩, by decide +kernel⟩
set_option maxRecDepth 100000 in
theorem mv_ig_bitCount : sm_MFS mi_ig_bitCount := List.mem_of_getElem? (i := 523) (by decide +kernel)
set_option maxRecDepth 100000 in
theorem ii_ig_bitCount_0 : sm_D prog_10_method_49_code 0 1 1 (.iload_n 0) := ⟨by decide +kernel, rfl⟩
set_option maxRecDepth 100000 in
theorem ii_ig_bitCount_1 : sm_D prog_10_method_49_code 1 1 2 (.iload_n 0) := ⟨by decide +kernel, rfl⟩
set_option maxRecDepth 100000 in
theorem ii_ig_bitCount_2 : sm_D prog_10_method_49_code 2 1 3 (.iconst 1) := ⟨by decide +kernel, rfl⟩
set_option maxRecDepth 100000 in
theorem ii_ig_bitCount_3 : sm_D prog_10_method_49_code 3 1 4 (.iushr) := ⟨by decide +kernel, rfl⟩
set_option maxRecDepth 100000 in
theorem ii_ig_bitCount_4 : sm_D prog_10_method_49_code 4 3 7 (.ldc_w 265) := ⟨by decide +kernel, rfl⟩
set_option maxRecDepth 100000 in
theorem ii_ig_bitCount_7 : sm_D prog_10_method_49_code 7 1 8 (.iand) := ⟨by decide +kernel, rfl⟩
set_option maxRecDepth 100000 in
theorem ii_ig_bitCount_8 : sm_D prog_10_method_49_code 8 1 9 (.isub) := ⟨by decide +kernel, rfl⟩
set_option maxRecDepth 100000 in
theorem ii_ig_bitCount_9 : sm_D prog_10_method_49_code 9 1 10 (.istore_n 0) := ⟨by decide +kernel, rfl⟩
set_option maxRecDepth 100000 in
theorem ii_ig_bitCount_10 : sm_D prog_10_method_49_code 10 1 11 (.iload_n 0) := ⟨by decide +kernel, rfl⟩
set_option maxRecDepth 100000 in
theorem ii_ig_bitCount_11 : sm_D prog_10_method_49_code 11 3 14 (.ldc_w 266) := ⟨by decide +kernel, rfl⟩
set_option maxRecDepth 100000 in
theorem ii_ig_bitCount_14 : sm_D prog_10_method_49_code 14 1 15 (.iand) := ⟨by decide +kernel, rfl⟩
set_option maxRecDepth 100000 in
theorem ii_ig_bitCount_15 : sm_D prog_10_method_49_code 15 1 16 (.iload_n 0) := ⟨by decide +kernel, rfl⟩
set_option maxRecDepth 100000 in
theorem ii_ig_bitCount_16 : sm_D prog_10_method_49_code 16 1 17 (.iconst 2) := ⟨by decide +kernel, rfl⟩
set_option maxRecDepth 100000 in
theorem ii_ig_bitCount_17 : sm_D prog_10_method_49_code 17 1 18 (.iushr) := ⟨by decide +kernel, rfl⟩
set_option maxRecDepth 100000 in
theorem ii_ig_bitCount_18 : sm_D prog_10_method_49_code 18 3 21 (.ldc_w 266) := ⟨by decide +kernel, rfl⟩
set_option maxRecDepth 100000 in
theorem ii_ig_bitCount_21 : sm_D prog_10_method_49_code 21 1 22 (.iand) := ⟨by decide +kernel, rfl⟩
set_option maxRecDepth 100000 in
theorem ii_ig_bitCount_22 : sm_D prog_10_method_49_code 22 1 23 (.iadd) := ⟨by decide +kernel, rfl⟩
set_option maxRecDepth 100000 in
theorem ii_ig_bitCount_23 : sm_D prog_10_method_49_code 23 1 24 (.istore_n 0) := ⟨by decide +kernel, rfl⟩
set_option maxRecDepth 100000 in
theorem ii_ig_bitCount_24 : sm_D prog_10_method_49_code 24 1 25 (.iload_n 0) := ⟨by decide +kernel, rfl⟩
set_option maxRecDepth 100000 in
theorem ii_ig_bitCount_25 : sm_D prog_10_method_49_code 25 1 26 (.iload_n 0) := ⟨by decide +kernel, rfl⟩
set_option maxRecDepth 100000 in
theorem ii_ig_bitCount_26 : sm_D prog_10_method_49_code 26 1 27 (.iconst 4) := ⟨by decide +kernel, rfl⟩
set_option maxRecDepth 100000 in
theorem ii_ig_bitCount_27 : sm_D prog_10_method_49_code 27 1 28 (.iushr) := ⟨by decide +kernel, rfl⟩
set_option maxRecDepth 100000 in
theorem ii_ig_bitCount_28 : sm_D prog_10_method_49_code 28 1 29 (.iadd) := ⟨by decide +kernel, rfl⟩
set_option maxRecDepth 100000 in
theorem ii_ig_bitCount_29 : sm_D prog_10_method_49_code 29 3 32 (.ldc_w 267) := ⟨by decide +kernel, rfl⟩
set_option maxRecDepth 100000 in
theorem ii_ig_bitCount_32 : sm_D prog_10_method_49_code 32 1 33 (.iand) := ⟨by decide +kernel, rfl⟩
set_option maxRecDepth 100000 in
theorem ii_ig_bitCount_33 : sm_D prog_10_method_49_code 33 1 34 (.istore_n 0) := ⟨by decide +kernel, rfl⟩
set_option maxRecDepth 100000 in
theorem ii_ig_bitCount_34 : sm_D prog_10_method_49_code 34 1 35 (.iload_n 0) := ⟨by decide +kernel, rfl⟩
set_option maxRecDepth 100000 in
theorem ii_ig_bitCount_35 : sm_D prog_10_method_49_code 35 1 36 (.iload_n 0) := ⟨by decide +kernel, rfl⟩
set_option maxRecDepth 100000 in
theorem ii_ig_bitCount_36 : sm_D prog_10_method_49_code 36 2 38 (.bipush 8) := ⟨by decide +kernel, rfl⟩
set_option maxRecDepth 100000 in
theorem ii_ig_bitCount_38 : sm_D prog_10_method_49_code 38 1 39 (.iushr) := ⟨by decide +kernel, rfl⟩
set_option maxRecDepth 100000 in
theorem ii_ig_bitCount_39 : sm_D prog_10_method_49_code 39 1 40 (.iadd) := ⟨by decide +kernel, rfl⟩
set_option maxRecDepth 100000 in
theorem ii_ig_bitCount_40 : sm_D prog_10_method_49_code 40 1 41 (.istore_n 0) := ⟨by decide +kernel, rfl⟩
set_option maxRecDepth 100000 in
theorem ii_ig_bitCount_41 : sm_D prog_10_method_49_code 41 1 42 (.iload_n 0) := ⟨by decide +kernel, rfl⟩
set_option maxRecDepth 100000 in
theorem ii_ig_bitCount_42 : sm_D prog_10_method_49_code 42 1 43 (.iload_n 0) := ⟨by decide +kernel, rfl⟩
set_option maxRecDepth 100000 in
theorem ii_ig_bitCount_43 : sm_D prog_10_method_49_code 43 2 45 (.bipush 16) := ⟨by decide +kernel, rfl⟩
set_option maxRecDepth 100000 in
theorem ii_ig_bitCount_45 : sm_D prog_10_method_49_code 45 1 46 (.iushr) := ⟨by decide +kernel, rfl⟩
set_option maxRecDepth 100000 in
theorem ii_ig_bitCount_46 : sm_D prog_10_method_49_code 46 1 47 (.iadd) := ⟨by decide +kernel, rfl⟩
set_option maxRecDepth 100000 in
theorem ii_ig_bitCount_47 : sm_D prog_10_method_49_code 47 1 48 (.istore_n 0) := ⟨by decide +kernel, rfl⟩
set_option maxRecDepth 100000 in
theorem ii_ig_bitCount_48 : sm_D prog_10_method_49_code 48 1 49 (.iload_n 0) := ⟨by decide +kernel, rfl⟩
set_option maxRecDepth 100000 in
theorem ii_ig_bitCount_49 : sm_D prog_10_method_49_code 49 2 51 (.bipush 63) := ⟨by decide +kernel, rfl⟩
set_option maxRecDepth 100000 in
theorem ii_ig_bitCount_51 : sm_D prog_10_method_49_code 51 1 52 (.iand) := ⟨by decide +kernel, rfl⟩
set_option maxRecDepth 100000 in
theorem ii_ig_bitCount_52 : sm_D prog_10_method_49_code 52 1 53 (.ireturn) := ⟨by decide +kernel, rfl⟩
noncomputable def ff_ig_bitCount  (a0 : Int32) (w : sm_Mem) : sm_R := (some (.int ((((((((a0 - (((Int32.toUInt32 a0 >>> (Int32.toUInt32 (1 : Int32) &&& Int32.toUInt32 31)).toInt32) &&& (1431655765 : Int32))) &&& (858993459 : Int32)) + (((Int32.toUInt32 (a0 - (((Int32.toUInt32 a0 >>> (Int32.toUInt32 (1 : Int32) &&& Int32.toUInt32 31)).toInt32) &&& (1431655765 : Int32))) >>> (Int32.toUInt32 (2 : Int32) &&& Int32.toUInt32 31)).toInt32) &&& (858993459 : Int32))) + ((Int32.toUInt32 (((a0 - (((Int32.toUInt32 a0 >>> (Int32.toUInt32 (1 : Int32) &&& Int32.toUInt32 31)).toInt32) &&& (1431655765 : Int32))) &&& (858993459 : Int32)) + (((Int32.toUInt32 (a0 - (((Int32.toUInt32 a0 >>> (Int32.toUInt32 (1 : Int32) &&& Int32.toUInt32 31)).toInt32) &&& (1431655765 : Int32))) >>> (Int32.toUInt32 (2 : Int32) &&& Int32.toUInt32 31)).toInt32) &&& (858993459 : Int32))) >>> (Int32.toUInt32 (4 : Int32) &&& Int32.toUInt32 31)).toInt32)) &&& (252645135 : Int32)) + ((Int32.toUInt32 (((((a0 - (((Int32.toUInt32 a0 >>> (Int32.toUInt32 (1 : Int32) &&& Int32.toUInt32 31)).toInt32) &&& (1431655765 : Int32))) &&& (858993459 : Int32)) + (((Int32.toUInt32 (a0 - (((Int32.toUInt32 a0 >>> (Int32.toUInt32 (1 : Int32) &&& Int32.toUInt32 31)).toInt32) &&& (1431655765 : Int32))) >>> (Int32.toUInt32 (2 : Int32) &&& Int32.toUInt32 31)).toInt32) &&& (858993459 : Int32))) + ((Int32.toUInt32 (((a0 - (((Int32.toUInt32 a0 >>> (Int32.toUInt32 (1 : Int32) &&& Int32.toUInt32 31)).toInt32) &&& (1431655765 : Int32))) &&& (858993459 : Int32)) + (((Int32.toUInt32 (a0 - (((Int32.toUInt32 a0 >>> (Int32.toUInt32 (1 : Int32) &&& Int32.toUInt32 31)).toInt32) &&& (1431655765 : Int32))) >>> (Int32.toUInt32 (2 : Int32) &&& Int32.toUInt32 31)).toInt32) &&& (858993459 : Int32))) >>> (Int32.toUInt32 (4 : Int32) &&& Int32.toUInt32 31)).toInt32)) &&& (252645135 : Int32)) >>> (Int32.toUInt32 (8 : Int32) &&& Int32.toUInt32 31)).toInt32)) + ((Int32.toUInt32 ((((((a0 - (((Int32.toUInt32 a0 >>> (Int32.toUInt32 (1 : Int32) &&& Int32.toUInt32 31)).toInt32) &&& (1431655765 : Int32))) &&& (858993459 : Int32)) + (((Int32.toUInt32 (a0 - (((Int32.toUInt32 a0 >>> (Int32.toUInt32 (1 : Int32) &&& Int32.toUInt32 31)).toInt32) &&& (1431655765 : Int32))) >>> (Int32.toUInt32 (2 : Int32) &&& Int32.toUInt32 31)).toInt32) &&& (858993459 : Int32))) + ((Int32.toUInt32 (((a0 - (((Int32.toUInt32 a0 >>> (Int32.toUInt32 (1 : Int32) &&& Int32.toUInt32 31)).toInt32) &&& (1431655765 : Int32))) &&& (858993459 : Int32)) + (((Int32.toUInt32 (a0 - (((Int32.toUInt32 a0 >>> (Int32.toUInt32 (1 : Int32) &&& Int32.toUInt32 31)).toInt32) &&& (1431655765 : Int32))) >>> (Int32.toUInt32 (2 : Int32) &&& Int32.toUInt32 31)).toInt32) &&& (858993459 : Int32))) >>> (Int32.toUInt32 (4 : Int32) &&& Int32.toUInt32 31)).toInt32)) &&& (252645135 : Int32)) + ((Int32.toUInt32 (((((a0 - (((Int32.toUInt32 a0 >>> (Int32.toUInt32 (1 : Int32) &&& Int32.toUInt32 31)).toInt32) &&& (1431655765 : Int32))) &&& (858993459 : Int32)) + (((Int32.toUInt32 (a0 - (((Int32.toUInt32 a0 >>> (Int32.toUInt32 (1 : Int32) &&& Int32.toUInt32 31)).toInt32) &&& (1431655765 : Int32))) >>> (Int32.toUInt32 (2 : Int32) &&& Int32.toUInt32 31)).toInt32) &&& (858993459 : Int32))) + ((Int32.toUInt32 (((a0 - (((Int32.toUInt32 a0 >>> (Int32.toUInt32 (1 : Int32) &&& Int32.toUInt32 31)).toInt32) &&& (1431655765 : Int32))) &&& (858993459 : Int32)) + (((Int32.toUInt32 (a0 - (((Int32.toUInt32 a0 >>> (Int32.toUInt32 (1 : Int32) &&& Int32.toUInt32 31)).toInt32) &&& (1431655765 : Int32))) >>> (Int32.toUInt32 (2 : Int32) &&& Int32.toUInt32 31)).toInt32) &&& (858993459 : Int32))) >>> (Int32.toUInt32 (4 : Int32) &&& Int32.toUInt32 31)).toInt32)) &&& (252645135 : Int32)) >>> (Int32.toUInt32 (8 : Int32) &&& Int32.toUInt32 31)).toInt32)) >>> (Int32.toUInt32 (16 : Int32) &&& Int32.toUInt32 31)).toInt32)) &&& (63 : Int32)), w))
set_option maxHeartbeats 4000000 in
set_option maxRecDepth 100000 in
theorem ss_ig_bitCount_0 {E : Nat × (Nat → Int32)}  (a0 : Int32) (w : sm_Mem) : sm_Sim E (mi_ig_bitCount) 0 [some (.int a0)] [] w (ff_ig_bitCount  a0 w) := by
  unfold ff_ig_bitCount
  refine sm_iload_n ii_ig_bitCount_0 rfl ?_
  refine sm_iload_n ii_ig_bitCount_1 rfl ?_
  refine sm_iconst (1 : Int32) ii_ig_bitCount_2 (by decide) ?_
  refine sm_iushr ii_ig_bitCount_3 ?_
  refine sm_ldcw (1431655765 : Int32) ii_ig_bitCount_4 (List.mem_of_getElem? (i := 525) (by decide +kernel)) ?_
  refine sm_iand ii_ig_bitCount_7 ?_
  refine sm_isub ii_ig_bitCount_8 ?_
  refine sm_istore_n [some (.int (a0 - (((Int32.toUInt32 a0 >>> (Int32.toUInt32 (1 : Int32) &&& Int32.toUInt32 31)).toInt32) &&& (1431655765 : Int32))))] ii_ig_bitCount_9 rfl rfl ?_
  refine sm_iload_n ii_ig_bitCount_10 rfl ?_
  refine sm_ldcw (858993459 : Int32) ii_ig_bitCount_11 (List.mem_of_getElem? (i := 526) (by decide +kernel)) ?_
  refine sm_iand ii_ig_bitCount_14 ?_
  refine sm_iload_n ii_ig_bitCount_15 rfl ?_
  refine sm_iconst (2 : Int32) ii_ig_bitCount_16 (by decide) ?_
  refine sm_iushr ii_ig_bitCount_17 ?_
  refine sm_ldcw (858993459 : Int32) ii_ig_bitCount_18 (List.mem_of_getElem? (i := 526) (by decide +kernel)) ?_
  refine sm_iand ii_ig_bitCount_21 ?_
  refine sm_iadd ii_ig_bitCount_22 ?_
  refine sm_istore_n [some (.int (((a0 - (((Int32.toUInt32 a0 >>> (Int32.toUInt32 (1 : Int32) &&& Int32.toUInt32 31)).toInt32) &&& (1431655765 : Int32))) &&& (858993459 : Int32)) + (((Int32.toUInt32 (a0 - (((Int32.toUInt32 a0 >>> (Int32.toUInt32 (1 : Int32) &&& Int32.toUInt32 31)).toInt32) &&& (1431655765 : Int32))) >>> (Int32.toUInt32 (2 : Int32) &&& Int32.toUInt32 31)).toInt32) &&& (858993459 : Int32))))] ii_ig_bitCount_23 rfl rfl ?_
  refine sm_iload_n ii_ig_bitCount_24 rfl ?_
  refine sm_iload_n ii_ig_bitCount_25 rfl ?_
  refine sm_iconst (4 : Int32) ii_ig_bitCount_26 (by decide) ?_
  refine sm_iushr ii_ig_bitCount_27 ?_
  refine sm_iadd ii_ig_bitCount_28 ?_
  refine sm_ldcw (252645135 : Int32) ii_ig_bitCount_29 (List.mem_of_getElem? (i := 527) (by decide +kernel)) ?_
  refine sm_iand ii_ig_bitCount_32 ?_
  refine sm_istore_n [some (.int (((((a0 - (((Int32.toUInt32 a0 >>> (Int32.toUInt32 (1 : Int32) &&& Int32.toUInt32 31)).toInt32) &&& (1431655765 : Int32))) &&& (858993459 : Int32)) + (((Int32.toUInt32 (a0 - (((Int32.toUInt32 a0 >>> (Int32.toUInt32 (1 : Int32) &&& Int32.toUInt32 31)).toInt32) &&& (1431655765 : Int32))) >>> (Int32.toUInt32 (2 : Int32) &&& Int32.toUInt32 31)).toInt32) &&& (858993459 : Int32))) + ((Int32.toUInt32 (((a0 - (((Int32.toUInt32 a0 >>> (Int32.toUInt32 (1 : Int32) &&& Int32.toUInt32 31)).toInt32) &&& (1431655765 : Int32))) &&& (858993459 : Int32)) + (((Int32.toUInt32 (a0 - (((Int32.toUInt32 a0 >>> (Int32.toUInt32 (1 : Int32) &&& Int32.toUInt32 31)).toInt32) &&& (1431655765 : Int32))) >>> (Int32.toUInt32 (2 : Int32) &&& Int32.toUInt32 31)).toInt32) &&& (858993459 : Int32))) >>> (Int32.toUInt32 (4 : Int32) &&& Int32.toUInt32 31)).toInt32)) &&& (252645135 : Int32)))] ii_ig_bitCount_33 rfl rfl ?_
  refine sm_iload_n ii_ig_bitCount_34 rfl ?_
  refine sm_iload_n ii_ig_bitCount_35 rfl ?_
  refine sm_bipush (8 : Int32) ii_ig_bitCount_36 (by decide) ?_
  refine sm_iushr ii_ig_bitCount_38 ?_
  refine sm_iadd ii_ig_bitCount_39 ?_
  refine sm_istore_n [some (.int ((((((a0 - (((Int32.toUInt32 a0 >>> (Int32.toUInt32 (1 : Int32) &&& Int32.toUInt32 31)).toInt32) &&& (1431655765 : Int32))) &&& (858993459 : Int32)) + (((Int32.toUInt32 (a0 - (((Int32.toUInt32 a0 >>> (Int32.toUInt32 (1 : Int32) &&& Int32.toUInt32 31)).toInt32) &&& (1431655765 : Int32))) >>> (Int32.toUInt32 (2 : Int32) &&& Int32.toUInt32 31)).toInt32) &&& (858993459 : Int32))) + ((Int32.toUInt32 (((a0 - (((Int32.toUInt32 a0 >>> (Int32.toUInt32 (1 : Int32) &&& Int32.toUInt32 31)).toInt32) &&& (1431655765 : Int32))) &&& (858993459 : Int32)) + (((Int32.toUInt32 (a0 - (((Int32.toUInt32 a0 >>> (Int32.toUInt32 (1 : Int32) &&& Int32.toUInt32 31)).toInt32) &&& (1431655765 : Int32))) >>> (Int32.toUInt32 (2 : Int32) &&& Int32.toUInt32 31)).toInt32) &&& (858993459 : Int32))) >>> (Int32.toUInt32 (4 : Int32) &&& Int32.toUInt32 31)).toInt32)) &&& (252645135 : Int32)) + ((Int32.toUInt32 (((((a0 - (((Int32.toUInt32 a0 >>> (Int32.toUInt32 (1 : Int32) &&& Int32.toUInt32 31)).toInt32) &&& (1431655765 : Int32))) &&& (858993459 : Int32)) + (((Int32.toUInt32 (a0 - (((Int32.toUInt32 a0 >>> (Int32.toUInt32 (1 : Int32) &&& Int32.toUInt32 31)).toInt32) &&& (1431655765 : Int32))) >>> (Int32.toUInt32 (2 : Int32) &&& Int32.toUInt32 31)).toInt32) &&& (858993459 : Int32))) + ((Int32.toUInt32 (((a0 - (((Int32.toUInt32 a0 >>> (Int32.toUInt32 (1 : Int32) &&& Int32.toUInt32 31)).toInt32) &&& (1431655765 : Int32))) &&& (858993459 : Int32)) + (((Int32.toUInt32 (a0 - (((Int32.toUInt32 a0 >>> (Int32.toUInt32 (1 : Int32) &&& Int32.toUInt32 31)).toInt32) &&& (1431655765 : Int32))) >>> (Int32.toUInt32 (2 : Int32) &&& Int32.toUInt32 31)).toInt32) &&& (858993459 : Int32))) >>> (Int32.toUInt32 (4 : Int32) &&& Int32.toUInt32 31)).toInt32)) &&& (252645135 : Int32)) >>> (Int32.toUInt32 (8 : Int32) &&& Int32.toUInt32 31)).toInt32)))] ii_ig_bitCount_40 rfl rfl ?_
  refine sm_iload_n ii_ig_bitCount_41 rfl ?_
  refine sm_iload_n ii_ig_bitCount_42 rfl ?_
  refine sm_bipush (16 : Int32) ii_ig_bitCount_43 (by decide) ?_
  refine sm_iushr ii_ig_bitCount_45 ?_
  refine sm_iadd ii_ig_bitCount_46 ?_
  refine sm_istore_n [some (.int (((((((a0 - (((Int32.toUInt32 a0 >>> (Int32.toUInt32 (1 : Int32) &&& Int32.toUInt32 31)).toInt32) &&& (1431655765 : Int32))) &&& (858993459 : Int32)) + (((Int32.toUInt32 (a0 - (((Int32.toUInt32 a0 >>> (Int32.toUInt32 (1 : Int32) &&& Int32.toUInt32 31)).toInt32) &&& (1431655765 : Int32))) >>> (Int32.toUInt32 (2 : Int32) &&& Int32.toUInt32 31)).toInt32) &&& (858993459 : Int32))) + ((Int32.toUInt32 (((a0 - (((Int32.toUInt32 a0 >>> (Int32.toUInt32 (1 : Int32) &&& Int32.toUInt32 31)).toInt32) &&& (1431655765 : Int32))) &&& (858993459 : Int32)) + (((Int32.toUInt32 (a0 - (((Int32.toUInt32 a0 >>> (Int32.toUInt32 (1 : Int32) &&& Int32.toUInt32 31)).toInt32) &&& (1431655765 : Int32))) >>> (Int32.toUInt32 (2 : Int32) &&& Int32.toUInt32 31)).toInt32) &&& (858993459 : Int32))) >>> (Int32.toUInt32 (4 : Int32) &&& Int32.toUInt32 31)).toInt32)) &&& (252645135 : Int32)) + ((Int32.toUInt32 (((((a0 - (((Int32.toUInt32 a0 >>> (Int32.toUInt32 (1 : Int32) &&& Int32.toUInt32 31)).toInt32) &&& (1431655765 : Int32))) &&& (858993459 : Int32)) + (((Int32.toUInt32 (a0 - (((Int32.toUInt32 a0 >>> (Int32.toUInt32 (1 : Int32) &&& Int32.toUInt32 31)).toInt32) &&& (1431655765 : Int32))) >>> (Int32.toUInt32 (2 : Int32) &&& Int32.toUInt32 31)).toInt32) &&& (858993459 : Int32))) + ((Int32.toUInt32 (((a0 - (((Int32.toUInt32 a0 >>> (Int32.toUInt32 (1 : Int32) &&& Int32.toUInt32 31)).toInt32) &&& (1431655765 : Int32))) &&& (858993459 : Int32)) + (((Int32.toUInt32 (a0 - (((Int32.toUInt32 a0 >>> (Int32.toUInt32 (1 : Int32) &&& Int32.toUInt32 31)).toInt32) &&& (1431655765 : Int32))) >>> (Int32.toUInt32 (2 : Int32) &&& Int32.toUInt32 31)).toInt32) &&& (858993459 : Int32))) >>> (Int32.toUInt32 (4 : Int32) &&& Int32.toUInt32 31)).toInt32)) &&& (252645135 : Int32)) >>> (Int32.toUInt32 (8 : Int32) &&& Int32.toUInt32 31)).toInt32)) + ((Int32.toUInt32 ((((((a0 - (((Int32.toUInt32 a0 >>> (Int32.toUInt32 (1 : Int32) &&& Int32.toUInt32 31)).toInt32) &&& (1431655765 : Int32))) &&& (858993459 : Int32)) + (((Int32.toUInt32 (a0 - (((Int32.toUInt32 a0 >>> (Int32.toUInt32 (1 : Int32) &&& Int32.toUInt32 31)).toInt32) &&& (1431655765 : Int32))) >>> (Int32.toUInt32 (2 : Int32) &&& Int32.toUInt32 31)).toInt32) &&& (858993459 : Int32))) + ((Int32.toUInt32 (((a0 - (((Int32.toUInt32 a0 >>> (Int32.toUInt32 (1 : Int32) &&& Int32.toUInt32 31)).toInt32) &&& (1431655765 : Int32))) &&& (858993459 : Int32)) + (((Int32.toUInt32 (a0 - (((Int32.toUInt32 a0 >>> (Int32.toUInt32 (1 : Int32) &&& Int32.toUInt32 31)).toInt32) &&& (1431655765 : Int32))) >>> (Int32.toUInt32 (2 : Int32) &&& Int32.toUInt32 31)).toInt32) &&& (858993459 : Int32))) >>> (Int32.toUInt32 (4 : Int32) &&& Int32.toUInt32 31)).toInt32)) &&& (252645135 : Int32)) + ((Int32.toUInt32 (((((a0 - (((Int32.toUInt32 a0 >>> (Int32.toUInt32 (1 : Int32) &&& Int32.toUInt32 31)).toInt32) &&& (1431655765 : Int32))) &&& (858993459 : Int32)) + (((Int32.toUInt32 (a0 - (((Int32.toUInt32 a0 >>> (Int32.toUInt32 (1 : Int32) &&& Int32.toUInt32 31)).toInt32) &&& (1431655765 : Int32))) >>> (Int32.toUInt32 (2 : Int32) &&& Int32.toUInt32 31)).toInt32) &&& (858993459 : Int32))) + ((Int32.toUInt32 (((a0 - (((Int32.toUInt32 a0 >>> (Int32.toUInt32 (1 : Int32) &&& Int32.toUInt32 31)).toInt32) &&& (1431655765 : Int32))) &&& (858993459 : Int32)) + (((Int32.toUInt32 (a0 - (((Int32.toUInt32 a0 >>> (Int32.toUInt32 (1 : Int32) &&& Int32.toUInt32 31)).toInt32) &&& (1431655765 : Int32))) >>> (Int32.toUInt32 (2 : Int32) &&& Int32.toUInt32 31)).toInt32) &&& (858993459 : Int32))) >>> (Int32.toUInt32 (4 : Int32) &&& Int32.toUInt32 31)).toInt32)) &&& (252645135 : Int32)) >>> (Int32.toUInt32 (8 : Int32) &&& Int32.toUInt32 31)).toInt32)) >>> (Int32.toUInt32 (16 : Int32) &&& Int32.toUInt32 31)).toInt32)))] ii_ig_bitCount_47 rfl rfl ?_
  refine sm_iload_n ii_ig_bitCount_48 rfl ?_
  refine sm_bipush (63 : Int32) ii_ig_bitCount_49 (by decide) ?_
  refine sm_iand ii_ig_bitCount_51 ?_
  exact sm_iret ii_ig_bitCount_52 rfl
set_option maxHeartbeats 4000000 in
set_option maxRecDepth 100000 in
theorem mc_ig_bitCount {E : Nat × (Nat → Int32)} (a0 : Int32) (w : sm_Mem) : sm_MC E mi_ig_bitCount [.int a0] w (ff_ig_bitCount a0 w) := sm_MC_of E (by decide +kernel) rfl (Nat.le_of_ble_eq_true rfl) (ss_ig_bitCount_0 a0 w)
abbrev mi_wy_isLess : sm_MI := (⟨"HerOrders$Ways", "isLess", "(II)Z"⟩, prog_7_method_8_code, 4, (some .boolean), 2)
set_option maxRecDepth 100000 in
theorem mf_wy_isLess : sm_MF mi_wy_isLess 2 := ⟨List.mem_of_getElem? (i := 534) (by decide +kernel), List.mem_of_getElem? (i := 74) (by decide +kernel), ⟨by decide, by decide⟩, by decide +kernel⟩
set_option maxRecDepth 100000 in
theorem mv_wy_isLess : sm_MFS mi_wy_isLess := List.mem_of_getElem? (i := 533) (by decide +kernel)
set_option maxRecDepth 100000 in
theorem ii_wy_isLess_0 : sm_D prog_7_method_8_code 0 1 1 (.iload_n 0) := ⟨by decide +kernel, rfl⟩
set_option maxRecDepth 100000 in
theorem ii_wy_isLess_1 : sm_D prog_7_method_8_code 1 3 4 (.invokestatic 102) := ⟨by decide +kernel, rfl⟩
set_option maxRecDepth 100000 in
theorem ii_wy_isLess_4 : sm_D prog_7_method_8_code 4 1 5 (.istore_n 2) := ⟨by decide +kernel, rfl⟩
set_option maxRecDepth 100000 in
theorem ii_wy_isLess_5 : sm_D prog_7_method_8_code 5 1 6 (.iload_n 1) := ⟨by decide +kernel, rfl⟩
set_option maxRecDepth 100000 in
theorem ii_wy_isLess_6 : sm_D prog_7_method_8_code 6 3 9 (.invokestatic 102) := ⟨by decide +kernel, rfl⟩
set_option maxRecDepth 100000 in
theorem ii_wy_isLess_9 : sm_D prog_7_method_8_code 9 1 10 (.istore_n 3) := ⟨by decide +kernel, rfl⟩
set_option maxRecDepth 100000 in
theorem ii_wy_isLess_10 : sm_D prog_7_method_8_code 10 1 11 (.iload_n 2) := ⟨by decide +kernel, rfl⟩
set_option maxRecDepth 100000 in
theorem ii_wy_isLess_11 : sm_D prog_7_method_8_code 11 1 12 (.iload_n 3) := ⟨by decide +kernel, rfl⟩
set_option maxRecDepth 100000 in
theorem ii_wy_isLess_12 : sm_D prog_7_method_8_code 12 3 15 (.if_icmp .lt 13) := ⟨by decide +kernel, rfl⟩
set_option maxRecDepth 100000 in
theorem ii_wy_isLess_15 : sm_D prog_7_method_8_code 15 1 16 (.iload_n 2) := ⟨by decide +kernel, rfl⟩
set_option maxRecDepth 100000 in
theorem ii_wy_isLess_16 : sm_D prog_7_method_8_code 16 1 17 (.iload_n 3) := ⟨by decide +kernel, rfl⟩
set_option maxRecDepth 100000 in
theorem ii_wy_isLess_17 : sm_D prog_7_method_8_code 17 3 20 (.if_icmp .ne 12) := ⟨by decide +kernel, rfl⟩
set_option maxRecDepth 100000 in
theorem ii_wy_isLess_20 : sm_D prog_7_method_8_code 20 1 21 (.iload_n 0) := ⟨by decide +kernel, rfl⟩
set_option maxRecDepth 100000 in
theorem ii_wy_isLess_21 : sm_D prog_7_method_8_code 21 1 22 (.iload_n 1) := ⟨by decide +kernel, rfl⟩
set_option maxRecDepth 100000 in
theorem ii_wy_isLess_22 : sm_D prog_7_method_8_code 22 3 25 (.if_icmp .ge 7) := ⟨by decide +kernel, rfl⟩
set_option maxRecDepth 100000 in
theorem ii_wy_isLess_25 : sm_D prog_7_method_8_code 25 1 26 (.iconst 1) := ⟨by decide +kernel, rfl⟩
set_option maxRecDepth 100000 in
theorem ii_wy_isLess_26 : sm_D prog_7_method_8_code 26 3 29 (.goto 4) := ⟨by decide +kernel, rfl⟩
set_option maxRecDepth 100000 in
theorem ii_wy_isLess_29 : sm_D prog_7_method_8_code 29 1 30 (.iconst 0) := ⟨by decide +kernel, rfl⟩
set_option maxRecDepth 100000 in
theorem ii_wy_isLess_30 : sm_D prog_7_method_8_code 30 1 31 (.ireturn) := ⟨by decide +kernel, rfl⟩
noncomputable def ff_wy_isLess  (a0 : Int32) (a1 : Int32) (w : sm_Mem) : sm_R := (sm_cI (ff_ig_bitCount (a0) w) fun x1 w2 => (sm_cI (ff_ig_bitCount (a1) w2) fun x3 w4 => (if x1 < x3 then (some (.int (1 : Int32), w4)) else (if x1 = x3 then (if a1 ≤ a0 then (some (.int (0 : Int32), w4)) else (some (.int (1 : Int32), w4))) else (some (.int (0 : Int32), w4))))))
set_option maxHeartbeats 4000000 in
set_option maxRecDepth 100000 in
theorem ss_wy_isLess_0 {E : Nat × (Nat → Int32)}  (a0 : Int32) (a1 : Int32) (w : sm_Mem) : sm_Sim E (mi_wy_isLess) 0 [some (.int a0), some (.int a1), none, none] [] w (ff_wy_isLess  a0 a1 w) := by
  unfold ff_wy_isLess
  refine sm_iload_n ii_wy_isLess_0 rfl ?_
  refine sm_csI [.int a0] [] rfl ii_wy_isLess_1 ml_wy_102 (mf_ig_bitCount) (mv_ig_bitCount) (Nat.le_of_ble_eq_true rfl) rfl rfl rfl (mc_ig_bitCount (a0) w) (fun x1 w2 => ?_)
  refine sm_istore_n [some (.int a0), some (.int a1), some (.int x1), none] ii_wy_isLess_4 rfl rfl ?_
  refine sm_iload_n ii_wy_isLess_5 rfl ?_
  refine sm_csI [.int a1] [] rfl ii_wy_isLess_6 ml_wy_102 (mf_ig_bitCount) (mv_ig_bitCount) (Nat.le_of_ble_eq_true rfl) rfl rfl rfl (mc_ig_bitCount (a1) w2) (fun x3 w4 => ?_)
  refine sm_istore_n [some (.int a0), some (.int a1), some (.int x1), some (.int x3)] ii_wy_isLess_9 rfl rfl ?_
  refine sm_iload_n ii_wy_isLess_10 rfl ?_
  refine sm_iload_n ii_wy_isLess_11 rfl ?_
  refine sm_icmp_lt 25 ii_wy_isLess_12 (by decide) ?_ ?_
  · refine sm_iconst (1 : Int32) ii_wy_isLess_25 (by decide) ?_
    refine sm_goto 30 ii_wy_isLess_26 (by decide) ?_
    exact sm_zret1 ii_wy_isLess_30 rfl (by decide)
  · refine sm_iload_n ii_wy_isLess_15 rfl ?_
    refine sm_iload_n ii_wy_isLess_16 rfl ?_
    refine sm_icmp_ne 29 ii_wy_isLess_17 (by decide) ?_ ?_
    · refine sm_iload_n ii_wy_isLess_20 rfl ?_
      refine sm_iload_n ii_wy_isLess_21 rfl ?_
      refine sm_icmp_ge 29 ii_wy_isLess_22 (by decide) ?_ ?_
      · refine sm_iconst (0 : Int32) ii_wy_isLess_29 (by decide) ?_
        exact sm_zret1 ii_wy_isLess_30 rfl (by decide)
      · refine sm_iconst (1 : Int32) ii_wy_isLess_25 (by decide) ?_
        refine sm_goto 30 ii_wy_isLess_26 (by decide) ?_
        exact sm_zret1 ii_wy_isLess_30 rfl (by decide)
    · refine sm_iconst (0 : Int32) ii_wy_isLess_29 (by decide) ?_
      exact sm_zret1 ii_wy_isLess_30 rfl (by decide)
set_option maxHeartbeats 4000000 in
set_option maxRecDepth 100000 in
theorem mc_wy_isLess {E : Nat × (Nat → Int32)} (a0 : Int32) (a1 : Int32) (w : sm_Mem) : sm_MC E mi_wy_isLess [.int a0, .int a1] w (ff_wy_isLess a0 a1 w) := sm_MC_of E (by decide +kernel) rfl (Nat.le_of_ble_eq_true rfl) (ss_wy_isLess_0 a0 a1 w)
abbrev mi_wy_weighGuest : sm_MI := (⟨"HerOrders$Ways", "weighGuest", "()V"⟩, prog_7_method_7_code, 3, none, 3)
set_option maxRecDepth 100000 in
theorem mf_wy_weighGuest : sm_MF mi_wy_weighGuest 0 := ⟨List.mem_of_getElem? (i := 531) (by decide +kernel), List.mem_of_getElem? (i := 74) (by decide +kernel), ⟨by decide, by decide⟩, by decide +kernel⟩
set_option maxRecDepth 100000 in
theorem mv_wy_weighGuest : sm_MFV mi_wy_weighGuest := ⟨List.mem_of_getElem? (i := 530) (by decide +kernel), List.mem_of_getElem? (i := 27) (by decide +kernel)⟩
set_option maxRecDepth 100000 in
theorem ii_wy_weighGuest_0 : sm_D prog_7_method_7_code 0 1 1 (.iconst 0) := ⟨by decide +kernel, rfl⟩
set_option maxRecDepth 100000 in
theorem ii_wy_weighGuest_1 : sm_D prog_7_method_7_code 1 1 2 (.istore_n 1) := ⟨by decide +kernel, rfl⟩
set_option maxRecDepth 100000 in
theorem ii_wy_weighGuest_2 : sm_D prog_7_method_7_code 2 1 3 (.iconst 0) := ⟨by decide +kernel, rfl⟩
set_option maxRecDepth 100000 in
theorem ii_wy_weighGuest_3 : sm_D prog_7_method_7_code 3 1 4 (.istore_n 2) := ⟨by decide +kernel, rfl⟩
set_option maxRecDepth 100000 in
theorem ii_wy_weighGuest_4 : sm_D prog_7_method_7_code 4 1 5 (.iload_n 2) := ⟨by decide +kernel, rfl⟩
set_option maxRecDepth 100000 in
theorem ii_wy_weighGuest_5 : sm_D prog_7_method_7_code 5 1 6 (.aload_n 0) := ⟨by decide +kernel, rfl⟩
set_option maxRecDepth 100000 in
theorem ii_wy_weighGuest_6 : sm_D prog_7_method_7_code 6 3 9 (.getfield 49) := ⟨by decide +kernel, rfl⟩
set_option maxRecDepth 100000 in
theorem ii_wy_weighGuest_9 : sm_D prog_7_method_7_code 9 3 12 (.if_icmp .ge 33) := ⟨by decide +kernel, rfl⟩
set_option maxRecDepth 100000 in
theorem ii_wy_weighGuest_12 : sm_D prog_7_method_7_code 12 1 13 (.aload_n 0) := ⟨by decide +kernel, rfl⟩
set_option maxRecDepth 100000 in
theorem ii_wy_weighGuest_13 : sm_D prog_7_method_7_code 13 3 16 (.getfield 22) := ⟨by decide +kernel, rfl⟩
set_option maxRecDepth 100000 in
theorem ii_wy_weighGuest_16 : sm_D prog_7_method_7_code 16 1 17 (.iload_n 2) := ⟨by decide +kernel, rfl⟩
set_option maxRecDepth 100000 in
theorem ii_wy_weighGuest_17 : sm_D prog_7_method_7_code 17 1 18 (.iaload) := ⟨by decide +kernel, rfl⟩
set_option maxRecDepth 100000 in
theorem ii_wy_weighGuest_18 : sm_D prog_7_method_7_code 18 1 19 (.aload_n 0) := ⟨by decide +kernel, rfl⟩
set_option maxRecDepth 100000 in
theorem ii_wy_weighGuest_19 : sm_D prog_7_method_7_code 19 3 22 (.getfield 63) := ⟨by decide +kernel, rfl⟩
set_option maxRecDepth 100000 in
theorem ii_wy_weighGuest_22 : sm_D prog_7_method_7_code 22 3 25 (.if_icmp .ne 14) := ⟨by decide +kernel, rfl⟩
set_option maxRecDepth 100000 in
theorem ii_wy_weighGuest_25 : sm_D prog_7_method_7_code 25 1 26 (.iload_n 1) := ⟨by decide +kernel, rfl⟩
set_option maxRecDepth 100000 in
theorem ii_wy_weighGuest_26 : sm_D prog_7_method_7_code 26 1 27 (.iconst 1) := ⟨by decide +kernel, rfl⟩
set_option maxRecDepth 100000 in
theorem ii_wy_weighGuest_27 : sm_D prog_7_method_7_code 27 1 28 (.aload_n 0) := ⟨by decide +kernel, rfl⟩
set_option maxRecDepth 100000 in
theorem ii_wy_weighGuest_28 : sm_D prog_7_method_7_code 28 3 31 (.getfield 15) := ⟨by decide +kernel, rfl⟩
set_option maxRecDepth 100000 in
theorem ii_wy_weighGuest_31 : sm_D prog_7_method_7_code 31 1 32 (.iload_n 2) := ⟨by decide +kernel, rfl⟩
set_option maxRecDepth 100000 in
theorem ii_wy_weighGuest_32 : sm_D prog_7_method_7_code 32 1 33 (.iaload) := ⟨by decide +kernel, rfl⟩
set_option maxRecDepth 100000 in
theorem ii_wy_weighGuest_33 : sm_D prog_7_method_7_code 33 1 34 (.ishl) := ⟨by decide +kernel, rfl⟩
set_option maxRecDepth 100000 in
theorem ii_wy_weighGuest_34 : sm_D prog_7_method_7_code 34 1 35 (.ior) := ⟨by decide +kernel, rfl⟩
set_option maxRecDepth 100000 in
theorem ii_wy_weighGuest_35 : sm_D prog_7_method_7_code 35 1 36 (.istore_n 1) := ⟨by decide +kernel, rfl⟩
set_option maxRecDepth 100000 in
theorem ii_wy_weighGuest_36 : sm_D prog_7_method_7_code 36 3 39 (.iinc 2 1) := ⟨by decide +kernel, rfl⟩
set_option maxRecDepth 100000 in
theorem ii_wy_weighGuest_39 : sm_D prog_7_method_7_code 39 3 42 (.goto (-35)) := ⟨by decide +kernel, rfl⟩
set_option maxRecDepth 100000 in
theorem ii_wy_weighGuest_42 : sm_D prog_7_method_7_code 42 1 43 (.aload_n 0) := ⟨by decide +kernel, rfl⟩
set_option maxRecDepth 100000 in
theorem ii_wy_weighGuest_43 : sm_D prog_7_method_7_code 43 3 46 (.getfield 78) := ⟨by decide +kernel, rfl⟩
set_option maxRecDepth 100000 in
theorem ii_wy_weighGuest_46 : sm_D prog_7_method_7_code 46 2 48 (.bipush (-9)) := ⟨by decide +kernel, rfl⟩
set_option maxRecDepth 100000 in
theorem ii_wy_weighGuest_48 : sm_D prog_7_method_7_code 48 3 51 (.if_icmp .eq 14) := ⟨by decide +kernel, rfl⟩
set_option maxRecDepth 100000 in
theorem ii_wy_weighGuest_51 : sm_D prog_7_method_7_code 51 1 52 (.iload_n 1) := ⟨by decide +kernel, rfl⟩
set_option maxRecDepth 100000 in
theorem ii_wy_weighGuest_52 : sm_D prog_7_method_7_code 52 1 53 (.aload_n 0) := ⟨by decide +kernel, rfl⟩
set_option maxRecDepth 100000 in
theorem ii_wy_weighGuest_53 : sm_D prog_7_method_7_code 53 3 56 (.getfield 78) := ⟨by decide +kernel, rfl⟩
set_option maxRecDepth 100000 in
theorem ii_wy_weighGuest_56 : sm_D prog_7_method_7_code 56 3 59 (.invokestatic 111) := ⟨by decide +kernel, rfl⟩
set_option maxRecDepth 100000 in
theorem ii_wy_weighGuest_59 : sm_D prog_7_method_7_code 59 3 62 (.ifCond .eq 8) := ⟨by decide +kernel, rfl⟩
set_option maxRecDepth 100000 in
theorem ii_wy_weighGuest_62 : sm_D prog_7_method_7_code 62 1 63 (.aload_n 0) := ⟨by decide +kernel, rfl⟩
set_option maxRecDepth 100000 in
theorem ii_wy_weighGuest_63 : sm_D prog_7_method_7_code 63 1 64 (.iload_n 1) := ⟨by decide +kernel, rfl⟩
set_option maxRecDepth 100000 in
theorem ii_wy_weighGuest_64 : sm_D prog_7_method_7_code 64 3 67 (.putfield 78) := ⟨by decide +kernel, rfl⟩
set_option maxRecDepth 100000 in
theorem ii_wy_weighGuest_67 : sm_D prog_7_method_7_code 67 1 68 (.return_) := ⟨by decide +kernel, rfl⟩
noncomputable def ff_wy_weighGuest_62  (a1 : Int32) (w : sm_Mem) : sm_R := (sm_let (sm_wI w 49 13 a1) fun w1 => (some (.null, w1)))
set_option maxHeartbeats 4000000 in
set_option maxRecDepth 100000 in
theorem ss_wy_weighGuest_62 {E : Nat × (Nat → Int32)}  (a1 : Int32) (w : sm_Mem) : sm_Sim E (mi_wy_weighGuest) 62 [some (.ref 49), some (.int a1), none] [] w (ff_wy_weighGuest_62  a1 w) := by
  unfold ff_wy_weighGuest_62
  refine sm_aload_n ii_wy_weighGuest_62 rfl ?_
  refine sm_iload_n ii_wy_weighGuest_63 rfl ?_
  refine sm_putI ii_wy_weighGuest_64 fp_wy_78 (k := 49) rfl (fun w1 => ?_)
  exact sm_vret ii_wy_weighGuest_67 rfl
noncomputable def ff_wy_weighGuest_4_b  (self4 : Int32 → Int32 → sm_Mem → sm_R) (a1 : Int32) (a2 : Int32) (w : sm_Mem) : sm_R := (if (w.1 49 3) ≤ a2 then (if (w.1 49 13) = (-9 : Int32) then ff_wy_weighGuest_62 (a1) w else (sm_cI (ff_wy_isLess (a1) ((w.1 49 13)) w) fun x2 w3 => (if x2 = (0 : Int32) then (some (.null, w3)) else ff_wy_weighGuest_62 (a1) w3))) else (Option.bind (sm_rd w 52 5 a2) fun x4 => (if x4 = (w.1 49 12) then (Option.bind (sm_rd w 50 5 a2) fun x5 => self4 ((a1 ||| ((1 : Int32) <<< (x5 &&& (31 : Int32))))) ((a2 + (1 : Int32))) w) else self4 (a1) ((a2 + (1 : Int32))) w)))
noncomputable def ff_wy_weighGuest_4_f  : Nat → Int32 → Int32 → sm_Mem → sm_R
  | 0, _, _, _ => none
  | n + 1, a1, a2, w => ff_wy_weighGuest_4_b  (ff_wy_weighGuest_4_f  n) a1 a2 w
noncomputable def ff_wy_weighGuest_4  (a1 : Int32) (a2 : Int32) (w : sm_Mem) : sm_R := ff_wy_weighGuest_4_f  sm_N a1 a2 w
set_option maxHeartbeats 4000000 in
set_option maxRecDepth 100000 in
theorem ss_wy_weighGuest_4_b {E : Nat × (Nat → Int32)}  (self4 : Int32 → Int32 → sm_Mem → sm_R) (hself4 : ∀ (a1 : Int32) (a2 : Int32) (w : sm_Mem), sm_Sim E (mi_wy_weighGuest) 4 [some (.ref 49), some (.int a1), some (.int a2)] [] w (self4 a1 a2 w)) (a1 : Int32) (a2 : Int32) (w : sm_Mem) : sm_Sim E (mi_wy_weighGuest) 4 [some (.ref 49), some (.int a1), some (.int a2)] [] w (ff_wy_weighGuest_4_b  self4 a1 a2 w) := by
  unfold ff_wy_weighGuest_4_b
  refine sm_iload_n ii_wy_weighGuest_4 rfl ?_
  refine sm_aload_n ii_wy_weighGuest_5 rfl ?_
  refine sm_getI ii_wy_weighGuest_6 fl_wy_49 (k := 49) rfl ?_
  refine sm_icmp_ge 42 ii_wy_weighGuest_9 (by decide) ?_ ?_
  · refine sm_aload_n ii_wy_weighGuest_42 rfl ?_
    refine sm_getI ii_wy_weighGuest_43 fl_wy_78 (k := 49) rfl ?_
    refine sm_bipush (-9 : Int32) ii_wy_weighGuest_46 (by decide) ?_
    refine sm_icmp_eq 62 ii_wy_weighGuest_48 (by decide) ?_ ?_
    · refine sm_msk [true, true, false] [some (.ref 49), some (.int a1), none] rfl ?_
      exact ss_wy_weighGuest_62 (a1) w
    · refine sm_iload_n ii_wy_weighGuest_51 rfl ?_
      refine sm_aload_n ii_wy_weighGuest_52 rfl ?_
      refine sm_getI ii_wy_weighGuest_53 fl_wy_78 (k := 49) rfl ?_
      refine sm_csI [.int a1, .int (w.1 49 13)] [] rfl ii_wy_weighGuest_56 ml_wy_111 (mf_wy_isLess) (mv_wy_isLess) (Nat.le_of_ble_eq_true rfl) rfl rfl rfl (mc_wy_isLess (a1) ((w.1 49 13)) w) (fun x2 w3 => ?_)
      refine sm_if_eq 67 ii_wy_weighGuest_59 (by decide) ?_ ?_
      · exact sm_vret ii_wy_weighGuest_67 rfl
      · refine sm_msk [true, true, false] [some (.ref 49), some (.int a1), none] rfl ?_
        exact ss_wy_weighGuest_62 (a1) w3
  · refine sm_aload_n ii_wy_weighGuest_12 rfl ?_
    refine sm_getR 52 ii_wy_weighGuest_13 fl_wy_22 (k := 49) rfl ?_
    refine sm_iload_n ii_wy_weighGuest_16 rfl ?_
    refine sm_iald ii_wy_weighGuest_17 (k := 52) rfl (fun x4 => ?_)
    refine sm_aload_n ii_wy_weighGuest_18 rfl ?_
    refine sm_getI ii_wy_weighGuest_19 fl_wy_63 (k := 49) rfl ?_
    refine sm_icmp_ne 36 ii_wy_weighGuest_22 (by decide) ?_ ?_
    · refine sm_iload_n ii_wy_weighGuest_25 rfl ?_
      refine sm_iconst (1 : Int32) ii_wy_weighGuest_26 (by decide) ?_
      refine sm_aload_n ii_wy_weighGuest_27 rfl ?_
      refine sm_getR 50 ii_wy_weighGuest_28 fl_wy_15 (k := 49) rfl ?_
      refine sm_iload_n ii_wy_weighGuest_31 rfl ?_
      refine sm_iald ii_wy_weighGuest_32 (k := 50) rfl (fun x5 => ?_)
      refine sm_ishl ii_wy_weighGuest_33 ?_
      refine sm_ior ii_wy_weighGuest_34 ?_
      refine sm_istore_n [some (.ref 49), some (.int (a1 ||| ((1 : Int32) <<< (x5 &&& (31 : Int32))))), some (.int a2)] ii_wy_weighGuest_35 rfl rfl ?_
      refine sm_iinc (a2 + (1 : Int32)) [some (.ref 49), some (.int (a1 ||| ((1 : Int32) <<< (x5 &&& (31 : Int32))))), some (.int (a2 + (1 : Int32)))] ii_wy_weighGuest_36 rfl rfl rfl rfl ?_
      refine sm_goto 4 ii_wy_weighGuest_39 (by decide) ?_
      exact hself4 ((a1 ||| ((1 : Int32) <<< (x5 &&& (31 : Int32))))) ((a2 + (1 : Int32))) w
    · refine sm_iinc (a2 + (1 : Int32)) [some (.ref 49), some (.int a1), some (.int (a2 + (1 : Int32)))] ii_wy_weighGuest_36 rfl rfl rfl rfl ?_
      refine sm_goto 4 ii_wy_weighGuest_39 (by decide) ?_
      exact hself4 (a1) ((a2 + (1 : Int32))) w
set_option maxHeartbeats 4000000 in
set_option maxRecDepth 100000 in
theorem ss_wy_weighGuest_4_f {E : Nat × (Nat → Int32)}  : ∀ (n : Nat) (a1 : Int32) (a2 : Int32) (w : sm_Mem), sm_Sim E (mi_wy_weighGuest) 4 [some (.ref 49), some (.int a1), some (.int a2)] [] w (ff_wy_weighGuest_4_f  n a1 a2 w)
  | 0, _, _, _ => fun _ _ h => by cases h
  | n + 1, a1, a2, w => ss_wy_weighGuest_4_b  _ (ss_wy_weighGuest_4_f  n) a1 a2 w
set_option maxHeartbeats 4000000 in
set_option maxRecDepth 100000 in
theorem ss_wy_weighGuest_4 {E : Nat × (Nat → Int32)}  (a1 : Int32) (a2 : Int32) (w : sm_Mem) : sm_Sim E (mi_wy_weighGuest) 4 [some (.ref 49), some (.int a1), some (.int a2)] [] w (ff_wy_weighGuest_4  a1 a2 w) := ss_wy_weighGuest_4_f  sm_N a1 a2 w
noncomputable def ff_wy_weighGuest   (w : sm_Mem) : sm_R := ff_wy_weighGuest_4 ((0 : Int32)) ((0 : Int32)) w
set_option maxHeartbeats 4000000 in
set_option maxRecDepth 100000 in
theorem ss_wy_weighGuest_0 {E : Nat × (Nat → Int32)}   (w : sm_Mem) : sm_Sim E (mi_wy_weighGuest) 0 [some (.ref 49), none, none] [] w (ff_wy_weighGuest   w) := by
  unfold ff_wy_weighGuest
  refine sm_iconst (0 : Int32) ii_wy_weighGuest_0 (by decide) ?_
  refine sm_istore_n [some (.ref 49), some (.int (0 : Int32)), none] ii_wy_weighGuest_1 rfl rfl ?_
  refine sm_iconst (0 : Int32) ii_wy_weighGuest_2 (by decide) ?_
  refine sm_istore_n [some (.ref 49), some (.int (0 : Int32)), some (.int (0 : Int32))] ii_wy_weighGuest_3 rfl rfl ?_
  exact ss_wy_weighGuest_4 ((0 : Int32)) ((0 : Int32)) w
set_option maxHeartbeats 4000000 in
set_option maxRecDepth 100000 in
theorem mc_wy_weighGuest {E : Nat × (Nat → Int32)}  (w : sm_Mem) : sm_MC E mi_wy_weighGuest [.ref 49] w (ff_wy_weighGuest  w) := sm_MC_of E (by decide +kernel) rfl (Nat.le_of_ble_eq_true rfl) (ss_wy_weighGuest_0  w)
abbrev mi_wy_finish : sm_MI := (⟨"HerOrders$Ways", "finish", "(I)V"⟩, prog_7_method_6_code, 4, none, 4)
set_option maxRecDepth 100000 in
theorem mf_wy_finish : sm_MF mi_wy_finish 1 := ⟨List.mem_of_getElem? (i := 521) (by decide +kernel), List.mem_of_getElem? (i := 74) (by decide +kernel), ⟨by decide, by decide⟩, by decide +kernel⟩
set_option maxRecDepth 100000 in
theorem mv_wy_finish : sm_MFV mi_wy_finish := ⟨List.mem_of_getElem? (i := 520) (by decide +kernel), List.mem_of_getElem? (i := 26) (by decide +kernel)⟩
set_option maxRecDepth 100000 in
theorem ii_wy_finish_0 : sm_D prog_7_method_6_code 0 1 1 (.aload_n 0) := ⟨by decide +kernel, rfl⟩
set_option maxRecDepth 100000 in
theorem ii_wy_finish_1 : sm_D prog_7_method_6_code 1 3 4 (.getfield 25) := ⟨by decide +kernel, rfl⟩
set_option maxRecDepth 100000 in
theorem ii_wy_finish_4 : sm_D prog_7_method_6_code 4 1 5 (.aload_n 0) := ⟨by decide +kernel, rfl⟩
set_option maxRecDepth 100000 in
theorem ii_wy_finish_5 : sm_D prog_7_method_6_code 5 3 8 (.getfield 49) := ⟨by decide +kernel, rfl⟩
set_option maxRecDepth 100000 in
theorem ii_wy_finish_8 : sm_D prog_7_method_6_code 8 1 9 (.iaload) := ⟨by decide +kernel, rfl⟩
set_option maxRecDepth 100000 in
theorem ii_wy_finish_9 : sm_D prog_7_method_6_code 9 1 10 (.iconst 1) := ⟨by decide +kernel, rfl⟩
set_option maxRecDepth 100000 in
theorem ii_wy_finish_10 : sm_D prog_7_method_6_code 10 3 13 (.if_icmp .ne 20) := ⟨by decide +kernel, rfl⟩
set_option maxRecDepth 100000 in
theorem ii_wy_finish_13 : sm_D prog_7_method_6_code 13 1 14 (.aload_n 0) := ⟨by decide +kernel, rfl⟩
set_option maxRecDepth 100000 in
theorem ii_wy_finish_14 : sm_D prog_7_method_6_code 14 3 17 (.getfield 49) := ⟨by decide +kernel, rfl⟩
set_option maxRecDepth 100000 in
theorem ii_wy_finish_17 : sm_D prog_7_method_6_code 17 3 20 (.ifCond .le 13) := ⟨by decide +kernel, rfl⟩
set_option maxRecDepth 100000 in
theorem ii_wy_finish_20 : sm_D prog_7_method_6_code 20 1 21 (.aload_n 0) := ⟨by decide +kernel, rfl⟩
set_option maxRecDepth 100000 in
theorem ii_wy_finish_21 : sm_D prog_7_method_6_code 21 1 22 (.aload_n 0) := ⟨by decide +kernel, rfl⟩
set_option maxRecDepth 100000 in
theorem ii_wy_finish_22 : sm_D prog_7_method_6_code 22 3 25 (.getfield 22) := ⟨by decide +kernel, rfl⟩
set_option maxRecDepth 100000 in
theorem ii_wy_finish_25 : sm_D prog_7_method_6_code 25 1 26 (.iconst 0) := ⟨by decide +kernel, rfl⟩
set_option maxRecDepth 100000 in
theorem ii_wy_finish_26 : sm_D prog_7_method_6_code 26 1 27 (.iaload) := ⟨by decide +kernel, rfl⟩
set_option maxRecDepth 100000 in
theorem ii_wy_finish_27 : sm_D prog_7_method_6_code 27 3 30 (.putfield 69) := ⟨by decide +kernel, rfl⟩
set_option maxRecDepth 100000 in
theorem ii_wy_finish_30 : sm_D prog_7_method_6_code 30 1 31 (.aload_n 0) := ⟨by decide +kernel, rfl⟩
set_option maxRecDepth 100000 in
theorem ii_wy_finish_31 : sm_D prog_7_method_6_code 31 1 32 (.dup) := ⟨by decide +kernel, rfl⟩
set_option maxRecDepth 100000 in
theorem ii_wy_finish_32 : sm_D prog_7_method_6_code 32 3 35 (.getfield 72) := ⟨by decide +kernel, rfl⟩
set_option maxRecDepth 100000 in
theorem ii_wy_finish_35 : sm_D prog_7_method_6_code 35 1 36 (.iload_n 1) := ⟨by decide +kernel, rfl⟩
set_option maxRecDepth 100000 in
theorem ii_wy_finish_36 : sm_D prog_7_method_6_code 36 1 37 (.iand) := ⟨by decide +kernel, rfl⟩
set_option maxRecDepth 100000 in
theorem ii_wy_finish_37 : sm_D prog_7_method_6_code 37 3 40 (.putfield 72) := ⟨by decide +kernel, rfl⟩
set_option maxRecDepth 100000 in
theorem ii_wy_finish_40 : sm_D prog_7_method_6_code 40 1 41 (.aload_n 0) := ⟨by decide +kernel, rfl⟩
set_option maxRecDepth 100000 in
theorem ii_wy_finish_41 : sm_D prog_7_method_6_code 41 1 42 (.dup) := ⟨by decide +kernel, rfl⟩
set_option maxRecDepth 100000 in
theorem ii_wy_finish_42 : sm_D prog_7_method_6_code 42 3 45 (.getfield 75) := ⟨by decide +kernel, rfl⟩
set_option maxRecDepth 100000 in
theorem ii_wy_finish_45 : sm_D prog_7_method_6_code 45 1 46 (.iload_n 1) := ⟨by decide +kernel, rfl⟩
set_option maxRecDepth 100000 in
theorem ii_wy_finish_46 : sm_D prog_7_method_6_code 46 1 47 (.ior) := ⟨by decide +kernel, rfl⟩
set_option maxRecDepth 100000 in
theorem ii_wy_finish_47 : sm_D prog_7_method_6_code 47 3 50 (.putfield 75) := ⟨by decide +kernel, rfl⟩
set_option maxRecDepth 100000 in
theorem ii_wy_finish_50 : sm_D prog_7_method_6_code 50 1 51 (.iload_n 1) := ⟨by decide +kernel, rfl⟩
set_option maxRecDepth 100000 in
theorem ii_wy_finish_51 : sm_D prog_7_method_6_code 51 3 54 (.invokestatic 102) := ⟨by decide +kernel, rfl⟩
set_option maxRecDepth 100000 in
theorem ii_wy_finish_54 : sm_D prog_7_method_6_code 54 1 55 (.istore_n 2) := ⟨by decide +kernel, rfl⟩
set_option maxRecDepth 100000 in
theorem ii_wy_finish_55 : sm_D prog_7_method_6_code 55 1 56 (.aload_n 0) := ⟨by decide +kernel, rfl⟩
set_option maxRecDepth 100000 in
theorem ii_wy_finish_56 : sm_D prog_7_method_6_code 56 3 59 (.getfield 66) := ⟨by decide +kernel, rfl⟩
set_option maxRecDepth 100000 in
theorem ii_wy_finish_59 : sm_D prog_7_method_6_code 59 2 61 (.bipush (-9)) := ⟨by decide +kernel, rfl⟩
set_option maxRecDepth 100000 in
theorem ii_wy_finish_61 : sm_D prog_7_method_6_code 61 3 64 (.if_icmp .eq 11) := ⟨by decide +kernel, rfl⟩
set_option maxRecDepth 100000 in
theorem ii_wy_finish_64 : sm_D prog_7_method_6_code 64 1 65 (.iload_n 2) := ⟨by decide +kernel, rfl⟩
set_option maxRecDepth 100000 in
theorem ii_wy_finish_65 : sm_D prog_7_method_6_code 65 1 66 (.aload_n 0) := ⟨by decide +kernel, rfl⟩
set_option maxRecDepth 100000 in
theorem ii_wy_finish_66 : sm_D prog_7_method_6_code 66 3 69 (.getfield 66) := ⟨by decide +kernel, rfl⟩
set_option maxRecDepth 100000 in
theorem ii_wy_finish_69 : sm_D prog_7_method_6_code 69 3 72 (.if_icmp .ge 36) := ⟨by decide +kernel, rfl⟩
set_option maxRecDepth 100000 in
theorem ii_wy_finish_72 : sm_D prog_7_method_6_code 72 1 73 (.aload_n 0) := ⟨by decide +kernel, rfl⟩
set_option maxRecDepth 100000 in
theorem ii_wy_finish_73 : sm_D prog_7_method_6_code 73 1 74 (.iload_n 2) := ⟨by decide +kernel, rfl⟩
set_option maxRecDepth 100000 in
theorem ii_wy_finish_74 : sm_D prog_7_method_6_code 74 3 77 (.putfield 66) := ⟨by decide +kernel, rfl⟩
set_option maxRecDepth 100000 in
theorem ii_wy_finish_77 : sm_D prog_7_method_6_code 77 1 78 (.iconst 0) := ⟨by decide +kernel, rfl⟩
set_option maxRecDepth 100000 in
theorem ii_wy_finish_78 : sm_D prog_7_method_6_code 78 1 79 (.istore_n 3) := ⟨by decide +kernel, rfl⟩
set_option maxRecDepth 100000 in
theorem ii_wy_finish_79 : sm_D prog_7_method_6_code 79 1 80 (.iload_n 3) := ⟨by decide +kernel, rfl⟩
set_option maxRecDepth 100000 in
theorem ii_wy_finish_80 : sm_D prog_7_method_6_code 80 1 81 (.aload_n 0) := ⟨by decide +kernel, rfl⟩
set_option maxRecDepth 100000 in
theorem ii_wy_finish_81 : sm_D prog_7_method_6_code 81 3 84 (.getfield 49) := ⟨by decide +kernel, rfl⟩
set_option maxRecDepth 100000 in
theorem ii_wy_finish_84 : sm_D prog_7_method_6_code 84 3 87 (.if_icmp .ge 21) := ⟨by decide +kernel, rfl⟩
set_option maxRecDepth 100000 in
theorem ii_wy_finish_87 : sm_D prog_7_method_6_code 87 1 88 (.aload_n 0) := ⟨by decide +kernel, rfl⟩
set_option maxRecDepth 100000 in
theorem ii_wy_finish_88 : sm_D prog_7_method_6_code 88 3 91 (.getfield 31) := ⟨by decide +kernel, rfl⟩
set_option maxRecDepth 100000 in
theorem ii_wy_finish_91 : sm_D prog_7_method_6_code 91 1 92 (.iload_n 3) := ⟨by decide +kernel, rfl⟩
set_option maxRecDepth 100000 in
theorem ii_wy_finish_92 : sm_D prog_7_method_6_code 92 1 93 (.aload_n 0) := ⟨by decide +kernel, rfl⟩
set_option maxRecDepth 100000 in
theorem ii_wy_finish_93 : sm_D prog_7_method_6_code 93 3 96 (.getfield 22) := ⟨by decide +kernel, rfl⟩
set_option maxRecDepth 100000 in
theorem ii_wy_finish_96 : sm_D prog_7_method_6_code 96 1 97 (.iload_n 3) := ⟨by decide +kernel, rfl⟩
set_option maxRecDepth 100000 in
theorem ii_wy_finish_97 : sm_D prog_7_method_6_code 97 1 98 (.iaload) := ⟨by decide +kernel, rfl⟩
set_option maxRecDepth 100000 in
theorem ii_wy_finish_98 : sm_D prog_7_method_6_code 98 1 99 (.iastore) := ⟨by decide +kernel, rfl⟩
set_option maxRecDepth 100000 in
theorem ii_wy_finish_99 : sm_D prog_7_method_6_code 99 3 102 (.iinc 3 1) := ⟨by decide +kernel, rfl⟩
set_option maxRecDepth 100000 in
theorem ii_wy_finish_102 : sm_D prog_7_method_6_code 102 3 105 (.goto (-23)) := ⟨by decide +kernel, rfl⟩
set_option maxRecDepth 100000 in
theorem ii_wy_finish_105 : sm_D prog_7_method_6_code 105 1 106 (.aload_n 0) := ⟨by decide +kernel, rfl⟩
set_option maxRecDepth 100000 in
theorem ii_wy_finish_106 : sm_D prog_7_method_6_code 106 3 109 (.getfield 63) := ⟨by decide +kernel, rfl⟩
set_option maxRecDepth 100000 in
theorem ii_wy_finish_109 : sm_D prog_7_method_6_code 109 2 111 (.bipush (-9)) := ⟨by decide +kernel, rfl⟩
set_option maxRecDepth 100000 in
theorem ii_wy_finish_111 : sm_D prog_7_method_6_code 111 3 114 (.if_icmp .eq 7) := ⟨by decide +kernel, rfl⟩
set_option maxRecDepth 100000 in
theorem ii_wy_finish_114 : sm_D prog_7_method_6_code 114 1 115 (.aload_n 0) := ⟨by decide +kernel, rfl⟩
set_option maxRecDepth 100000 in
theorem ii_wy_finish_115 : sm_D prog_7_method_6_code 115 3 118 (.invokevirtual 108) := ⟨by decide +kernel, rfl⟩
set_option maxRecDepth 100000 in
theorem ii_wy_finish_118 : sm_D prog_7_method_6_code 118 1 119 (.return_) := ⟨by decide +kernel, rfl⟩
noncomputable def ff_wy_finish_105   (w : sm_Mem) : sm_R := (if (w.1 49 12) = (-9 : Int32) then (some (.null, w)) else (sm_cV (ff_wy_weighGuest  w) fun w2 => (some (.null, w2))))
set_option maxHeartbeats 4000000 in
set_option maxRecDepth 100000 in
theorem ss_wy_finish_105 {E : Nat × (Nat → Int32)}   (w : sm_Mem) : sm_Sim E (mi_wy_finish) 105 [some (.ref 49), none, none, none] [] w (ff_wy_finish_105   w) := by
  unfold ff_wy_finish_105
  refine sm_aload_n ii_wy_finish_105 rfl ?_
  refine sm_getI ii_wy_finish_106 fl_wy_63 (k := 49) rfl ?_
  refine sm_bipush (-9 : Int32) ii_wy_finish_109 (by decide) ?_
  refine sm_icmp_eq 118 ii_wy_finish_111 (by decide) ?_ ?_
  · exact sm_vret ii_wy_finish_118 rfl
  · refine sm_aload_n ii_wy_finish_114 rfl ?_
    refine sm_cvV [] [] rfl ii_wy_finish_115 ml_wy_108 (mf_wy_weighGuest) (mv_wy_weighGuest) (Nat.le_of_ble_eq_true rfl) rfl 5 rfl rfl rfl rfl (mc_wy_weighGuest  w) (fun w2 => ?_)
    exact sm_vret ii_wy_finish_118 rfl
noncomputable def ff_wy_finish_79_b  (self79 : Int32 → sm_Mem → sm_R) (a3 : Int32) (w : sm_Mem) : sm_R := (if (w.1 49 3) ≤ a3 then ff_wy_finish_105  w else (Option.bind (sm_rd w 52 5 a3) fun x3 => (Option.bind (sm_wr w 55 5 a3 x3) fun w4 => self79 ((a3 + (1 : Int32))) w4)))
noncomputable def ff_wy_finish_79_f  : Nat → Int32 → sm_Mem → sm_R
  | 0, _, _ => none
  | n + 1, a3, w => ff_wy_finish_79_b  (ff_wy_finish_79_f  n) a3 w
noncomputable def ff_wy_finish_79  (a3 : Int32) (w : sm_Mem) : sm_R := ff_wy_finish_79_f  sm_N a3 w
set_option maxHeartbeats 4000000 in
set_option maxRecDepth 100000 in
theorem ss_wy_finish_79_b {E : Nat × (Nat → Int32)}  (self79 : Int32 → sm_Mem → sm_R) (hself79 : ∀ (a3 : Int32) (w : sm_Mem), sm_Sim E (mi_wy_finish) 79 [some (.ref 49), none, none, some (.int a3)] [] w (self79 a3 w)) (a3 : Int32) (w : sm_Mem) : sm_Sim E (mi_wy_finish) 79 [some (.ref 49), none, none, some (.int a3)] [] w (ff_wy_finish_79_b  self79 a3 w) := by
  unfold ff_wy_finish_79_b
  refine sm_iload_n ii_wy_finish_79 rfl ?_
  refine sm_aload_n ii_wy_finish_80 rfl ?_
  refine sm_getI ii_wy_finish_81 fl_wy_49 (k := 49) rfl ?_
  refine sm_icmp_ge 105 ii_wy_finish_84 (by decide) ?_ ?_
  · refine sm_msk [true, false, false, false] [some (.ref 49), none, none, none] rfl ?_
    exact ss_wy_finish_105  w
  · refine sm_aload_n ii_wy_finish_87 rfl ?_
    refine sm_getR 55 ii_wy_finish_88 fl_wy_31 (k := 49) rfl ?_
    refine sm_iload_n ii_wy_finish_91 rfl ?_
    refine sm_aload_n ii_wy_finish_92 rfl ?_
    refine sm_getR 52 ii_wy_finish_93 fl_wy_22 (k := 49) rfl ?_
    refine sm_iload_n ii_wy_finish_96 rfl ?_
    refine sm_iald ii_wy_finish_97 (k := 52) rfl (fun x3 => ?_)
    refine sm_iast ii_wy_finish_98 (k := 55) rfl (fun w4 => ?_)
    refine sm_iinc (a3 + (1 : Int32)) [some (.ref 49), none, none, some (.int (a3 + (1 : Int32)))] ii_wy_finish_99 rfl rfl rfl rfl ?_
    refine sm_goto 79 ii_wy_finish_102 (by decide) ?_
    exact hself79 ((a3 + (1 : Int32))) w4
set_option maxHeartbeats 4000000 in
set_option maxRecDepth 100000 in
theorem ss_wy_finish_79_f {E : Nat × (Nat → Int32)}  : ∀ (n : Nat) (a3 : Int32) (w : sm_Mem), sm_Sim E (mi_wy_finish) 79 [some (.ref 49), none, none, some (.int a3)] [] w (ff_wy_finish_79_f  n a3 w)
  | 0, _, _ => fun _ _ h => by cases h
  | n + 1, a3, w => ss_wy_finish_79_b  _ (ss_wy_finish_79_f  n) a3 w
set_option maxHeartbeats 4000000 in
set_option maxRecDepth 100000 in
theorem ss_wy_finish_79 {E : Nat × (Nat → Int32)}  (a3 : Int32) (w : sm_Mem) : sm_Sim E (mi_wy_finish) 79 [some (.ref 49), none, none, some (.int a3)] [] w (ff_wy_finish_79  a3 w) := ss_wy_finish_79_f  sm_N a3 w
noncomputable def ff_wy_finish_72  (a2 : Int32) (w : sm_Mem) : sm_R := (sm_let (sm_wI w 49 8 a2) fun w5 => ff_wy_finish_79 ((0 : Int32)) w5)
set_option maxHeartbeats 4000000 in
set_option maxRecDepth 100000 in
theorem ss_wy_finish_72 {E : Nat × (Nat → Int32)}  (a2 : Int32) (w : sm_Mem) : sm_Sim E (mi_wy_finish) 72 [some (.ref 49), none, some (.int a2), none] [] w (ff_wy_finish_72  a2 w) := by
  unfold ff_wy_finish_72
  refine sm_aload_n ii_wy_finish_72 rfl ?_
  refine sm_iload_n ii_wy_finish_73 rfl ?_
  refine sm_putI ii_wy_finish_74 fp_wy_66 (k := 49) rfl (fun w5 => ?_)
  refine sm_iconst (0 : Int32) ii_wy_finish_77 (by decide) ?_
  refine sm_istore_n [some (.ref 49), none, some (.int a2), some (.int (0 : Int32))] ii_wy_finish_78 rfl rfl ?_
  refine sm_msk [true, false, false, true] [some (.ref 49), none, none, some (.int (0 : Int32))] rfl ?_
  exact ss_wy_finish_79 ((0 : Int32)) w5
noncomputable def ff_wy_finish_30  (a1 : Int32) (w : sm_Mem) : sm_R := (sm_let (sm_wI w 49 10 ((w.1 49 10) &&& a1)) fun w6 => (sm_let (sm_wI w6 49 11 ((w6.1 49 11) ||| a1)) fun w7 => (sm_cI (ff_ig_bitCount (a1) w7) fun x8 w9 => (if (w9.1 49 8) = (-9 : Int32) then ff_wy_finish_72 (x8) w9 else (if (w9.1 49 8) ≤ x8 then ff_wy_finish_105  w9 else ff_wy_finish_72 (x8) w9)))))
set_option maxHeartbeats 4000000 in
set_option maxRecDepth 100000 in
theorem ss_wy_finish_30 {E : Nat × (Nat → Int32)}  (a1 : Int32) (w : sm_Mem) : sm_Sim E (mi_wy_finish) 30 [some (.ref 49), some (.int a1), none, none] [] w (ff_wy_finish_30  a1 w) := by
  unfold ff_wy_finish_30
  refine sm_aload_n ii_wy_finish_30 rfl ?_
  refine sm_dupR ii_wy_finish_31 ?_
  refine sm_getI ii_wy_finish_32 fl_wy_72 (k := 49) rfl ?_
  refine sm_iload_n ii_wy_finish_35 rfl ?_
  refine sm_iand ii_wy_finish_36 ?_
  refine sm_putI ii_wy_finish_37 fp_wy_72 (k := 49) rfl (fun w6 => ?_)
  refine sm_aload_n ii_wy_finish_40 rfl ?_
  refine sm_dupR ii_wy_finish_41 ?_
  refine sm_getI ii_wy_finish_42 fl_wy_75 (k := 49) rfl ?_
  refine sm_iload_n ii_wy_finish_45 rfl ?_
  refine sm_ior ii_wy_finish_46 ?_
  refine sm_putI ii_wy_finish_47 fp_wy_75 (k := 49) rfl (fun w7 => ?_)
  refine sm_iload_n ii_wy_finish_50 rfl ?_
  refine sm_csI [.int a1] [] rfl ii_wy_finish_51 ml_wy_102 (mf_ig_bitCount) (mv_ig_bitCount) (Nat.le_of_ble_eq_true rfl) rfl rfl rfl (mc_ig_bitCount (a1) w7) (fun x8 w9 => ?_)
  refine sm_istore_n [some (.ref 49), some (.int a1), some (.int x8), none] ii_wy_finish_54 rfl rfl ?_
  refine sm_aload_n ii_wy_finish_55 rfl ?_
  refine sm_getI ii_wy_finish_56 fl_wy_66 (k := 49) rfl ?_
  refine sm_bipush (-9 : Int32) ii_wy_finish_59 (by decide) ?_
  refine sm_icmp_eq 72 ii_wy_finish_61 (by decide) ?_ ?_
  · refine sm_msk [true, false, true, false] [some (.ref 49), none, some (.int x8), none] rfl ?_
    exact ss_wy_finish_72 (x8) w9
  · refine sm_iload_n ii_wy_finish_64 rfl ?_
    refine sm_aload_n ii_wy_finish_65 rfl ?_
    refine sm_getI ii_wy_finish_66 fl_wy_66 (k := 49) rfl ?_
    refine sm_icmp_ge 105 ii_wy_finish_69 (by decide) ?_ ?_
    · refine sm_msk [true, false, false, false] [some (.ref 49), none, none, none] rfl ?_
      exact ss_wy_finish_105  w9
    · refine sm_msk [true, false, true, false] [some (.ref 49), none, some (.int x8), none] rfl ?_
      exact ss_wy_finish_72 (x8) w9
noncomputable def ff_wy_finish  (a1 : Int32) (w : sm_Mem) : sm_R := (Option.bind (sm_rd w 53 6 (w.1 49 3)) fun x10 => (if x10 = (1 : Int32) then (if (w.1 49 3) ≤ (0 : Int32) then ff_wy_finish_30 (a1) w else (Option.bind (sm_rd w 52 5 (0 : Int32)) fun x11 => (sm_let (sm_wI w 49 9 x11) fun w12 => ff_wy_finish_30 (a1) w12))) else ff_wy_finish_30 (a1) w))
set_option maxHeartbeats 4000000 in
set_option maxRecDepth 100000 in
theorem ss_wy_finish_0 {E : Nat × (Nat → Int32)}  (a1 : Int32) (w : sm_Mem) : sm_Sim E (mi_wy_finish) 0 [some (.ref 49), some (.int a1), none, none] [] w (ff_wy_finish  a1 w) := by
  unfold ff_wy_finish
  refine sm_aload_n ii_wy_finish_0 rfl ?_
  refine sm_getR 53 ii_wy_finish_1 fl_wy_25 (k := 49) rfl ?_
  refine sm_aload_n ii_wy_finish_4 rfl ?_
  refine sm_getI ii_wy_finish_5 fl_wy_49 (k := 49) rfl ?_
  refine sm_iald ii_wy_finish_8 (k := 53) rfl (fun x10 => ?_)
  refine sm_iconst (1 : Int32) ii_wy_finish_9 (by decide) ?_
  refine sm_icmp_ne 30 ii_wy_finish_10 (by decide) ?_ ?_
  · refine sm_aload_n ii_wy_finish_13 rfl ?_
    refine sm_getI ii_wy_finish_14 fl_wy_49 (k := 49) rfl ?_
    refine sm_if_le 30 ii_wy_finish_17 (by decide) ?_ ?_
    · exact ss_wy_finish_30 (a1) w
    · refine sm_aload_n ii_wy_finish_20 rfl ?_
      refine sm_aload_n ii_wy_finish_21 rfl ?_
      refine sm_getR 52 ii_wy_finish_22 fl_wy_22 (k := 49) rfl ?_
      refine sm_iconst (0 : Int32) ii_wy_finish_25 (by decide) ?_
      refine sm_iald ii_wy_finish_26 (k := 52) rfl (fun x11 => ?_)
      refine sm_putI ii_wy_finish_27 fp_wy_69 (k := 49) rfl (fun w12 => ?_)
      exact ss_wy_finish_30 (a1) w12
  · exact ss_wy_finish_30 (a1) w
set_option maxHeartbeats 4000000 in
set_option maxRecDepth 100000 in
theorem mc_wy_finish {E : Nat × (Nat → Int32)} (a1 : Int32) (w : sm_Mem) : sm_MC E mi_wy_finish [.ref 49, .int a1] w (ff_wy_finish a1 w) := sm_MC_of E (by decide +kernel) rfl (Nat.le_of_ble_eq_true rfl) (ss_wy_finish_0 a1 w)
abbrev mi_hs_pop : sm_MI := (⟨"HerOrders$House", "pop", "()V"⟩, prog_3_method_10_code, 1, none, 1)
set_option maxRecDepth 100000 in
theorem mf_hs_pop : sm_MF mi_hs_pop 0 := ⟨List.mem_of_getElem? (i := 540) (by decide +kernel), List.mem_of_getElem? (i := 73) (by decide +kernel), ⟨by decide, by decide⟩, by decide +kernel⟩
set_option maxRecDepth 100000 in
theorem mv_hs_pop : sm_MFV mi_hs_pop := ⟨List.mem_of_getElem? (i := 539) (by decide +kernel), List.mem_of_getElem? (i := 28) (by decide +kernel)⟩
set_option maxRecDepth 100000 in
theorem ii_hs_pop_0 : sm_D prog_3_method_10_code 0 1 1 (.aload_n 0) := ⟨by decide +kernel, rfl⟩
set_option maxRecDepth 100000 in
theorem ii_hs_pop_1 : sm_D prog_3_method_10_code 1 3 4 (.getfield 89) := ⟨by decide +kernel, rfl⟩
set_option maxRecDepth 100000 in
theorem ii_hs_pop_4 : sm_D prog_3_method_10_code 4 3 7 (.ifCond .gt 4) := ⟨by decide +kernel, rfl⟩
set_option maxRecDepth 100000 in
theorem ii_hs_pop_7 : sm_D prog_3_method_10_code 7 1 8 (.return_) := ⟨by decide +kernel, rfl⟩
set_option maxRecDepth 100000 in
theorem ii_hs_pop_8 : sm_D prog_3_method_10_code 8 1 9 (.aload_n 0) := ⟨by decide +kernel, rfl⟩
set_option maxRecDepth 100000 in
theorem ii_hs_pop_9 : sm_D prog_3_method_10_code 9 1 10 (.dup) := ⟨by decide +kernel, rfl⟩
set_option maxRecDepth 100000 in
theorem ii_hs_pop_10 : sm_D prog_3_method_10_code 10 3 13 (.getfield 89) := ⟨by decide +kernel, rfl⟩
set_option maxRecDepth 100000 in
theorem ii_hs_pop_13 : sm_D prog_3_method_10_code 13 1 14 (.iconst 1) := ⟨by decide +kernel, rfl⟩
set_option maxRecDepth 100000 in
theorem ii_hs_pop_14 : sm_D prog_3_method_10_code 14 1 15 (.isub) := ⟨by decide +kernel, rfl⟩
set_option maxRecDepth 100000 in
theorem ii_hs_pop_15 : sm_D prog_3_method_10_code 15 3 18 (.putfield 89) := ⟨by decide +kernel, rfl⟩
set_option maxRecDepth 100000 in
theorem ii_hs_pop_18 : sm_D prog_3_method_10_code 18 1 19 (.aload_n 0) := ⟨by decide +kernel, rfl⟩
set_option maxRecDepth 100000 in
theorem ii_hs_pop_19 : sm_D prog_3_method_10_code 19 3 22 (.getfield 27) := ⟨by decide +kernel, rfl⟩
set_option maxRecDepth 100000 in
theorem ii_hs_pop_22 : sm_D prog_3_method_10_code 22 1 23 (.aload_n 0) := ⟨by decide +kernel, rfl⟩
set_option maxRecDepth 100000 in
theorem ii_hs_pop_23 : sm_D prog_3_method_10_code 23 3 26 (.getfield 33) := ⟨by decide +kernel, rfl⟩
set_option maxRecDepth 100000 in
theorem ii_hs_pop_26 : sm_D prog_3_method_10_code 26 1 27 (.aload_n 0) := ⟨by decide +kernel, rfl⟩
set_option maxRecDepth 100000 in
theorem ii_hs_pop_27 : sm_D prog_3_method_10_code 27 3 30 (.getfield 89) := ⟨by decide +kernel, rfl⟩
set_option maxRecDepth 100000 in
theorem ii_hs_pop_30 : sm_D prog_3_method_10_code 30 1 31 (.iaload) := ⟨by decide +kernel, rfl⟩
set_option maxRecDepth 100000 in
theorem ii_hs_pop_31 : sm_D prog_3_method_10_code 31 1 32 (.dup2) := ⟨by decide +kernel, rfl⟩
set_option maxRecDepth 100000 in
theorem ii_hs_pop_32 : sm_D prog_3_method_10_code 32 1 33 (.iaload) := ⟨by decide +kernel, rfl⟩
set_option maxRecDepth 100000 in
theorem ii_hs_pop_33 : sm_D prog_3_method_10_code 33 1 34 (.iconst 1) := ⟨by decide +kernel, rfl⟩
set_option maxRecDepth 100000 in
theorem ii_hs_pop_34 : sm_D prog_3_method_10_code 34 1 35 (.iadd) := ⟨by decide +kernel, rfl⟩
set_option maxRecDepth 100000 in
theorem ii_hs_pop_35 : sm_D prog_3_method_10_code 35 1 36 (.iastore) := ⟨by decide +kernel, rfl⟩
set_option maxRecDepth 100000 in
theorem ii_hs_pop_36 : sm_D prog_3_method_10_code 36 1 37 (.return_) := ⟨by decide +kernel, rfl⟩
noncomputable def ff_hs_pop   (w : sm_Mem) : sm_R := (if (0 : Int32) < (w.1 36 11) then (sm_let (sm_wI w 36 11 ((w.1 36 11) - (1 : Int32))) fun w1 => (Option.bind (sm_rd w1 44 8 (w1.1 36 11)) fun x2 => (Option.bind (sm_rd w1 42 6 x2) fun x3 => (Option.bind (sm_wr w1 42 6 x2 (x3 + (1 : Int32))) fun w4 => (some (.null, w4)))))) else (some (.null, w)))
set_option maxHeartbeats 4000000 in
set_option maxRecDepth 100000 in
theorem ss_hs_pop_0 {E : Nat × (Nat → Int32)}   (w : sm_Mem) : sm_Sim E (mi_hs_pop) 0 [some (.ref 36)] [] w (ff_hs_pop   w) := by
  unfold ff_hs_pop
  refine sm_aload_n ii_hs_pop_0 rfl ?_
  refine sm_getI ii_hs_pop_1 fl_hs_89 (k := 36) rfl ?_
  refine sm_if_gt 8 ii_hs_pop_4 (by decide) ?_ ?_
  · refine sm_aload_n ii_hs_pop_8 rfl ?_
    refine sm_dupR ii_hs_pop_9 ?_
    refine sm_getI ii_hs_pop_10 fl_hs_89 (k := 36) rfl ?_
    refine sm_iconst (1 : Int32) ii_hs_pop_13 (by decide) ?_
    refine sm_isub ii_hs_pop_14 ?_
    refine sm_putI ii_hs_pop_15 fp_hs_89 (k := 36) rfl (fun w1 => ?_)
    refine sm_aload_n ii_hs_pop_18 rfl ?_
    refine sm_getR 42 ii_hs_pop_19 fl_hs_27 (k := 36) rfl ?_
    refine sm_aload_n ii_hs_pop_22 rfl ?_
    refine sm_getR 44 ii_hs_pop_23 fl_hs_33 (k := 36) rfl ?_
    refine sm_aload_n ii_hs_pop_26 rfl ?_
    refine sm_getI ii_hs_pop_27 fl_hs_89 (k := 36) rfl ?_
    refine sm_iald ii_hs_pop_30 (k := 44) rfl (fun x2 => ?_)
    refine sm_dup2 ii_hs_pop_31 ?_
    refine sm_iald ii_hs_pop_32 (k := 42) rfl (fun x3 => ?_)
    refine sm_iconst (1 : Int32) ii_hs_pop_33 (by decide) ?_
    refine sm_iadd ii_hs_pop_34 ?_
    refine sm_iast ii_hs_pop_35 (k := 42) rfl (fun w4 => ?_)
    exact sm_vret ii_hs_pop_36 rfl
  · exact sm_vret ii_hs_pop_7 rfl
set_option maxHeartbeats 4000000 in
set_option maxRecDepth 100000 in
theorem mc_hs_pop {E : Nat × (Nat → Int32)}  (w : sm_Mem) : sm_MC E mi_hs_pop [.ref 36] w (ff_hs_pop  w) := sm_MC_of E (by decide +kernel) rfl (Nat.le_of_ble_eq_true rfl) (ss_hs_pop_0  w)
abbrev mi_wy_goOn (k : Nat) : sm_MI := (⟨"HerOrders$Ways", "goOn", "(II)V"⟩, prog_7_method_5_code, 4, none, k)
set_option maxRecDepth 100000 in
theorem mf_wy_goOn_z : sm_MF (mi_wy_goOn 0) 2 := ⟨List.mem_of_getElem? (i := 517) (by decide +kernel), List.mem_of_getElem? (i := 74) (by decide +kernel), ⟨by decide, by decide⟩, by decide +kernel⟩
set_option maxRecDepth 100000 in
theorem mf_wy_goOn (k : Nat) : sm_MF (mi_wy_goOn k) 2 := mf_wy_goOn_z
set_option maxRecDepth 100000 in
theorem mv_wy_goOn_z : sm_MFV (mi_wy_goOn 0) := ⟨List.mem_of_getElem? (i := 516) (by decide +kernel), List.mem_of_getElem? (i := 25) (by decide +kernel)⟩
set_option maxRecDepth 100000 in
theorem mv_wy_goOn (k : Nat) : sm_MFV (mi_wy_goOn k) := mv_wy_goOn_z
set_option maxRecDepth 100000 in
theorem ii_wy_goOn_0 : sm_D prog_7_method_5_code 0 1 1 (.aload_n 0) := ⟨by decide +kernel, rfl⟩
set_option maxRecDepth 100000 in
theorem ii_wy_goOn_1 : sm_D prog_7_method_5_code 1 3 4 (.getfield 25) := ⟨by decide +kernel, rfl⟩
set_option maxRecDepth 100000 in
theorem ii_wy_goOn_4 : sm_D prog_7_method_5_code 4 1 5 (.iload_n 1) := ⟨by decide +kernel, rfl⟩
set_option maxRecDepth 100000 in
theorem ii_wy_goOn_5 : sm_D prog_7_method_5_code 5 1 6 (.dup2) := ⟨by decide +kernel, rfl⟩
set_option maxRecDepth 100000 in
theorem ii_wy_goOn_6 : sm_D prog_7_method_5_code 6 1 7 (.iaload) := ⟨by decide +kernel, rfl⟩
set_option maxRecDepth 100000 in
theorem ii_wy_goOn_7 : sm_D prog_7_method_5_code 7 1 8 (.iconst 1) := ⟨by decide +kernel, rfl⟩
set_option maxRecDepth 100000 in
theorem ii_wy_goOn_8 : sm_D prog_7_method_5_code 8 1 9 (.iadd) := ⟨by decide +kernel, rfl⟩
set_option maxRecDepth 100000 in
theorem ii_wy_goOn_9 : sm_D prog_7_method_5_code 9 1 10 (.iastore) := ⟨by decide +kernel, rfl⟩
set_option maxRecDepth 100000 in
theorem ii_wy_goOn_10 : sm_D prog_7_method_5_code 10 1 11 (.aload_n 0) := ⟨by decide +kernel, rfl⟩
set_option maxRecDepth 100000 in
theorem ii_wy_goOn_11 : sm_D prog_7_method_5_code 11 3 14 (.getfield 28) := ⟨by decide +kernel, rfl⟩
set_option maxRecDepth 100000 in
theorem ii_wy_goOn_14 : sm_D prog_7_method_5_code 14 1 15 (.iload_n 2) := ⟨by decide +kernel, rfl⟩
set_option maxRecDepth 100000 in
theorem ii_wy_goOn_15 : sm_D prog_7_method_5_code 15 1 16 (.aload_n 0) := ⟨by decide +kernel, rfl⟩
set_option maxRecDepth 100000 in
theorem ii_wy_goOn_16 : sm_D prog_7_method_5_code 16 3 19 (.getfield 28) := ⟨by decide +kernel, rfl⟩
set_option maxRecDepth 100000 in
theorem ii_wy_goOn_19 : sm_D prog_7_method_5_code 19 1 20 (.iload_n 2) := ⟨by decide +kernel, rfl⟩
set_option maxRecDepth 100000 in
theorem ii_wy_goOn_20 : sm_D prog_7_method_5_code 20 1 21 (.iaload) := ⟨by decide +kernel, rfl⟩
set_option maxRecDepth 100000 in
theorem ii_wy_goOn_21 : sm_D prog_7_method_5_code 21 1 22 (.iload_n 1) := ⟨by decide +kernel, rfl⟩
set_option maxRecDepth 100000 in
theorem ii_wy_goOn_22 : sm_D prog_7_method_5_code 22 3 25 (.invokestatic 46) := ⟨by decide +kernel, rfl⟩
set_option maxRecDepth 100000 in
theorem ii_wy_goOn_25 : sm_D prog_7_method_5_code 25 1 26 (.iastore) := ⟨by decide +kernel, rfl⟩
set_option maxRecDepth 100000 in
theorem ii_wy_goOn_26 : sm_D prog_7_method_5_code 26 1 27 (.iload_n 1) := ⟨by decide +kernel, rfl⟩
set_option maxRecDepth 100000 in
theorem ii_wy_goOn_27 : sm_D prog_7_method_5_code 27 1 28 (.aload_n 0) := ⟨by decide +kernel, rfl⟩
set_option maxRecDepth 100000 in
theorem ii_wy_goOn_28 : sm_D prog_7_method_5_code 28 3 31 (.getfield 49) := ⟨by decide +kernel, rfl⟩
set_option maxRecDepth 100000 in
theorem ii_wy_goOn_31 : sm_D prog_7_method_5_code 31 3 34 (.if_icmp .lt 9) := ⟨by decide +kernel, rfl⟩
set_option maxRecDepth 100000 in
theorem ii_wy_goOn_34 : sm_D prog_7_method_5_code 34 1 35 (.aload_n 0) := ⟨by decide +kernel, rfl⟩
set_option maxRecDepth 100000 in
theorem ii_wy_goOn_35 : sm_D prog_7_method_5_code 35 1 36 (.iload_n 2) := ⟨by decide +kernel, rfl⟩
set_option maxRecDepth 100000 in
theorem ii_wy_goOn_36 : sm_D prog_7_method_5_code 36 3 39 (.invokevirtual 81) := ⟨by decide +kernel, rfl⟩
set_option maxRecDepth 100000 in
theorem ii_wy_goOn_39 : sm_D prog_7_method_5_code 39 1 40 (.return_) := ⟨by decide +kernel, rfl⟩
set_option maxRecDepth 100000 in
theorem ii_wy_goOn_40 : sm_D prog_7_method_5_code 40 1 41 (.iconst 0) := ⟨by decide +kernel, rfl⟩
set_option maxRecDepth 100000 in
theorem ii_wy_goOn_41 : sm_D prog_7_method_5_code 41 1 42 (.istore_n 3) := ⟨by decide +kernel, rfl⟩
set_option maxRecDepth 100000 in
theorem ii_wy_goOn_42 : sm_D prog_7_method_5_code 42 1 43 (.iload_n 3) := ⟨by decide +kernel, rfl⟩
set_option maxRecDepth 100000 in
theorem ii_wy_goOn_43 : sm_D prog_7_method_5_code 43 1 44 (.aload_n 0) := ⟨by decide +kernel, rfl⟩
set_option maxRecDepth 100000 in
theorem ii_wy_goOn_44 : sm_D prog_7_method_5_code 44 3 47 (.getfield 9) := ⟨by decide +kernel, rfl⟩
set_option maxRecDepth 100000 in
theorem ii_wy_goOn_47 : sm_D prog_7_method_5_code 47 3 50 (.getfield 84) := ⟨by decide +kernel, rfl⟩
set_option maxRecDepth 100000 in
theorem ii_wy_goOn_50 : sm_D prog_7_method_5_code 50 3 53 (.if_icmp .ge 101) := ⟨by decide +kernel, rfl⟩
set_option maxRecDepth 100000 in
theorem ii_wy_goOn_53 : sm_D prog_7_method_5_code 53 1 54 (.aload_n 0) := ⟨by decide +kernel, rfl⟩
set_option maxRecDepth 100000 in
theorem ii_wy_goOn_54 : sm_D prog_7_method_5_code 54 3 57 (.getfield 19) := ⟨by decide +kernel, rfl⟩
set_option maxRecDepth 100000 in
theorem ii_wy_goOn_57 : sm_D prog_7_method_5_code 57 1 58 (.iload_n 1) := ⟨by decide +kernel, rfl⟩
set_option maxRecDepth 100000 in
theorem ii_wy_goOn_58 : sm_D prog_7_method_5_code 58 1 59 (.iaload) := ⟨by decide +kernel, rfl⟩
set_option maxRecDepth 100000 in
theorem ii_wy_goOn_59 : sm_D prog_7_method_5_code 59 2 61 (.bipush (-9)) := ⟨by decide +kernel, rfl⟩
set_option maxRecDepth 100000 in
theorem ii_wy_goOn_61 : sm_D prog_7_method_5_code 61 3 64 (.if_icmp .eq 24) := ⟨by decide +kernel, rfl⟩
set_option maxRecDepth 100000 in
theorem ii_wy_goOn_64 : sm_D prog_7_method_5_code 64 1 65 (.aload_n 0) := ⟨by decide +kernel, rfl⟩
set_option maxRecDepth 100000 in
theorem ii_wy_goOn_65 : sm_D prog_7_method_5_code 65 3 68 (.getfield 19) := ⟨by decide +kernel, rfl⟩
set_option maxRecDepth 100000 in
theorem ii_wy_goOn_68 : sm_D prog_7_method_5_code 68 1 69 (.iload_n 1) := ⟨by decide +kernel, rfl⟩
set_option maxRecDepth 100000 in
theorem ii_wy_goOn_69 : sm_D prog_7_method_5_code 69 1 70 (.iaload) := ⟨by decide +kernel, rfl⟩
set_option maxRecDepth 100000 in
theorem ii_wy_goOn_70 : sm_D prog_7_method_5_code 70 1 71 (.aload_n 0) := ⟨by decide +kernel, rfl⟩
set_option maxRecDepth 100000 in
theorem ii_wy_goOn_71 : sm_D prog_7_method_5_code 71 3 74 (.getfield 9) := ⟨by decide +kernel, rfl⟩
set_option maxRecDepth 100000 in
theorem ii_wy_goOn_74 : sm_D prog_7_method_5_code 74 3 77 (.getfield 89) := ⟨by decide +kernel, rfl⟩
set_option maxRecDepth 100000 in
theorem ii_wy_goOn_77 : sm_D prog_7_method_5_code 77 1 78 (.iload_n 3) := ⟨by decide +kernel, rfl⟩
set_option maxRecDepth 100000 in
theorem ii_wy_goOn_78 : sm_D prog_7_method_5_code 78 1 79 (.iaload) := ⟨by decide +kernel, rfl⟩
set_option maxRecDepth 100000 in
theorem ii_wy_goOn_79 : sm_D prog_7_method_5_code 79 3 82 (.if_icmp .eq 6) := ⟨by decide +kernel, rfl⟩
set_option maxRecDepth 100000 in
theorem ii_wy_goOn_82 : sm_D prog_7_method_5_code 82 3 85 (.goto 63) := ⟨by decide +kernel, rfl⟩
set_option maxRecDepth 100000 in
theorem ii_wy_goOn_85 : sm_D prog_7_method_5_code 85 1 86 (.aload_n 0) := ⟨by decide +kernel, rfl⟩
set_option maxRecDepth 100000 in
theorem ii_wy_goOn_86 : sm_D prog_7_method_5_code 86 3 89 (.getfield 9) := ⟨by decide +kernel, rfl⟩
set_option maxRecDepth 100000 in
theorem ii_wy_goOn_89 : sm_D prog_7_method_5_code 89 1 90 (.iload_n 3) := ⟨by decide +kernel, rfl⟩
set_option maxRecDepth 100000 in
theorem ii_wy_goOn_90 : sm_D prog_7_method_5_code 90 1 91 (.aload_n 0) := ⟨by decide +kernel, rfl⟩
set_option maxRecDepth 100000 in
theorem ii_wy_goOn_91 : sm_D prog_7_method_5_code 91 3 94 (.getfield 15) := ⟨by decide +kernel, rfl⟩
set_option maxRecDepth 100000 in
theorem ii_wy_goOn_94 : sm_D prog_7_method_5_code 94 1 95 (.iload_n 1) := ⟨by decide +kernel, rfl⟩
set_option maxRecDepth 100000 in
theorem ii_wy_goOn_95 : sm_D prog_7_method_5_code 95 1 96 (.iaload) := ⟨by decide +kernel, rfl⟩
set_option maxRecDepth 100000 in
theorem ii_wy_goOn_96 : sm_D prog_7_method_5_code 96 3 99 (.invokevirtual 92) := ⟨by decide +kernel, rfl⟩
set_option maxRecDepth 100000 in
theorem ii_wy_goOn_99 : sm_D prog_7_method_5_code 99 3 102 (.ifCond .ne 6) := ⟨by decide +kernel, rfl⟩
set_option maxRecDepth 100000 in
theorem ii_wy_goOn_102 : sm_D prog_7_method_5_code 102 3 105 (.goto 43) := ⟨by decide +kernel, rfl⟩
set_option maxRecDepth 100000 in
theorem ii_wy_goOn_105 : sm_D prog_7_method_5_code 105 1 106 (.aload_n 0) := ⟨by decide +kernel, rfl⟩
set_option maxRecDepth 100000 in
theorem ii_wy_goOn_106 : sm_D prog_7_method_5_code 106 3 109 (.getfield 22) := ⟨by decide +kernel, rfl⟩
set_option maxRecDepth 100000 in
theorem ii_wy_goOn_109 : sm_D prog_7_method_5_code 109 1 110 (.iload_n 1) := ⟨by decide +kernel, rfl⟩
set_option maxRecDepth 100000 in
theorem ii_wy_goOn_110 : sm_D prog_7_method_5_code 110 1 111 (.iload_n 3) := ⟨by decide +kernel, rfl⟩
set_option maxRecDepth 100000 in
theorem ii_wy_goOn_111 : sm_D prog_7_method_5_code 111 1 112 (.iastore) := ⟨by decide +kernel, rfl⟩
set_option maxRecDepth 100000 in
theorem ii_wy_goOn_112 : sm_D prog_7_method_5_code 112 1 113 (.aload_n 0) := ⟨by decide +kernel, rfl⟩
set_option maxRecDepth 100000 in
theorem ii_wy_goOn_113 : sm_D prog_7_method_5_code 113 3 116 (.getfield 9) := ⟨by decide +kernel, rfl⟩
set_option maxRecDepth 100000 in
theorem ii_wy_goOn_116 : sm_D prog_7_method_5_code 116 1 117 (.iload_n 3) := ⟨by decide +kernel, rfl⟩
set_option maxRecDepth 100000 in
theorem ii_wy_goOn_117 : sm_D prog_7_method_5_code 117 1 118 (.aload_n 0) := ⟨by decide +kernel, rfl⟩
set_option maxRecDepth 100000 in
theorem ii_wy_goOn_118 : sm_D prog_7_method_5_code 118 3 121 (.getfield 15) := ⟨by decide +kernel, rfl⟩
set_option maxRecDepth 100000 in
theorem ii_wy_goOn_121 : sm_D prog_7_method_5_code 121 1 122 (.iload_n 1) := ⟨by decide +kernel, rfl⟩
set_option maxRecDepth 100000 in
theorem ii_wy_goOn_122 : sm_D prog_7_method_5_code 122 1 123 (.iaload) := ⟨by decide +kernel, rfl⟩
set_option maxRecDepth 100000 in
theorem ii_wy_goOn_123 : sm_D prog_7_method_5_code 123 3 126 (.invokevirtual 96) := ⟨by decide +kernel, rfl⟩
set_option maxRecDepth 100000 in
theorem ii_wy_goOn_126 : sm_D prog_7_method_5_code 126 1 127 (.aload_n 0) := ⟨by decide +kernel, rfl⟩
set_option maxRecDepth 100000 in
theorem ii_wy_goOn_127 : sm_D prog_7_method_5_code 127 1 128 (.iload_n 1) := ⟨by decide +kernel, rfl⟩
set_option maxRecDepth 100000 in
theorem ii_wy_goOn_128 : sm_D prog_7_method_5_code 128 1 129 (.iconst 1) := ⟨by decide +kernel, rfl⟩
set_option maxRecDepth 100000 in
theorem ii_wy_goOn_129 : sm_D prog_7_method_5_code 129 1 130 (.iadd) := ⟨by decide +kernel, rfl⟩
set_option maxRecDepth 100000 in
theorem ii_wy_goOn_130 : sm_D prog_7_method_5_code 130 1 131 (.iload_n 2) := ⟨by decide +kernel, rfl⟩
set_option maxRecDepth 100000 in
theorem ii_wy_goOn_131 : sm_D prog_7_method_5_code 131 1 132 (.iconst 1) := ⟨by decide +kernel, rfl⟩
set_option maxRecDepth 100000 in
theorem ii_wy_goOn_132 : sm_D prog_7_method_5_code 132 1 133 (.iload_n 3) := ⟨by decide +kernel, rfl⟩
set_option maxRecDepth 100000 in
theorem ii_wy_goOn_133 : sm_D prog_7_method_5_code 133 1 134 (.ishl) := ⟨by decide +kernel, rfl⟩
set_option maxRecDepth 100000 in
theorem ii_wy_goOn_134 : sm_D prog_7_method_5_code 134 1 135 (.ior) := ⟨by decide +kernel, rfl⟩
set_option maxRecDepth 100000 in
theorem ii_wy_goOn_135 : sm_D prog_7_method_5_code 135 3 138 (.invokevirtual 59) := ⟨by decide +kernel, rfl⟩
set_option maxRecDepth 100000 in
theorem ii_wy_goOn_138 : sm_D prog_7_method_5_code 138 1 139 (.aload_n 0) := ⟨by decide +kernel, rfl⟩
set_option maxRecDepth 100000 in
theorem ii_wy_goOn_139 : sm_D prog_7_method_5_code 139 3 142 (.getfield 9) := ⟨by decide +kernel, rfl⟩
set_option maxRecDepth 100000 in
theorem ii_wy_goOn_142 : sm_D prog_7_method_5_code 142 3 145 (.invokevirtual 99) := ⟨by decide +kernel, rfl⟩
set_option maxRecDepth 100000 in
theorem ii_wy_goOn_145 : sm_D prog_7_method_5_code 145 3 148 (.iinc 3 1) := ⟨by decide +kernel, rfl⟩
set_option maxRecDepth 100000 in
theorem ii_wy_goOn_148 : sm_D prog_7_method_5_code 148 3 151 (.goto (-106)) := ⟨by decide +kernel, rfl⟩
set_option maxRecDepth 100000 in
theorem ii_wy_goOn_151 : sm_D prog_7_method_5_code 151 1 152 (.return_) := ⟨by decide +kernel, rfl⟩
noncomputable def ff_wy_goOn_85 (rc : Int32 → Int32 → sm_Mem → sm_R) (self42 : Int32 → Int32 → Int32 → sm_Mem → sm_R) (a1 : Int32) (a2 : Int32) (a3 : Int32) (w : sm_Mem) : sm_R := (Option.bind (sm_rd w 50 5 a1) fun x1 => (sm_cI (ff_hs_can (a3) (x1) w) fun x2 w3 => (if x2 = (0 : Int32) then self42 (a1) (a2) ((a3 + (1 : Int32))) w3 else (Option.bind (sm_wr w3 52 5 a1 a3) fun w4 => (Option.bind (sm_rd w4 50 5 a1) fun x5 => (sm_cV (ff_hs_push (a3) (x5) w4) fun w7 => (sm_cV (rc ((a1 + (1 : Int32))) ((a2 ||| ((1 : Int32) <<< (a3 &&& (31 : Int32))))) w7) fun w9 => (sm_cV (ff_hs_pop  w9) fun w11 => self42 (a1) (a2) ((a3 + (1 : Int32))) w11))))))))
set_option maxHeartbeats 4000000 in
set_option maxRecDepth 100000 in
theorem ss_wy_goOn_85 {E : Nat × (Nat → Int32)} {dn : Nat} (rc : Int32 → Int32 → sm_Mem → sm_R) (hrc : ∀ (a1 : Int32) (a2 : Int32) (w : sm_Mem), sm_MC E (mi_wy_goOn (5 + dn)) [.ref 49, .int a1, .int a2] w (rc a1 a2 w)) (self42 : Int32 → Int32 → Int32 → sm_Mem → sm_R) (hself42 : ∀ (a1 : Int32) (a2 : Int32) (a3 : Int32) (w : sm_Mem), sm_Sim E (mi_wy_goOn (5 + dn + 1)) 42 [some (.ref 49), some (.int a1), some (.int a2), some (.int a3)] [] w (self42 a1 a2 a3 w)) (a1 : Int32) (a2 : Int32) (a3 : Int32) (w : sm_Mem) : sm_Sim E (mi_wy_goOn (5 + dn + 1)) 85 [some (.ref 49), some (.int a1), some (.int a2), some (.int a3)] [] w (ff_wy_goOn_85 rc self42 a1 a2 a3 w) := by
  unfold ff_wy_goOn_85
  refine sm_aload_n ii_wy_goOn_85 rfl ?_
  refine sm_getR 36 ii_wy_goOn_86 fl_wy_9 (k := 49) rfl ?_
  refine sm_iload_n ii_wy_goOn_89 rfl ?_
  refine sm_aload_n ii_wy_goOn_90 rfl ?_
  refine sm_getR 50 ii_wy_goOn_91 fl_wy_15 (k := 49) rfl ?_
  refine sm_iload_n ii_wy_goOn_94 rfl ?_
  refine sm_iald ii_wy_goOn_95 (k := 50) rfl (fun x1 => ?_)
  refine sm_cvI [.int a3, .int x1] [] rfl ii_wy_goOn_96 ml_wy_92 (mf_hs_can) (mv_hs_can) (sm_kle rfl) rfl 1 rfl rfl rfl rfl (mc_hs_can (a3) (x1) w) (fun x2 w3 => ?_)
  refine sm_if_ne 105 ii_wy_goOn_99 (by decide) ?_ ?_
  · refine sm_goto 145 ii_wy_goOn_102 (by decide) ?_
    refine sm_iinc (a3 + (1 : Int32)) [some (.ref 49), some (.int a1), some (.int a2), some (.int (a3 + (1 : Int32)))] ii_wy_goOn_145 rfl rfl rfl rfl ?_
    refine sm_goto 42 ii_wy_goOn_148 (by decide) ?_
    exact hself42 (a1) (a2) ((a3 + (1 : Int32))) w3
  · refine sm_aload_n ii_wy_goOn_105 rfl ?_
    refine sm_getR 52 ii_wy_goOn_106 fl_wy_22 (k := 49) rfl ?_
    refine sm_iload_n ii_wy_goOn_109 rfl ?_
    refine sm_iload_n ii_wy_goOn_110 rfl ?_
    refine sm_iast ii_wy_goOn_111 (k := 52) rfl (fun w4 => ?_)
    refine sm_aload_n ii_wy_goOn_112 rfl ?_
    refine sm_getR 36 ii_wy_goOn_113 fl_wy_9 (k := 49) rfl ?_
    refine sm_iload_n ii_wy_goOn_116 rfl ?_
    refine sm_aload_n ii_wy_goOn_117 rfl ?_
    refine sm_getR 50 ii_wy_goOn_118 fl_wy_15 (k := 49) rfl ?_
    refine sm_iload_n ii_wy_goOn_121 rfl ?_
    refine sm_iald ii_wy_goOn_122 (k := 50) rfl (fun x5 => ?_)
    refine sm_cvV [.int a3, .int x5] [] rfl ii_wy_goOn_123 ml_wy_96 (mf_hs_push) (mv_hs_push) (sm_kle rfl) rfl 1 rfl rfl rfl rfl (mc_hs_push (a3) (x5) w4) (fun w7 => ?_)
    refine sm_aload_n ii_wy_goOn_126 rfl ?_
    refine sm_iload_n ii_wy_goOn_127 rfl ?_
    refine sm_iconst (1 : Int32) ii_wy_goOn_128 (by decide) ?_
    refine sm_iadd ii_wy_goOn_129 ?_
    refine sm_iload_n ii_wy_goOn_130 rfl ?_
    refine sm_iconst (1 : Int32) ii_wy_goOn_131 (by decide) ?_
    refine sm_iload_n ii_wy_goOn_132 rfl ?_
    refine sm_ishl ii_wy_goOn_133 ?_
    refine sm_ior ii_wy_goOn_134 ?_
    refine sm_cvV [.int (a1 + (1 : Int32)), .int (a2 ||| ((1 : Int32) <<< (a3 &&& (31 : Int32))))] [] rfl ii_wy_goOn_135 ml_wy_59 (mf_wy_goOn (5 + dn)) (mv_wy_goOn (5 + dn)) (Nat.le_refl _) rfl 5 rfl rfl rfl rfl (hrc ((a1 + (1 : Int32))) ((a2 ||| ((1 : Int32) <<< (a3 &&& (31 : Int32))))) w7) (fun w9 => ?_)
    refine sm_aload_n ii_wy_goOn_138 rfl ?_
    refine sm_getR 36 ii_wy_goOn_139 fl_wy_9 (k := 49) rfl ?_
    refine sm_cvV [] [] rfl ii_wy_goOn_142 ml_wy_99 (mf_hs_pop) (mv_hs_pop) (sm_kle rfl) rfl 1 rfl rfl rfl rfl (mc_hs_pop  w9) (fun w11 => ?_)
    refine sm_iinc (a3 + (1 : Int32)) [some (.ref 49), some (.int a1), some (.int a2), some (.int (a3 + (1 : Int32)))] ii_wy_goOn_145 rfl rfl rfl rfl ?_
    refine sm_goto 42 ii_wy_goOn_148 (by decide) ?_
    exact hself42 (a1) (a2) ((a3 + (1 : Int32))) w11
noncomputable def ff_wy_goOn_42_b (rc : Int32 → Int32 → sm_Mem → sm_R)  (self42 : Int32 → Int32 → Int32 → sm_Mem → sm_R) (a1 : Int32) (a2 : Int32) (a3 : Int32) (w : sm_Mem) : sm_R := (if (w.1 36 0) ≤ a3 then (some (.null, w)) else (Option.bind (sm_rd w 51 5 a1) fun x12 => (if x12 = (-9 : Int32) then ff_wy_goOn_85 rc self42 (a1) (a2) (a3) w else (Option.bind (sm_rd w 51 5 a1) fun x13 => (Option.bind (sm_rd w 41 6 a3) fun x14 => (if x13 = x14 then ff_wy_goOn_85 rc self42 (a1) (a2) (a3) w else self42 (a1) (a2) ((a3 + (1 : Int32))) w))))))
noncomputable def ff_wy_goOn_42_f (rc : Int32 → Int32 → sm_Mem → sm_R)  : Nat → Int32 → Int32 → Int32 → sm_Mem → sm_R
  | 0, _, _, _, _ => none
  | n + 1, a1, a2, a3, w => ff_wy_goOn_42_b rc  (ff_wy_goOn_42_f rc  n) a1 a2 a3 w
noncomputable def ff_wy_goOn_42 (rc : Int32 → Int32 → sm_Mem → sm_R)  (a1 : Int32) (a2 : Int32) (a3 : Int32) (w : sm_Mem) : sm_R := ff_wy_goOn_42_f rc  sm_N a1 a2 a3 w
set_option maxHeartbeats 4000000 in
set_option maxRecDepth 100000 in
theorem ss_wy_goOn_42_b {E : Nat × (Nat → Int32)} {dn : Nat} (rc : Int32 → Int32 → sm_Mem → sm_R) (hrc : ∀ (a1 : Int32) (a2 : Int32) (w : sm_Mem), sm_MC E (mi_wy_goOn (5 + dn)) [.ref 49, .int a1, .int a2] w (rc a1 a2 w))  (self42 : Int32 → Int32 → Int32 → sm_Mem → sm_R) (hself42 : ∀ (a1 : Int32) (a2 : Int32) (a3 : Int32) (w : sm_Mem), sm_Sim E (mi_wy_goOn (5 + dn + 1)) 42 [some (.ref 49), some (.int a1), some (.int a2), some (.int a3)] [] w (self42 a1 a2 a3 w)) (a1 : Int32) (a2 : Int32) (a3 : Int32) (w : sm_Mem) : sm_Sim E (mi_wy_goOn (5 + dn + 1)) 42 [some (.ref 49), some (.int a1), some (.int a2), some (.int a3)] [] w (ff_wy_goOn_42_b rc  self42 a1 a2 a3 w) := by
  unfold ff_wy_goOn_42_b
  refine sm_iload_n ii_wy_goOn_42 rfl ?_
  refine sm_aload_n ii_wy_goOn_43 rfl ?_
  refine sm_getR 36 ii_wy_goOn_44 fl_wy_9 (k := 49) rfl ?_
  refine sm_getI ii_wy_goOn_47 fl_wy_84 (k := 36) rfl ?_
  refine sm_icmp_ge 151 ii_wy_goOn_50 (by decide) ?_ ?_
  · exact sm_vret ii_wy_goOn_151 rfl
  · refine sm_aload_n ii_wy_goOn_53 rfl ?_
    refine sm_getR 51 ii_wy_goOn_54 fl_wy_19 (k := 49) rfl ?_
    refine sm_iload_n ii_wy_goOn_57 rfl ?_
    refine sm_iald ii_wy_goOn_58 (k := 51) rfl (fun x12 => ?_)
    refine sm_bipush (-9 : Int32) ii_wy_goOn_59 (by decide) ?_
    refine sm_icmp_eq 85 ii_wy_goOn_61 (by decide) ?_ ?_
    · exact ss_wy_goOn_85 rc hrc self42 hself42 (a1) (a2) (a3) w
    · refine sm_aload_n ii_wy_goOn_64 rfl ?_
      refine sm_getR 51 ii_wy_goOn_65 fl_wy_19 (k := 49) rfl ?_
      refine sm_iload_n ii_wy_goOn_68 rfl ?_
      refine sm_iald ii_wy_goOn_69 (k := 51) rfl (fun x13 => ?_)
      refine sm_aload_n ii_wy_goOn_70 rfl ?_
      refine sm_getR 36 ii_wy_goOn_71 fl_wy_9 (k := 49) rfl ?_
      refine sm_getR 41 ii_wy_goOn_74 fl_wy_89 (k := 36) rfl ?_
      refine sm_iload_n ii_wy_goOn_77 rfl ?_
      refine sm_iald ii_wy_goOn_78 (k := 41) rfl (fun x14 => ?_)
      refine sm_icmp_eq 85 ii_wy_goOn_79 (by decide) ?_ ?_
      · exact ss_wy_goOn_85 rc hrc self42 hself42 (a1) (a2) (a3) w
      · refine sm_goto 145 ii_wy_goOn_82 (by decide) ?_
        refine sm_iinc (a3 + (1 : Int32)) [some (.ref 49), some (.int a1), some (.int a2), some (.int (a3 + (1 : Int32)))] ii_wy_goOn_145 rfl rfl rfl rfl ?_
        refine sm_goto 42 ii_wy_goOn_148 (by decide) ?_
        exact hself42 (a1) (a2) ((a3 + (1 : Int32))) w
set_option maxHeartbeats 4000000 in
set_option maxRecDepth 100000 in
theorem ss_wy_goOn_42_f {E : Nat × (Nat → Int32)} {dn : Nat} (rc : Int32 → Int32 → sm_Mem → sm_R) (hrc : ∀ (a1 : Int32) (a2 : Int32) (w : sm_Mem), sm_MC E (mi_wy_goOn (5 + dn)) [.ref 49, .int a1, .int a2] w (rc a1 a2 w))  : ∀ (n : Nat) (a1 : Int32) (a2 : Int32) (a3 : Int32) (w : sm_Mem), sm_Sim E (mi_wy_goOn (5 + dn + 1)) 42 [some (.ref 49), some (.int a1), some (.int a2), some (.int a3)] [] w (ff_wy_goOn_42_f rc  n a1 a2 a3 w)
  | 0, _, _, _, _ => fun _ _ h => by cases h
  | n + 1, a1, a2, a3, w => ss_wy_goOn_42_b rc hrc  _ (ss_wy_goOn_42_f rc hrc  n) a1 a2 a3 w
set_option maxHeartbeats 4000000 in
set_option maxRecDepth 100000 in
theorem ss_wy_goOn_42 {E : Nat × (Nat → Int32)} {dn : Nat} (rc : Int32 → Int32 → sm_Mem → sm_R) (hrc : ∀ (a1 : Int32) (a2 : Int32) (w : sm_Mem), sm_MC E (mi_wy_goOn (5 + dn)) [.ref 49, .int a1, .int a2] w (rc a1 a2 w))  (a1 : Int32) (a2 : Int32) (a3 : Int32) (w : sm_Mem) : sm_Sim E (mi_wy_goOn (5 + dn + 1)) 42 [some (.ref 49), some (.int a1), some (.int a2), some (.int a3)] [] w (ff_wy_goOn_42 rc  a1 a2 a3 w) := ss_wy_goOn_42_f rc hrc  sm_N a1 a2 a3 w
noncomputable def ff_wy_goOn_0 (rc : Int32 → Int32 → sm_Mem → sm_R)  (a1 : Int32) (a2 : Int32) (w : sm_Mem) : sm_R := (Option.bind (sm_rd w 53 6 a1) fun x15 => (Option.bind (sm_wr w 53 6 a1 (x15 + (1 : Int32))) fun w16 => (Option.bind (sm_rd w16 54 64 a2) fun x17 => (Option.bind (sm_wr w16 54 64 a2 (if x17 < a1 then a1 else x17)) fun w18 => (if a1 < (w18.1 49 3) then ff_wy_goOn_42 rc (a1) (a2) ((0 : Int32)) w18 else (sm_cV (ff_wy_finish (a2) w18) fun w20 => (some (.null, w20))))))))
set_option maxHeartbeats 4000000 in
set_option maxRecDepth 100000 in
theorem ss_wy_goOn_0 {E : Nat × (Nat → Int32)} {dn : Nat} (rc : Int32 → Int32 → sm_Mem → sm_R) (hrc : ∀ (a1 : Int32) (a2 : Int32) (w : sm_Mem), sm_MC E (mi_wy_goOn (5 + dn)) [.ref 49, .int a1, .int a2] w (rc a1 a2 w))  (a1 : Int32) (a2 : Int32) (w : sm_Mem) : sm_Sim E (mi_wy_goOn (5 + dn + 1)) 0 [some (.ref 49), some (.int a1), some (.int a2), none] [] w (ff_wy_goOn_0 rc  a1 a2 w) := by
  unfold ff_wy_goOn_0
  refine sm_aload_n ii_wy_goOn_0 rfl ?_
  refine sm_getR 53 ii_wy_goOn_1 fl_wy_25 (k := 49) rfl ?_
  refine sm_iload_n ii_wy_goOn_4 rfl ?_
  refine sm_dup2 ii_wy_goOn_5 ?_
  refine sm_iald ii_wy_goOn_6 (k := 53) rfl (fun x15 => ?_)
  refine sm_iconst (1 : Int32) ii_wy_goOn_7 (by decide) ?_
  refine sm_iadd ii_wy_goOn_8 ?_
  refine sm_iast ii_wy_goOn_9 (k := 53) rfl (fun w16 => ?_)
  refine sm_aload_n ii_wy_goOn_10 rfl ?_
  refine sm_getR 54 ii_wy_goOn_11 fl_wy_28 (k := 49) rfl ?_
  refine sm_iload_n ii_wy_goOn_14 rfl ?_
  refine sm_aload_n ii_wy_goOn_15 rfl ?_
  refine sm_getR 54 ii_wy_goOn_16 fl_wy_28 (k := 49) rfl ?_
  refine sm_iload_n ii_wy_goOn_19 rfl ?_
  refine sm_iald ii_wy_goOn_20 (k := 54) rfl (fun x17 => ?_)
  refine sm_iload_n ii_wy_goOn_21 rfl ?_
  refine sm_mmax ii_wy_goOn_22 mq_wy_46 mq_st_max mq_in mq_co_max (Nat.le_add_left 1 _) rfl ?_
  refine sm_iast ii_wy_goOn_25 (k := 54) rfl (fun w18 => ?_)
  refine sm_iload_n ii_wy_goOn_26 rfl ?_
  refine sm_aload_n ii_wy_goOn_27 rfl ?_
  refine sm_getI ii_wy_goOn_28 fl_wy_49 (k := 49) rfl ?_
  refine sm_icmp_lt 40 ii_wy_goOn_31 (by decide) ?_ ?_
  · refine sm_iconst (0 : Int32) ii_wy_goOn_40 (by decide) ?_
    refine sm_istore_n [some (.ref 49), some (.int a1), some (.int a2), some (.int (0 : Int32))] ii_wy_goOn_41 rfl rfl ?_
    exact ss_wy_goOn_42 rc hrc (a1) (a2) ((0 : Int32)) w18
  · refine sm_aload_n ii_wy_goOn_34 rfl ?_
    refine sm_iload_n ii_wy_goOn_35 rfl ?_
    refine sm_cvV [.int a2] [] rfl ii_wy_goOn_36 ml_wy_81 (mf_wy_finish) (mv_wy_finish) (sm_kle rfl) rfl 5 rfl rfl rfl rfl (mc_wy_finish (a2) w18) (fun w20 => ?_)
    exact sm_vret ii_wy_goOn_39 rfl
noncomputable def ff_wy_goOn : Nat → Int32 → Int32 → sm_Mem → sm_R
  | 0, _, _, _ => none
  | n + 1, a1, a2, w => ff_wy_goOn_0 (ff_wy_goOn n) a1 a2 w
set_option maxHeartbeats 4000000 in
set_option maxRecDepth 100000 in
theorem mc_wy_goOn {E : Nat × (Nat → Int32)} : ∀ (n : Nat) (a1 : Int32) (a2 : Int32) (w : sm_Mem), sm_MC E (mi_wy_goOn (5 + n)) [.ref 49, .int a1, .int a2] w (ff_wy_goOn n a1 a2 w)
  | 0, _, _, _ => fun _ _ h => by cases h
  | n + 1, a1, a2, w => sm_MC_of E (show plainName "HerOrders$Ways" = true by decide +kernel) rfl (Nat.le_of_ble_eq_true rfl) (ss_wy_goOn_0 (dn := n) _ (mc_wy_goOn n) a1 a2 w)
abbrev mi_wy_runWords : sm_MI := (⟨"HerOrders$Ways", "runWords", "(LHerOrders$Row;I)V"⟩, prog_7_method_2_code, 4, none, 14)
set_option maxRecDepth 100000 in
theorem mf_wy_runWords : sm_MF mi_wy_runWords 2 := ⟨List.mem_of_getElem? (i := 507) (by decide +kernel), List.mem_of_getElem? (i := 74) (by decide +kernel), ⟨by decide, by decide⟩, by decide +kernel⟩
set_option maxRecDepth 100000 in
theorem mv_wy_runWords : sm_MFV mi_wy_runWords := ⟨List.mem_of_getElem? (i := 506) (by decide +kernel), List.mem_of_getElem? (i := 23) (by decide +kernel)⟩
set_option maxRecDepth 100000 in
theorem ii_wy_runWords_0 : sm_D prog_7_method_2_code 0 1 1 (.aload_n 0) := ⟨by decide +kernel, rfl⟩
set_option maxRecDepth 100000 in
theorem ii_wy_runWords_1 : sm_D prog_7_method_2_code 1 1 2 (.iconst 0) := ⟨by decide +kernel, rfl⟩
set_option maxRecDepth 100000 in
theorem ii_wy_runWords_2 : sm_D prog_7_method_2_code 2 1 3 (.aload_n 1) := ⟨by decide +kernel, rfl⟩
set_option maxRecDepth 100000 in
theorem ii_wy_runWords_3 : sm_D prog_7_method_2_code 3 3 6 (.getfield 34) := ⟨by decide +kernel, rfl⟩
set_option maxRecDepth 100000 in
theorem ii_wy_runWords_6 : sm_D prog_7_method_2_code 6 1 7 (.iconst 5) := ⟨by decide +kernel, rfl⟩
set_option maxRecDepth 100000 in
theorem ii_wy_runWords_7 : sm_D prog_7_method_2_code 7 3 10 (.invokestatic 40) := ⟨by decide +kernel, rfl⟩
set_option maxRecDepth 100000 in
theorem ii_wy_runWords_10 : sm_D prog_7_method_2_code 10 3 13 (.invokestatic 46) := ⟨by decide +kernel, rfl⟩
set_option maxRecDepth 100000 in
theorem ii_wy_runWords_13 : sm_D prog_7_method_2_code 13 3 16 (.putfield 49) := ⟨by decide +kernel, rfl⟩
set_option maxRecDepth 100000 in
theorem ii_wy_runWords_16 : sm_D prog_7_method_2_code 16 1 17 (.iconst 0) := ⟨by decide +kernel, rfl⟩
set_option maxRecDepth 100000 in
theorem ii_wy_runWords_17 : sm_D prog_7_method_2_code 17 1 18 (.istore_n 3) := ⟨by decide +kernel, rfl⟩
set_option maxRecDepth 100000 in
theorem ii_wy_runWords_18 : sm_D prog_7_method_2_code 18 1 19 (.iload_n 3) := ⟨by decide +kernel, rfl⟩
set_option maxRecDepth 100000 in
theorem ii_wy_runWords_19 : sm_D prog_7_method_2_code 19 1 20 (.aload_n 0) := ⟨by decide +kernel, rfl⟩
set_option maxRecDepth 100000 in
theorem ii_wy_runWords_20 : sm_D prog_7_method_2_code 20 3 23 (.getfield 49) := ⟨by decide +kernel, rfl⟩
set_option maxRecDepth 100000 in
theorem ii_wy_runWords_23 : sm_D prog_7_method_2_code 23 3 26 (.if_icmp .ge 29) := ⟨by decide +kernel, rfl⟩
set_option maxRecDepth 100000 in
theorem ii_wy_runWords_26 : sm_D prog_7_method_2_code 26 1 27 (.aload_n 0) := ⟨by decide +kernel, rfl⟩
set_option maxRecDepth 100000 in
theorem ii_wy_runWords_27 : sm_D prog_7_method_2_code 27 3 30 (.getfield 15) := ⟨by decide +kernel, rfl⟩
set_option maxRecDepth 100000 in
theorem ii_wy_runWords_30 : sm_D prog_7_method_2_code 30 1 31 (.iload_n 3) := ⟨by decide +kernel, rfl⟩
set_option maxRecDepth 100000 in
theorem ii_wy_runWords_31 : sm_D prog_7_method_2_code 31 1 32 (.aload_n 1) := ⟨by decide +kernel, rfl⟩
set_option maxRecDepth 100000 in
theorem ii_wy_runWords_32 : sm_D prog_7_method_2_code 32 3 35 (.getfield 52) := ⟨by decide +kernel, rfl⟩
set_option maxRecDepth 100000 in
theorem ii_wy_runWords_35 : sm_D prog_7_method_2_code 35 1 36 (.iload_n 3) := ⟨by decide +kernel, rfl⟩
set_option maxRecDepth 100000 in
theorem ii_wy_runWords_36 : sm_D prog_7_method_2_code 36 1 37 (.iaload) := ⟨by decide +kernel, rfl⟩
set_option maxRecDepth 100000 in
theorem ii_wy_runWords_37 : sm_D prog_7_method_2_code 37 1 38 (.iastore) := ⟨by decide +kernel, rfl⟩
set_option maxRecDepth 100000 in
theorem ii_wy_runWords_38 : sm_D prog_7_method_2_code 38 1 39 (.aload_n 0) := ⟨by decide +kernel, rfl⟩
set_option maxRecDepth 100000 in
theorem ii_wy_runWords_39 : sm_D prog_7_method_2_code 39 3 42 (.getfield 19) := ⟨by decide +kernel, rfl⟩
set_option maxRecDepth 100000 in
theorem ii_wy_runWords_42 : sm_D prog_7_method_2_code 42 1 43 (.iload_n 3) := ⟨by decide +kernel, rfl⟩
set_option maxRecDepth 100000 in
theorem ii_wy_runWords_43 : sm_D prog_7_method_2_code 43 2 45 (.bipush (-9)) := ⟨by decide +kernel, rfl⟩
set_option maxRecDepth 100000 in
theorem ii_wy_runWords_45 : sm_D prog_7_method_2_code 45 1 46 (.iastore) := ⟨by decide +kernel, rfl⟩
set_option maxRecDepth 100000 in
theorem ii_wy_runWords_46 : sm_D prog_7_method_2_code 46 3 49 (.iinc 3 1) := ⟨by decide +kernel, rfl⟩
set_option maxRecDepth 100000 in
theorem ii_wy_runWords_49 : sm_D prog_7_method_2_code 49 3 52 (.goto (-31)) := ⟨by decide +kernel, rfl⟩
set_option maxRecDepth 100000 in
theorem ii_wy_runWords_52 : sm_D prog_7_method_2_code 52 1 53 (.aload_n 0) := ⟨by decide +kernel, rfl⟩
set_option maxRecDepth 100000 in
theorem ii_wy_runWords_53 : sm_D prog_7_method_2_code 53 1 54 (.iload_n 2) := ⟨by decide +kernel, rfl⟩
set_option maxRecDepth 100000 in
theorem ii_wy_runWords_54 : sm_D prog_7_method_2_code 54 3 57 (.invokevirtual 55) := ⟨by decide +kernel, rfl⟩
set_option maxRecDepth 100000 in
theorem ii_wy_runWords_57 : sm_D prog_7_method_2_code 57 1 58 (.aload_n 0) := ⟨by decide +kernel, rfl⟩
set_option maxRecDepth 100000 in
theorem ii_wy_runWords_58 : sm_D prog_7_method_2_code 58 1 59 (.iconst 0) := ⟨by decide +kernel, rfl⟩
set_option maxRecDepth 100000 in
theorem ii_wy_runWords_59 : sm_D prog_7_method_2_code 59 1 60 (.iconst 0) := ⟨by decide +kernel, rfl⟩
set_option maxRecDepth 100000 in
theorem ii_wy_runWords_60 : sm_D prog_7_method_2_code 60 3 63 (.invokevirtual 59) := ⟨by decide +kernel, rfl⟩
set_option maxRecDepth 100000 in
theorem ii_wy_runWords_63 : sm_D prog_7_method_2_code 63 1 64 (.return_) := ⟨by decide +kernel, rfl⟩
noncomputable def ff_wy_runWords_18_b  (self18 : Nat → Int32 → Int32 → sm_Mem → sm_R) (a1 : Nat) (a2 : Int32) (a3 : Int32) (w : sm_Mem) : sm_R := (if (w.1 49 3) ≤ a3 then (sm_cV (ff_wy_clear (a2) w) fun w2 => (sm_cV (ff_wy_goOn 8 ((0 : Int32)) ((0 : Int32)) w2) fun w4 => (some (.null, w4)))) else (Option.bind (sm_fk a1 2 0 2) fun r5 => (Option.bind (sm_rds w r5 a3) fun x6 => (Option.bind (sm_wr w 50 5 a3 x6) fun w7 => (Option.bind (sm_wr w7 51 5 a3 (-9 : Int32)) fun w8 => self18 (a1) (a2) ((a3 + (1 : Int32))) w8)))))
noncomputable def ff_wy_runWords_18_f  : Nat → Nat → Int32 → Int32 → sm_Mem → sm_R
  | 0, _, _, _, _ => none
  | n + 1, a1, a2, a3, w => ff_wy_runWords_18_b  (ff_wy_runWords_18_f  n) a1 a2 a3 w
noncomputable def ff_wy_runWords_18  (a1 : Nat) (a2 : Int32) (a3 : Int32) (w : sm_Mem) : sm_R := ff_wy_runWords_18_f  sm_N a1 a2 a3 w
set_option maxHeartbeats 4000000 in
set_option maxRecDepth 100000 in
theorem ss_wy_runWords_18_b {E : Nat × (Nat → Int32)}  (self18 : Nat → Int32 → Int32 → sm_Mem → sm_R) (hself18 : ∀ (a1 : Nat) (a2 : Int32) (a3 : Int32) (w : sm_Mem), sm_Sim E (mi_wy_runWords) 18 [some (.ref 49), some (.ref a1), some (.int a2), some (.int a3)] [] w (self18 a1 a2 a3 w)) (a1 : Nat) (a2 : Int32) (a3 : Int32) (w : sm_Mem) : sm_Sim E (mi_wy_runWords) 18 [some (.ref 49), some (.ref a1), some (.int a2), some (.int a3)] [] w (ff_wy_runWords_18_b  self18 a1 a2 a3 w) := by
  unfold ff_wy_runWords_18_b
  refine sm_iload_n ii_wy_runWords_18 rfl ?_
  refine sm_aload_n ii_wy_runWords_19 rfl ?_
  refine sm_getI ii_wy_runWords_20 fl_wy_49 (k := 49) rfl ?_
  refine sm_icmp_ge 52 ii_wy_runWords_23 (by decide) ?_ ?_
  · refine sm_aload_n ii_wy_runWords_52 rfl ?_
    refine sm_iload_n ii_wy_runWords_53 rfl ?_
    refine sm_cvV [.int a2] [] rfl ii_wy_runWords_54 ml_wy_55 (mf_wy_clear) (mv_wy_clear) (Nat.le_of_ble_eq_true rfl) rfl 5 rfl rfl rfl rfl (mc_wy_clear (a2) w) (fun w2 => ?_)
    refine sm_aload_n ii_wy_runWords_57 rfl ?_
    refine sm_iconst (0 : Int32) ii_wy_runWords_58 (by decide) ?_
    refine sm_iconst (0 : Int32) ii_wy_runWords_59 (by decide) ?_
    refine sm_cvV [.int (0 : Int32), .int (0 : Int32)] [] rfl ii_wy_runWords_60 ml_wy_59 (mf_wy_goOn 13) (mv_wy_goOn 13) (Nat.le_of_ble_eq_true rfl) rfl 5 rfl rfl rfl rfl (mc_wy_goOn 8 ((0 : Int32)) ((0 : Int32)) w2) (fun w4 => ?_)
    exact sm_vret ii_wy_runWords_63 rfl
  · refine sm_aload_n ii_wy_runWords_26 rfl ?_
    refine sm_getR 50 ii_wy_runWords_27 fl_wy_15 (k := 49) rfl ?_
    refine sm_iload_n ii_wy_runWords_30 rfl ?_
    refine sm_aload_n ii_wy_runWords_31 rfl ?_
    refine sm_getRs ii_wy_runWords_32 fl_wy_52 (fun r5 => ?_)
    refine sm_iload_n ii_wy_runWords_35 rfl ?_
    refine sm_ialds ii_wy_runWords_36 (fun x6 => ?_)
    refine sm_iast ii_wy_runWords_37 (k := 50) rfl (fun w7 => ?_)
    refine sm_aload_n ii_wy_runWords_38 rfl ?_
    refine sm_getR 51 ii_wy_runWords_39 fl_wy_19 (k := 49) rfl ?_
    refine sm_iload_n ii_wy_runWords_42 rfl ?_
    refine sm_bipush (-9 : Int32) ii_wy_runWords_43 (by decide) ?_
    refine sm_iast ii_wy_runWords_45 (k := 51) rfl (fun w8 => ?_)
    refine sm_iinc (a3 + (1 : Int32)) [some (.ref 49), some (.ref a1), some (.int a2), some (.int (a3 + (1 : Int32)))] ii_wy_runWords_46 rfl rfl rfl rfl ?_
    refine sm_goto 18 ii_wy_runWords_49 (by decide) ?_
    exact hself18 (a1) (a2) ((a3 + (1 : Int32))) w8
set_option maxHeartbeats 4000000 in
set_option maxRecDepth 100000 in
theorem ss_wy_runWords_18_f {E : Nat × (Nat → Int32)}  : ∀ (n : Nat) (a1 : Nat) (a2 : Int32) (a3 : Int32) (w : sm_Mem), sm_Sim E (mi_wy_runWords) 18 [some (.ref 49), some (.ref a1), some (.int a2), some (.int a3)] [] w (ff_wy_runWords_18_f  n a1 a2 a3 w)
  | 0, _, _, _, _ => fun _ _ h => by cases h
  | n + 1, a1, a2, a3, w => ss_wy_runWords_18_b  _ (ss_wy_runWords_18_f  n) a1 a2 a3 w
set_option maxHeartbeats 4000000 in
set_option maxRecDepth 100000 in
theorem ss_wy_runWords_18 {E : Nat × (Nat → Int32)}  (a1 : Nat) (a2 : Int32) (a3 : Int32) (w : sm_Mem) : sm_Sim E (mi_wy_runWords) 18 [some (.ref 49), some (.ref a1), some (.int a2), some (.int a3)] [] w (ff_wy_runWords_18  a1 a2 a3 w) := ss_wy_runWords_18_f  sm_N a1 a2 a3 w
noncomputable def ff_wy_runWords  (a1 : Nat) (a2 : Int32) (w : sm_Mem) : sm_R := (Option.bind (sm_gI w a1 2 1) fun x9 => (sm_let (sm_wI w 49 3 (if (0 : Int32) < (if (5 : Int32) < x9 then (5 : Int32) else x9) then (if (5 : Int32) < x9 then (5 : Int32) else x9) else (0 : Int32))) fun w10 => ff_wy_runWords_18 (a1) (a2) ((0 : Int32)) w10))
set_option maxHeartbeats 4000000 in
set_option maxRecDepth 100000 in
theorem ss_wy_runWords_0 {E : Nat × (Nat → Int32)}  (a1 : Nat) (a2 : Int32) (w : sm_Mem) : sm_Sim E (mi_wy_runWords) 0 [some (.ref 49), some (.ref a1), some (.int a2), none] [] w (ff_wy_runWords  a1 a2 w) := by
  unfold ff_wy_runWords
  refine sm_aload_n ii_wy_runWords_0 rfl ?_
  refine sm_iconst (0 : Int32) ii_wy_runWords_1 (by decide) ?_
  refine sm_aload_n ii_wy_runWords_2 rfl ?_
  refine sm_getIs ii_wy_runWords_3 fl_wy_34 (fun x9 => ?_)
  refine sm_iconst (5 : Int32) ii_wy_runWords_6 (by decide) ?_
  refine sm_mmin ii_wy_runWords_7 mq_wy_40 mq_st_min mq_in mq_co_min (by decide) rfl ?_
  refine sm_mmax ii_wy_runWords_10 mq_wy_46 mq_st_max mq_in mq_co_max (by decide) rfl ?_
  refine sm_putI ii_wy_runWords_13 fp_wy_49 (k := 49) rfl (fun w10 => ?_)
  refine sm_iconst (0 : Int32) ii_wy_runWords_16 (by decide) ?_
  refine sm_istore_n [some (.ref 49), some (.ref a1), some (.int a2), some (.int (0 : Int32))] ii_wy_runWords_17 rfl rfl ?_
  exact ss_wy_runWords_18 (a1) (a2) ((0 : Int32)) w10
set_option maxHeartbeats 4000000 in
set_option maxRecDepth 100000 in
theorem mc_wy_runWords {E : Nat × (Nat → Int32)} (a1 : Nat) (a2 : Int32) (w : sm_Mem) : sm_MC E mi_wy_runWords [.ref 49, .ref a1, .int a2] w (ff_wy_runWords a1 a2 w) := sm_MC_of E (by decide +kernel) rfl (Nat.le_of_ble_eq_true rfl) (ss_wy_runWords_0 a1 a2 w)
abbrev mi_wy_fullWays : sm_MI := (⟨"HerOrders$Ways", "fullWays", "()I"⟩, prog_7_method_9_code, 1, (some .int), 1)
set_option maxRecDepth 100000 in
theorem mf_wy_fullWays : sm_MF mi_wy_fullWays 0 := ⟨List.mem_of_getElem? (i := 544) (by decide +kernel), List.mem_of_getElem? (i := 74) (by decide +kernel), ⟨by decide, by decide⟩, by decide +kernel⟩
set_option maxRecDepth 100000 in
theorem mv_wy_fullWays : sm_MFV mi_wy_fullWays := ⟨List.mem_of_getElem? (i := 543) (by decide +kernel), List.mem_of_getElem? (i := 29) (by decide +kernel)⟩
set_option maxRecDepth 100000 in
theorem ii_wy_fullWays_0 : sm_D prog_7_method_9_code 0 1 1 (.aload_n 0) := ⟨by decide +kernel, rfl⟩
set_option maxRecDepth 100000 in
theorem ii_wy_fullWays_1 : sm_D prog_7_method_9_code 1 3 4 (.getfield 25) := ⟨by decide +kernel, rfl⟩
set_option maxRecDepth 100000 in
theorem ii_wy_fullWays_4 : sm_D prog_7_method_9_code 4 1 5 (.aload_n 0) := ⟨by decide +kernel, rfl⟩
set_option maxRecDepth 100000 in
theorem ii_wy_fullWays_5 : sm_D prog_7_method_9_code 5 3 8 (.getfield 49) := ⟨by decide +kernel, rfl⟩
set_option maxRecDepth 100000 in
theorem ii_wy_fullWays_8 : sm_D prog_7_method_9_code 8 1 9 (.iaload) := ⟨by decide +kernel, rfl⟩
set_option maxRecDepth 100000 in
theorem ii_wy_fullWays_9 : sm_D prog_7_method_9_code 9 1 10 (.ireturn) := ⟨by decide +kernel, rfl⟩
noncomputable def ff_wy_fullWays   (w : sm_Mem) : sm_R := (Option.bind (sm_rd w 53 6 (w.1 49 3)) fun x1 => (some (.int x1, w)))
set_option maxHeartbeats 4000000 in
set_option maxRecDepth 100000 in
theorem ss_wy_fullWays_0 {E : Nat × (Nat → Int32)}   (w : sm_Mem) : sm_Sim E (mi_wy_fullWays) 0 [some (.ref 49)] [] w (ff_wy_fullWays   w) := by
  unfold ff_wy_fullWays
  refine sm_aload_n ii_wy_fullWays_0 rfl ?_
  refine sm_getR 53 ii_wy_fullWays_1 fl_wy_25 (k := 49) rfl ?_
  refine sm_aload_n ii_wy_fullWays_4 rfl ?_
  refine sm_getI ii_wy_fullWays_5 fl_wy_49 (k := 49) rfl ?_
  refine sm_iald ii_wy_fullWays_8 (k := 53) rfl (fun x1 => ?_)
  exact sm_iret ii_wy_fullWays_9 rfl
set_option maxHeartbeats 4000000 in
set_option maxRecDepth 100000 in
theorem mc_wy_fullWays {E : Nat × (Nat → Int32)}  (w : sm_Mem) : sm_MC E mi_wy_fullWays [.ref 49] w (ff_wy_fullWays  w) := sm_MC_of E (by decide +kernel) rfl (Nat.le_of_ble_eq_true rfl) (ss_wy_fullWays_0  w)
abbrev mi_td_share : sm_MI := (⟨"HerOrders$Told", "share", "(JJ)V"⟩, prog_5_method_3_code, 12, none, 1)
set_option maxRecDepth 100000 in
theorem mf_td_share : sm_MF mi_td_share 2 := ⟨List.mem_of_getElem? (i := 548) (by decide +kernel), List.mem_of_getElem? (i := 76) (by decide +kernel), ⟨by decide, by decide⟩, by decide +kernel⟩
set_option maxRecDepth 100000 in
theorem mv_td_share : sm_MFV mi_td_share := ⟨List.mem_of_getElem? (i := 547) (by decide +kernel), List.mem_of_getElem? (i := 30) (by decide +kernel)⟩
set_option maxRecDepth 100000 in
theorem ii_td_share_0 : sm_D prog_5_method_3_code 0 1 1 (.lload_n 1) := ⟨by decide +kernel, rfl⟩
set_option maxRecDepth 100000 in
theorem ii_td_share_1 : sm_D prog_5_method_3_code 1 2 3 (.lstore 5) := ⟨by decide +kernel, rfl⟩
set_option maxRecDepth 100000 in
theorem ii_td_share_3 : sm_D prog_5_method_3_code 3 1 4 (.lload_n 3) := ⟨by decide +kernel, rfl⟩
set_option maxRecDepth 100000 in
theorem ii_td_share_4 : sm_D prog_5_method_3_code 4 2 6 (.lstore 7) := ⟨by decide +kernel, rfl⟩
set_option maxRecDepth 100000 in
theorem ii_td_share_6 : sm_D prog_5_method_3_code 6 1 7 (.iconst 0) := ⟨by decide +kernel, rfl⟩
set_option maxRecDepth 100000 in
theorem ii_td_share_7 : sm_D prog_5_method_3_code 7 2 9 (.istore 9) := ⟨by decide +kernel, rfl⟩
set_option maxRecDepth 100000 in
theorem ii_td_share_9 : sm_D prog_5_method_3_code 9 2 11 (.iload 9) := ⟨by decide +kernel, rfl⟩
set_option maxRecDepth 100000 in
theorem ii_td_share_11 : sm_D prog_5_method_3_code 11 2 13 (.bipush 100) := ⟨by decide +kernel, rfl⟩
set_option maxRecDepth 100000 in
theorem ii_td_share_13 : sm_D prog_5_method_3_code 13 3 16 (.if_icmp .ge 31) := ⟨by decide +kernel, rfl⟩
set_option maxRecDepth 100000 in
theorem ii_td_share_16 : sm_D prog_5_method_3_code 16 2 18 (.lload 7) := ⟨by decide +kernel, rfl⟩
set_option maxRecDepth 100000 in
theorem ii_td_share_18 : sm_D prog_5_method_3_code 18 1 19 (.lconst 0) := ⟨by decide +kernel, rfl⟩
set_option maxRecDepth 100000 in
theorem ii_td_share_19 : sm_D prog_5_method_3_code 19 1 20 (.lcmp) := ⟨by decide +kernel, rfl⟩
set_option maxRecDepth 100000 in
theorem ii_td_share_20 : sm_D prog_5_method_3_code 20 3 23 (.ifCond .eq 24) := ⟨by decide +kernel, rfl⟩
set_option maxRecDepth 100000 in
theorem ii_td_share_23 : sm_D prog_5_method_3_code 23 2 25 (.lload 5) := ⟨by decide +kernel, rfl⟩
set_option maxRecDepth 100000 in
theorem ii_td_share_25 : sm_D prog_5_method_3_code 25 2 27 (.lload 7) := ⟨by decide +kernel, rfl⟩
set_option maxRecDepth 100000 in
theorem ii_td_share_27 : sm_D prog_5_method_3_code 27 1 28 (.lrem) := ⟨by decide +kernel, rfl⟩
set_option maxRecDepth 100000 in
theorem ii_td_share_28 : sm_D prog_5_method_3_code 28 2 30 (.lstore 10) := ⟨by decide +kernel, rfl⟩
set_option maxRecDepth 100000 in
theorem ii_td_share_30 : sm_D prog_5_method_3_code 30 2 32 (.lload 7) := ⟨by decide +kernel, rfl⟩
set_option maxRecDepth 100000 in
theorem ii_td_share_32 : sm_D prog_5_method_3_code 32 2 34 (.lstore 5) := ⟨by decide +kernel, rfl⟩
set_option maxRecDepth 100000 in
theorem ii_td_share_34 : sm_D prog_5_method_3_code 34 2 36 (.lload 10) := ⟨by decide +kernel, rfl⟩
set_option maxRecDepth 100000 in
theorem ii_td_share_36 : sm_D prog_5_method_3_code 36 2 38 (.lstore 7) := ⟨by decide +kernel, rfl⟩
set_option maxRecDepth 100000 in
theorem ii_td_share_38 : sm_D prog_5_method_3_code 38 3 41 (.iinc 9 1) := ⟨by decide +kernel, rfl⟩
set_option maxRecDepth 100000 in
theorem ii_td_share_41 : sm_D prog_5_method_3_code 41 3 44 (.goto (-32)) := ⟨by decide +kernel, rfl⟩
set_option maxRecDepth 100000 in
theorem ii_td_share_44 : sm_D prog_5_method_3_code 44 2 46 (.lload 5) := ⟨by decide +kernel, rfl⟩
set_option maxRecDepth 100000 in
theorem ii_td_share_46 : sm_D prog_5_method_3_code 46 1 47 (.lconst 0) := ⟨by decide +kernel, rfl⟩
set_option maxRecDepth 100000 in
theorem ii_td_share_47 : sm_D prog_5_method_3_code 47 1 48 (.lcmp) := ⟨by decide +kernel, rfl⟩
set_option maxRecDepth 100000 in
theorem ii_td_share_48 : sm_D prog_5_method_3_code 48 3 51 (.ifCond .ne 4) := ⟨by decide +kernel, rfl⟩
set_option maxRecDepth 100000 in
theorem ii_td_share_51 : sm_D prog_5_method_3_code 51 1 52 (.return_) := ⟨by decide +kernel, rfl⟩
set_option maxRecDepth 100000 in
theorem ii_td_share_52 : sm_D prog_5_method_3_code 52 1 53 (.aload_n 0) := ⟨by decide +kernel, rfl⟩
set_option maxRecDepth 100000 in
theorem ii_td_share_53 : sm_D prog_5_method_3_code 53 1 54 (.lload_n 1) := ⟨by decide +kernel, rfl⟩
set_option maxRecDepth 100000 in
theorem ii_td_share_54 : sm_D prog_5_method_3_code 54 2 56 (.lload 5) := ⟨by decide +kernel, rfl⟩
set_option maxRecDepth 100000 in
theorem ii_td_share_56 : sm_D prog_5_method_3_code 56 1 57 (.ldiv) := ⟨by decide +kernel, rfl⟩
set_option maxRecDepth 100000 in
theorem ii_td_share_57 : sm_D prog_5_method_3_code 57 3 60 (.putfield 23) := ⟨by decide +kernel, rfl⟩
set_option maxRecDepth 100000 in
theorem ii_td_share_60 : sm_D prog_5_method_3_code 60 1 61 (.aload_n 0) := ⟨by decide +kernel, rfl⟩
set_option maxRecDepth 100000 in
theorem ii_td_share_61 : sm_D prog_5_method_3_code 61 1 62 (.lload_n 3) := ⟨by decide +kernel, rfl⟩
set_option maxRecDepth 100000 in
theorem ii_td_share_62 : sm_D prog_5_method_3_code 62 2 64 (.lload 5) := ⟨by decide +kernel, rfl⟩
set_option maxRecDepth 100000 in
theorem ii_td_share_64 : sm_D prog_5_method_3_code 64 1 65 (.ldiv) := ⟨by decide +kernel, rfl⟩
set_option maxRecDepth 100000 in
theorem ii_td_share_65 : sm_D prog_5_method_3_code 65 3 68 (.putfield 9) := ⟨by decide +kernel, rfl⟩
set_option maxRecDepth 100000 in
theorem ii_td_share_68 : sm_D prog_5_method_3_code 68 1 69 (.return_) := ⟨by decide +kernel, rfl⟩
noncomputable def ff_td_share_44  (a1 : Int64) (a3 : Int64) (a5 : Int64) (w : sm_Mem) : sm_R := (if (lg_cmp a5 (0 : Int64)) = (0 : Int32) then (some (.null, w)) else (if a5 = (0 : Int64) then none else (sm_let (sm_wL w 60 1 (a1 / a5)) fun w2 => (if a5 = (0 : Int64) then none else (sm_let (sm_wL w2 60 2 (a3 / a5)) fun w4 => (some (.null, w4)))))))
set_option maxHeartbeats 4000000 in
set_option maxRecDepth 100000 in
theorem ss_td_share_44 {E : Nat × (Nat → Int32)}  (a1 : Int64) (a3 : Int64) (a5 : Int64) (w : sm_Mem) : sm_Sim E (mi_td_share) 44 [some (.ref 60), some (.long a1), none, some (.long a3), none, some (.long a5), none, none, none, none, none, none] [] w (ff_td_share_44  a1 a3 a5 w) := by
  unfold ff_td_share_44
  refine sm_lload ii_td_share_44 rfl ?_
  refine sm_lconst (0 : Int64) ii_td_share_46 (by decide) ?_
  refine sm_lcmp ii_td_share_47 ?_
  refine sm_if_ne 52 ii_td_share_48 (by decide) ?_ ?_
  · exact sm_vret ii_td_share_51 rfl
  · refine sm_aload_n ii_td_share_52 rfl ?_
    refine sm_lload_n ii_td_share_53 rfl ?_
    refine sm_lload ii_td_share_54 rfl ?_
    refine sm_ldiv ii_td_share_56 ?_
    refine sm_putL ii_td_share_57 fp_td_23 (k := 60) rfl (fun w2 => ?_)
    refine sm_aload_n ii_td_share_60 rfl ?_
    refine sm_lload_n ii_td_share_61 rfl ?_
    refine sm_lload ii_td_share_62 rfl ?_
    refine sm_ldiv ii_td_share_64 ?_
    refine sm_putL ii_td_share_65 fp_td_9 (k := 60) rfl (fun w4 => ?_)
    exact sm_vret ii_td_share_68 rfl
noncomputable def ff_td_share_9_b  (self9 : Int64 → Int64 → Int64 → Int64 → Int32 → sm_Mem → sm_R) (a1 : Int64) (a3 : Int64) (a5 : Int64) (a7 : Int64) (a9 : Int32) (w : sm_Mem) : sm_R := (if (100 : Int32) ≤ a9 then ff_td_share_44 (a1) (a3) (a5) w else (if (lg_cmp a7 (0 : Int64)) = (0 : Int32) then ff_td_share_44 (a1) (a3) (a5) w else (if a7 = (0 : Int64) then none else self9 (a1) (a3) (a7) ((a5 - a5 / a7 * a7)) ((a9 + (1 : Int32))) w)))
noncomputable def ff_td_share_9_f  : Nat → Int64 → Int64 → Int64 → Int64 → Int32 → sm_Mem → sm_R
  | 0, _, _, _, _, _, _ => none
  | n + 1, a1, a3, a5, a7, a9, w => ff_td_share_9_b  (ff_td_share_9_f  n) a1 a3 a5 a7 a9 w
noncomputable def ff_td_share_9  (a1 : Int64) (a3 : Int64) (a5 : Int64) (a7 : Int64) (a9 : Int32) (w : sm_Mem) : sm_R := ff_td_share_9_f  sm_N a1 a3 a5 a7 a9 w
set_option maxHeartbeats 4000000 in
set_option maxRecDepth 100000 in
theorem ss_td_share_9_b {E : Nat × (Nat → Int32)}  (self9 : Int64 → Int64 → Int64 → Int64 → Int32 → sm_Mem → sm_R) (hself9 : ∀ (a1 : Int64) (a3 : Int64) (a5 : Int64) (a7 : Int64) (a9 : Int32) (w : sm_Mem), sm_Sim E (mi_td_share) 9 [some (.ref 60), some (.long a1), none, some (.long a3), none, some (.long a5), none, some (.long a7), none, some (.int a9), none, none] [] w (self9 a1 a3 a5 a7 a9 w)) (a1 : Int64) (a3 : Int64) (a5 : Int64) (a7 : Int64) (a9 : Int32) (w : sm_Mem) : sm_Sim E (mi_td_share) 9 [some (.ref 60), some (.long a1), none, some (.long a3), none, some (.long a5), none, some (.long a7), none, some (.int a9), none, none] [] w (ff_td_share_9_b  self9 a1 a3 a5 a7 a9 w) := by
  unfold ff_td_share_9_b
  refine sm_iload ii_td_share_9 rfl ?_
  refine sm_bipush (100 : Int32) ii_td_share_11 (by decide) ?_
  refine sm_icmp_ge 44 ii_td_share_13 (by decide) ?_ ?_
  · refine sm_msk [true, true, false, true, false, true, false, false, false, false, false, false] [some (.ref 60), some (.long a1), none, some (.long a3), none, some (.long a5), none, none, none, none, none, none] rfl ?_
    exact ss_td_share_44 (a1) (a3) (a5) w
  · refine sm_lload ii_td_share_16 rfl ?_
    refine sm_lconst (0 : Int64) ii_td_share_18 (by decide) ?_
    refine sm_lcmp ii_td_share_19 ?_
    refine sm_if_eq 44 ii_td_share_20 (by decide) ?_ ?_
    · refine sm_msk [true, true, false, true, false, true, false, false, false, false, false, false] [some (.ref 60), some (.long a1), none, some (.long a3), none, some (.long a5), none, none, none, none, none, none] rfl ?_
      exact ss_td_share_44 (a1) (a3) (a5) w
    · refine sm_lload ii_td_share_23 rfl ?_
      refine sm_lload ii_td_share_25 rfl ?_
      refine sm_lrem ii_td_share_27 ?_
      refine sm_lstore [some (.ref 60), some (.long a1), none, some (.long a3), none, some (.long a5), none, some (.long a7), none, some (.int a9), some (.long (a5 - a5 / a7 * a7)), none] ii_td_share_28 rfl rfl ?_
      refine sm_lload ii_td_share_30 rfl ?_
      refine sm_lstore [some (.ref 60), some (.long a1), none, some (.long a3), none, some (.long a7), none, some (.long a7), none, some (.int a9), some (.long (a5 - a5 / a7 * a7)), none] ii_td_share_32 rfl rfl ?_
      refine sm_lload ii_td_share_34 rfl ?_
      refine sm_lstore [some (.ref 60), some (.long a1), none, some (.long a3), none, some (.long a7), none, some (.long (a5 - a5 / a7 * a7)), none, some (.int a9), some (.long (a5 - a5 / a7 * a7)), none] ii_td_share_36 rfl rfl ?_
      refine sm_iinc (a9 + (1 : Int32)) [some (.ref 60), some (.long a1), none, some (.long a3), none, some (.long a7), none, some (.long (a5 - a5 / a7 * a7)), none, some (.int (a9 + (1 : Int32))), some (.long (a5 - a5 / a7 * a7)), none] ii_td_share_38 rfl rfl rfl rfl ?_
      refine sm_goto 9 ii_td_share_41 (by decide) ?_
      refine sm_msk [true, true, false, true, false, true, false, true, false, true, false, false] [some (.ref 60), some (.long a1), none, some (.long a3), none, some (.long a7), none, some (.long (a5 - a5 / a7 * a7)), none, some (.int (a9 + (1 : Int32))), none, none] rfl ?_
      exact hself9 (a1) (a3) (a7) ((a5 - a5 / a7 * a7)) ((a9 + (1 : Int32))) w
set_option maxHeartbeats 4000000 in
set_option maxRecDepth 100000 in
theorem ss_td_share_9_f {E : Nat × (Nat → Int32)}  : ∀ (n : Nat) (a1 : Int64) (a3 : Int64) (a5 : Int64) (a7 : Int64) (a9 : Int32) (w : sm_Mem), sm_Sim E (mi_td_share) 9 [some (.ref 60), some (.long a1), none, some (.long a3), none, some (.long a5), none, some (.long a7), none, some (.int a9), none, none] [] w (ff_td_share_9_f  n a1 a3 a5 a7 a9 w)
  | 0, _, _, _, _, _, _ => fun _ _ h => by cases h
  | n + 1, a1, a3, a5, a7, a9, w => ss_td_share_9_b  _ (ss_td_share_9_f  n) a1 a3 a5 a7 a9 w
set_option maxHeartbeats 4000000 in
set_option maxRecDepth 100000 in
theorem ss_td_share_9 {E : Nat × (Nat → Int32)}  (a1 : Int64) (a3 : Int64) (a5 : Int64) (a7 : Int64) (a9 : Int32) (w : sm_Mem) : sm_Sim E (mi_td_share) 9 [some (.ref 60), some (.long a1), none, some (.long a3), none, some (.long a5), none, some (.long a7), none, some (.int a9), none, none] [] w (ff_td_share_9  a1 a3 a5 a7 a9 w) := ss_td_share_9_f  sm_N a1 a3 a5 a7 a9 w
noncomputable def ff_td_share  (a1 : Int64) (a3 : Int64) (w : sm_Mem) : sm_R := ff_td_share_9 (a1) (a3) (a1) (a3) ((0 : Int32)) w
set_option maxHeartbeats 4000000 in
set_option maxRecDepth 100000 in
theorem ss_td_share_0 {E : Nat × (Nat → Int32)}  (a1 : Int64) (a3 : Int64) (w : sm_Mem) : sm_Sim E (mi_td_share) 0 [some (.ref 60), some (.long a1), none, some (.long a3), none, none, none, none, none, none, none, none] [] w (ff_td_share  a1 a3 w) := by
  unfold ff_td_share
  refine sm_lload_n ii_td_share_0 rfl ?_
  refine sm_lstore [some (.ref 60), some (.long a1), none, some (.long a3), none, some (.long a1), none, none, none, none, none, none] ii_td_share_1 rfl rfl ?_
  refine sm_lload_n ii_td_share_3 rfl ?_
  refine sm_lstore [some (.ref 60), some (.long a1), none, some (.long a3), none, some (.long a1), none, some (.long a3), none, none, none, none] ii_td_share_4 rfl rfl ?_
  refine sm_iconst (0 : Int32) ii_td_share_6 (by decide) ?_
  refine sm_istore [some (.ref 60), some (.long a1), none, some (.long a3), none, some (.long a1), none, some (.long a3), none, some (.int (0 : Int32)), none, none] ii_td_share_7 rfl rfl ?_
  exact ss_td_share_9 (a1) (a3) (a1) (a3) ((0 : Int32)) w
set_option maxHeartbeats 4000000 in
set_option maxRecDepth 100000 in
theorem mc_td_share {E : Nat × (Nat → Int32)} (a1 : Int64) (a3 : Int64) (w : sm_Mem) : sm_MC E mi_td_share [.ref 60, .long a1, .long a3] w (ff_td_share a1 a3 w) := sm_MC_of E (by decide +kernel) rfl (Nat.le_of_ble_eq_true rfl) (ss_td_share_0 a1 a3 w)
abbrev mi_wy_inAll : sm_MI := (⟨"HerOrders$Ways", "inAll", "()I"⟩, prog_7_method_10_code, 1, (some .int), 2)
set_option maxRecDepth 100000 in
theorem mf_wy_inAll : sm_MF mi_wy_inAll 0 := ⟨List.mem_of_getElem? (i := 552) (by decide +kernel), List.mem_of_getElem? (i := 74) (by decide +kernel), ⟨by decide, by decide⟩, by decide +kernel⟩
set_option maxRecDepth 100000 in
theorem mv_wy_inAll : sm_MFV mi_wy_inAll := ⟨List.mem_of_getElem? (i := 551) (by decide +kernel), List.mem_of_getElem? (i := 31) (by decide +kernel)⟩
set_option maxRecDepth 100000 in
theorem ii_wy_inAll_0 : sm_D prog_7_method_10_code 0 1 1 (.aload_n 0) := ⟨by decide +kernel, rfl⟩
set_option maxRecDepth 100000 in
theorem ii_wy_inAll_1 : sm_D prog_7_method_10_code 1 3 4 (.invokevirtual 114) := ⟨by decide +kernel, rfl⟩
set_option maxRecDepth 100000 in
theorem ii_wy_inAll_4 : sm_D prog_7_method_10_code 4 3 7 (.ifCond .ne 7) := ⟨by decide +kernel, rfl⟩
set_option maxRecDepth 100000 in
theorem ii_wy_inAll_7 : sm_D prog_7_method_10_code 7 1 8 (.iconst 0) := ⟨by decide +kernel, rfl⟩
set_option maxRecDepth 100000 in
theorem ii_wy_inAll_8 : sm_D prog_7_method_10_code 8 3 11 (.goto 7) := ⟨by decide +kernel, rfl⟩
set_option maxRecDepth 100000 in
theorem ii_wy_inAll_11 : sm_D prog_7_method_10_code 11 1 12 (.aload_n 0) := ⟨by decide +kernel, rfl⟩
set_option maxRecDepth 100000 in
theorem ii_wy_inAll_12 : sm_D prog_7_method_10_code 12 3 15 (.getfield 72) := ⟨by decide +kernel, rfl⟩
set_option maxRecDepth 100000 in
theorem ii_wy_inAll_15 : sm_D prog_7_method_10_code 15 1 16 (.ireturn) := ⟨by decide +kernel, rfl⟩
noncomputable def ff_wy_inAll   (w : sm_Mem) : sm_R := (sm_cI (ff_wy_fullWays  w) fun x1 w2 => (if x1 = (0 : Int32) then (some (.int (0 : Int32), w2)) else (some (.int (w2.1 49 10), w2))))
set_option maxHeartbeats 4000000 in
set_option maxRecDepth 100000 in
theorem ss_wy_inAll_0 {E : Nat × (Nat → Int32)}   (w : sm_Mem) : sm_Sim E (mi_wy_inAll) 0 [some (.ref 49)] [] w (ff_wy_inAll   w) := by
  unfold ff_wy_inAll
  refine sm_aload_n ii_wy_inAll_0 rfl ?_
  refine sm_cvI [] [] rfl ii_wy_inAll_1 ml_wy_114 (mf_wy_fullWays) (mv_wy_fullWays) (Nat.le_of_ble_eq_true rfl) rfl 5 rfl rfl rfl rfl (mc_wy_fullWays  w) (fun x1 w2 => ?_)
  refine sm_if_ne 11 ii_wy_inAll_4 (by decide) ?_ ?_
  · refine sm_iconst (0 : Int32) ii_wy_inAll_7 (by decide) ?_
    refine sm_goto 15 ii_wy_inAll_8 (by decide) ?_
    exact sm_iret ii_wy_inAll_15 rfl
  · refine sm_aload_n ii_wy_inAll_11 rfl ?_
    refine sm_getI ii_wy_inAll_12 fl_wy_72 (k := 49) rfl ?_
    exact sm_iret ii_wy_inAll_15 rfl
set_option maxHeartbeats 4000000 in
set_option maxRecDepth 100000 in
theorem mc_wy_inAll {E : Nat × (Nat → Int32)}  (w : sm_Mem) : sm_MC E mi_wy_inAll [.ref 49] w (ff_wy_inAll  w) := sm_MC_of E (by decide +kernel) rfl (Nat.le_of_ble_eq_true rfl) (ss_wy_inAll_0  w)
abbrev mi_ho_ways : sm_MI := (⟨"HerOrders", "ways", "(I)I"⟩, prog_1_method_24_code, 3, (some .int), 15)
set_option maxRecDepth 100000 in
theorem mf_ho_ways : sm_MF mi_ho_ways 1 := ⟨List.mem_of_getElem? (i := 494) (by decide +kernel), List.mem_of_getElem? (i := 69) (by decide +kernel), ⟨by decide, by decide⟩, by decide +kernel⟩
set_option maxRecDepth 100000 in
theorem mv_ho_ways : sm_MFV mi_ho_ways := ⟨List.mem_of_getElem? (i := 492) (by decide +kernel), List.mem_of_getElem? (i := 493) (by decide +kernel)⟩
set_option maxRecDepth 100000 in
theorem ii_ho_ways_0 : sm_D prog_1_method_24_code 0 1 1 (.aload_n 0) := ⟨by decide +kernel, rfl⟩
set_option maxRecDepth 100000 in
theorem ii_ho_ways_1 : sm_D prog_1_method_24_code 1 1 2 (.iload_n 1) := ⟨by decide +kernel, rfl⟩
set_option maxRecDepth 100000 in
theorem ii_ho_ways_2 : sm_D prog_1_method_24_code 2 1 3 (.iconst 5) := ⟨by decide +kernel, rfl⟩
set_option maxRecDepth 100000 in
theorem ii_ho_ways_3 : sm_D prog_1_method_24_code 3 3 6 (.invokevirtual 192) := ⟨by decide +kernel, rfl⟩
set_option maxRecDepth 100000 in
theorem ii_ho_ways_6 : sm_D prog_1_method_24_code 6 1 7 (.istore_n 2) := ⟨by decide +kernel, rfl⟩
set_option maxRecDepth 100000 in
theorem ii_ho_ways_7 : sm_D prog_1_method_24_code 7 1 8 (.iload_n 2) := ⟨by decide +kernel, rfl⟩
set_option maxRecDepth 100000 in
theorem ii_ho_ways_8 : sm_D prog_1_method_24_code 8 3 11 (.ifCond .eq 5) := ⟨by decide +kernel, rfl⟩
set_option maxRecDepth 100000 in
theorem ii_ho_ways_11 : sm_D prog_1_method_24_code 11 1 12 (.iload_n 2) := ⟨by decide +kernel, rfl⟩
set_option maxRecDepth 100000 in
theorem ii_ho_ways_12 : sm_D prog_1_method_24_code 12 1 13 (.ireturn) := ⟨by decide +kernel, rfl⟩
set_option maxRecDepth 100000 in
theorem ii_ho_ways_13 : sm_D prog_1_method_24_code 13 1 14 (.aload_n 0) := ⟨by decide +kernel, rfl⟩
set_option maxRecDepth 100000 in
theorem ii_ho_ways_14 : sm_D prog_1_method_24_code 14 3 17 (.getfield 40) := ⟨by decide +kernel, rfl⟩
set_option maxRecDepth 100000 in
theorem ii_ho_ways_17 : sm_D prog_1_method_24_code 17 1 18 (.aload_n 0) := ⟨by decide +kernel, rfl⟩
set_option maxRecDepth 100000 in
theorem ii_ho_ways_18 : sm_D prog_1_method_24_code 18 3 21 (.getfield 11) := ⟨by decide +kernel, rfl⟩
set_option maxRecDepth 100000 in
theorem ii_ho_ways_21 : sm_D prog_1_method_24_code 21 1 22 (.iload_n 1) := ⟨by decide +kernel, rfl⟩
set_option maxRecDepth 100000 in
theorem ii_ho_ways_22 : sm_D prog_1_method_24_code 22 1 23 (.aaload) := ⟨by decide +kernel, rfl⟩
set_option maxRecDepth 100000 in
theorem ii_ho_ways_23 : sm_D prog_1_method_24_code 23 2 25 (.bipush (-9)) := ⟨by decide +kernel, rfl⟩
set_option maxRecDepth 100000 in
theorem ii_ho_ways_25 : sm_D prog_1_method_24_code 25 3 28 (.invokevirtual 195) := ⟨by decide +kernel, rfl⟩
set_option maxRecDepth 100000 in
theorem ii_ho_ways_28 : sm_D prog_1_method_24_code 28 1 29 (.aload_n 0) := ⟨by decide +kernel, rfl⟩
set_option maxRecDepth 100000 in
theorem ii_ho_ways_29 : sm_D prog_1_method_24_code 29 3 32 (.getfield 54) := ⟨by decide +kernel, rfl⟩
set_option maxRecDepth 100000 in
theorem ii_ho_ways_32 : sm_D prog_1_method_24_code 32 1 33 (.aload_n 0) := ⟨by decide +kernel, rfl⟩
set_option maxRecDepth 100000 in
theorem ii_ho_ways_33 : sm_D prog_1_method_24_code 33 3 36 (.getfield 40) := ⟨by decide +kernel, rfl⟩
set_option maxRecDepth 100000 in
theorem ii_ho_ways_36 : sm_D prog_1_method_24_code 36 3 39 (.invokevirtual 199) := ⟨by decide +kernel, rfl⟩
set_option maxRecDepth 100000 in
theorem ii_ho_ways_39 : sm_D prog_1_method_24_code 39 1 40 (.i2l) := ⟨by decide +kernel, rfl⟩
set_option maxRecDepth 100000 in
theorem ii_ho_ways_40 : sm_D prog_1_method_24_code 40 1 41 (.lconst 1) := ⟨by decide +kernel, rfl⟩
set_option maxRecDepth 100000 in
theorem ii_ho_ways_41 : sm_D prog_1_method_24_code 41 3 44 (.invokevirtual 203) := ⟨by decide +kernel, rfl⟩
set_option maxRecDepth 100000 in
theorem ii_ho_ways_44 : sm_D prog_1_method_24_code 44 1 45 (.aload_n 0) := ⟨by decide +kernel, rfl⟩
set_option maxRecDepth 100000 in
theorem ii_ho_ways_45 : sm_D prog_1_method_24_code 45 3 48 (.getfield 54) := ⟨by decide +kernel, rfl⟩
set_option maxRecDepth 100000 in
theorem ii_ho_ways_48 : sm_D prog_1_method_24_code 48 1 49 (.aload_n 0) := ⟨by decide +kernel, rfl⟩
set_option maxRecDepth 100000 in
theorem ii_ho_ways_49 : sm_D prog_1_method_24_code 49 3 52 (.getfield 40) := ⟨by decide +kernel, rfl⟩
set_option maxRecDepth 100000 in
theorem ii_ho_ways_52 : sm_D prog_1_method_24_code 52 3 55 (.invokevirtual 207) := ⟨by decide +kernel, rfl⟩
set_option maxRecDepth 100000 in
theorem ii_ho_ways_55 : sm_D prog_1_method_24_code 55 3 58 (.putfield 70) := ⟨by decide +kernel, rfl⟩
set_option maxRecDepth 100000 in
theorem ii_ho_ways_58 : sm_D prog_1_method_24_code 58 1 59 (.iconst 1) := ⟨by decide +kernel, rfl⟩
set_option maxRecDepth 100000 in
theorem ii_ho_ways_59 : sm_D prog_1_method_24_code 59 1 60 (.ireturn) := ⟨by decide +kernel, rfl⟩
noncomputable def ff_ho_ways  (a1 : Int32) (w : sm_Mem) : sm_R := (sm_cI (ff_ho_refusalOfWords (a1) ((5 : Int32)) w) fun x1 w2 => (if x1 = (0 : Int32) then (Option.bind (sm_rr 1 a1) fun r3 => (sm_cV (ff_wy_runWords (r3) ((-9 : Int32)) w2) fun w5 => (sm_cI (ff_wy_fullWays  w5) fun x6 w7 => (sm_cV (ff_td_share ((Int32.toInt64 x6)) ((1 : Int64)) w7) fun w9 => (sm_cI (ff_wy_inAll  w9) fun x10 w11 => (sm_let (sm_wI w11 60 0 x10) fun w12 => (some (.int (1 : Int32), w12)))))))) else (some (.int x1, w2))))
set_option maxHeartbeats 4000000 in
set_option maxRecDepth 100000 in
theorem ss_ho_ways_0 {E : Nat × (Nat → Int32)}  (a1 : Int32) (w : sm_Mem) : sm_Sim E (mi_ho_ways) 0 [some (.ref 0), some (.int a1), none] [] w (ff_ho_ways  a1 w) := by
  unfold ff_ho_ways
  refine sm_aload_n ii_ho_ways_0 rfl ?_
  refine sm_iload_n ii_ho_ways_1 rfl ?_
  refine sm_iconst (5 : Int32) ii_ho_ways_2 (by decide) ?_
  refine sm_cvI [.int a1, .int (5 : Int32)] [] rfl ii_ho_ways_3 ml_ho_192 (mf_ho_refusalOfWords) (mv_ho_refusalOfWords) (Nat.le_of_ble_eq_true rfl) rfl 6 rfl rfl rfl rfl (mc_ho_refusalOfWords (a1) ((5 : Int32)) w) (fun x1 w2 => ?_)
  refine sm_istore_n [some (.ref 0), some (.int a1), some (.int x1)] ii_ho_ways_6 rfl rfl ?_
  refine sm_iload_n ii_ho_ways_7 rfl ?_
  refine sm_if_eq 13 ii_ho_ways_8 (by decide) ?_ ?_
  · refine sm_aload_n ii_ho_ways_13 rfl ?_
    refine sm_getR 49 ii_ho_ways_14 fl_ho_40 (k := 0) rfl ?_
    refine sm_aload_n ii_ho_ways_17 rfl ?_
    refine sm_getR 1 ii_ho_ways_18 fl_ho_11 (k := 0) rfl ?_
    refine sm_iload_n ii_ho_ways_21 rfl ?_
    refine sm_aald ii_ho_ways_22 (fun r3 => ?_)
    refine sm_bipush (-9 : Int32) ii_ho_ways_23 (by decide) ?_
    refine sm_cvV [.ref r3, .int (-9 : Int32)] [] rfl ii_ho_ways_25 ml_ho_195 (mf_wy_runWords) (mv_wy_runWords) (Nat.le_of_ble_eq_true rfl) rfl 5 rfl rfl rfl rfl (mc_wy_runWords (r3) ((-9 : Int32)) w2) (fun w5 => ?_)
    refine sm_aload_n ii_ho_ways_28 rfl ?_
    refine sm_getR 60 ii_ho_ways_29 fl_ho_54 (k := 0) rfl ?_
    refine sm_aload_n ii_ho_ways_32 rfl ?_
    refine sm_getR 49 ii_ho_ways_33 fl_ho_40 (k := 0) rfl ?_
    refine sm_cvI [] [.ref 60] rfl ii_ho_ways_36 ml_ho_199 (mf_wy_fullWays) (mv_wy_fullWays) (Nat.le_of_ble_eq_true rfl) rfl 5 rfl rfl rfl rfl (mc_wy_fullWays  w5) (fun x6 w7 => ?_)
    refine sm_i2l ii_ho_ways_39 ?_
    refine sm_lconst (1 : Int64) ii_ho_ways_40 (by decide) ?_
    refine sm_cvV [.long (Int32.toInt64 x6), .long (1 : Int64)] [] rfl ii_ho_ways_41 ml_ho_203 (mf_td_share) (mv_td_share) (Nat.le_of_ble_eq_true rfl) rfl 3 rfl rfl rfl rfl (mc_td_share ((Int32.toInt64 x6)) ((1 : Int64)) w7) (fun w9 => ?_)
    refine sm_aload_n ii_ho_ways_44 rfl ?_
    refine sm_getR 60 ii_ho_ways_45 fl_ho_54 (k := 0) rfl ?_
    refine sm_aload_n ii_ho_ways_48 rfl ?_
    refine sm_getR 49 ii_ho_ways_49 fl_ho_40 (k := 0) rfl ?_
    refine sm_cvI [] [.ref 60] rfl ii_ho_ways_52 ml_ho_207 (mf_wy_inAll) (mv_wy_inAll) (Nat.le_of_ble_eq_true rfl) rfl 5 rfl rfl rfl rfl (mc_wy_inAll  w9) (fun x10 w11 => ?_)
    refine sm_putI ii_ho_ways_55 fp_ho_70 (k := 60) rfl (fun w12 => ?_)
    refine sm_iconst (1 : Int32) ii_ho_ways_58 (by decide) ?_
    exact sm_iret ii_ho_ways_59 rfl
  · refine sm_iload_n ii_ho_ways_11 rfl ?_
    exact sm_iret ii_ho_ways_12 rfl
set_option maxHeartbeats 4000000 in
set_option maxRecDepth 100000 in
theorem mc_ho_ways {E : Nat × (Nat → Int32)} (a1 : Int32) (w : sm_Mem) : sm_MC E mi_ho_ways [.ref 0, .int a1] w (ff_ho_ways a1 w) := sm_MC_of E (by decide +kernel) rfl (Nat.le_of_ble_eq_true rfl) (ss_ho_ways_0 a1 w)
abbrev mi_ho_upper : sm_MI := (⟨"HerOrders", "upper", "()J"⟩, prog_1_method_40_code, 1, (some .long), 1)
set_option maxRecDepth 100000 in
theorem mf_ho_upper : sm_MF mi_ho_upper 0 := ⟨List.mem_of_getElem? (i := 749) (by decide +kernel), List.mem_of_getElem? (i := 69) (by decide +kernel), ⟨by decide, by decide⟩, by decide +kernel⟩
set_option maxRecDepth 100000 in
theorem mv_ho_upper : sm_MFV mi_ho_upper := ⟨List.mem_of_getElem? (i := 747) (by decide +kernel), List.mem_of_getElem? (i := 748) (by decide +kernel)⟩
set_option maxRecDepth 100000 in
theorem ii_ho_upper_0 : sm_D prog_1_method_40_code 0 1 1 (.aload_n 0) := ⟨by decide +kernel, rfl⟩
set_option maxRecDepth 100000 in
theorem ii_ho_upper_1 : sm_D prog_1_method_40_code 1 3 4 (.getfield 54) := ⟨by decide +kernel, rfl⟩
set_option maxRecDepth 100000 in
theorem ii_ho_upper_4 : sm_D prog_1_method_40_code 4 3 7 (.getfield 300) := ⟨by decide +kernel, rfl⟩
set_option maxRecDepth 100000 in
theorem ii_ho_upper_7 : sm_D prog_1_method_40_code 7 1 8 (.lreturn) := ⟨by decide +kernel, rfl⟩
noncomputable def ff_ho_upper   (w : sm_Mem) : sm_R := (some (.long (w.2 60 1), w))
set_option maxHeartbeats 4000000 in
set_option maxRecDepth 100000 in
theorem ss_ho_upper_0 {E : Nat × (Nat → Int32)}   (w : sm_Mem) : sm_Sim E (mi_ho_upper) 0 [some (.ref 0)] [] w (ff_ho_upper   w) := by
  unfold ff_ho_upper
  refine sm_aload_n ii_ho_upper_0 rfl ?_
  refine sm_getR 60 ii_ho_upper_1 fl_ho_54 (k := 0) rfl ?_
  refine sm_getL ii_ho_upper_4 fl_ho_300 (k := 60) rfl ?_
  exact sm_lret ii_ho_upper_7 rfl
set_option maxHeartbeats 4000000 in
set_option maxRecDepth 100000 in
theorem mc_ho_upper {E : Nat × (Nat → Int32)}  (w : sm_Mem) : sm_MC E mi_ho_upper [.ref 0] w (ff_ho_upper  w) := sm_MC_of E (by decide +kernel) rfl (Nat.le_of_ble_eq_true rfl) (ss_ho_upper_0  w)
abbrev mi_wy_farthest : sm_MI := (⟨"HerOrders$Ways", "farthest", "()I"⟩, prog_7_method_11_code, 3, (some .int), 1)
set_option maxRecDepth 100000 in
theorem mf_wy_farthest : sm_MF mi_wy_farthest 0 := ⟨List.mem_of_getElem? (i := 570) (by decide +kernel), List.mem_of_getElem? (i := 74) (by decide +kernel), ⟨by decide, by decide⟩, by decide +kernel⟩
set_option maxRecDepth 100000 in
theorem mv_wy_farthest : sm_MFV mi_wy_farthest := ⟨List.mem_of_getElem? (i := 569) (by decide +kernel), List.mem_of_getElem? (i := 33) (by decide +kernel)⟩
set_option maxRecDepth 100000 in
theorem ii_wy_farthest_0 : sm_D prog_7_method_11_code 0 1 1 (.iconst 0) := ⟨by decide +kernel, rfl⟩
set_option maxRecDepth 100000 in
theorem ii_wy_farthest_1 : sm_D prog_7_method_11_code 1 1 2 (.istore_n 1) := ⟨by decide +kernel, rfl⟩
set_option maxRecDepth 100000 in
theorem ii_wy_farthest_2 : sm_D prog_7_method_11_code 2 1 3 (.iconst 1) := ⟨by decide +kernel, rfl⟩
set_option maxRecDepth 100000 in
theorem ii_wy_farthest_3 : sm_D prog_7_method_11_code 3 1 4 (.istore_n 2) := ⟨by decide +kernel, rfl⟩
set_option maxRecDepth 100000 in
theorem ii_wy_farthest_4 : sm_D prog_7_method_11_code 4 1 5 (.iload_n 2) := ⟨by decide +kernel, rfl⟩
set_option maxRecDepth 100000 in
theorem ii_wy_farthest_5 : sm_D prog_7_method_11_code 5 1 6 (.aload_n 0) := ⟨by decide +kernel, rfl⟩
set_option maxRecDepth 100000 in
theorem ii_wy_farthest_6 : sm_D prog_7_method_11_code 6 3 9 (.getfield 49) := ⟨by decide +kernel, rfl⟩
set_option maxRecDepth 100000 in
theorem ii_wy_farthest_9 : sm_D prog_7_method_11_code 9 3 12 (.if_icmp .gt 20) := ⟨by decide +kernel, rfl⟩
set_option maxRecDepth 100000 in
theorem ii_wy_farthest_12 : sm_D prog_7_method_11_code 12 1 13 (.aload_n 0) := ⟨by decide +kernel, rfl⟩
set_option maxRecDepth 100000 in
theorem ii_wy_farthest_13 : sm_D prog_7_method_11_code 13 3 16 (.getfield 25) := ⟨by decide +kernel, rfl⟩
set_option maxRecDepth 100000 in
theorem ii_wy_farthest_16 : sm_D prog_7_method_11_code 16 1 17 (.iload_n 2) := ⟨by decide +kernel, rfl⟩
set_option maxRecDepth 100000 in
theorem ii_wy_farthest_17 : sm_D prog_7_method_11_code 17 1 18 (.iaload) := ⟨by decide +kernel, rfl⟩
set_option maxRecDepth 100000 in
theorem ii_wy_farthest_18 : sm_D prog_7_method_11_code 18 3 21 (.ifCond .le 5) := ⟨by decide +kernel, rfl⟩
set_option maxRecDepth 100000 in
theorem ii_wy_farthest_21 : sm_D prog_7_method_11_code 21 1 22 (.iload_n 2) := ⟨by decide +kernel, rfl⟩
set_option maxRecDepth 100000 in
theorem ii_wy_farthest_22 : sm_D prog_7_method_11_code 22 1 23 (.istore_n 1) := ⟨by decide +kernel, rfl⟩
set_option maxRecDepth 100000 in
theorem ii_wy_farthest_23 : sm_D prog_7_method_11_code 23 3 26 (.iinc 2 1) := ⟨by decide +kernel, rfl⟩
set_option maxRecDepth 100000 in
theorem ii_wy_farthest_26 : sm_D prog_7_method_11_code 26 3 29 (.goto (-22)) := ⟨by decide +kernel, rfl⟩
set_option maxRecDepth 100000 in
theorem ii_wy_farthest_29 : sm_D prog_7_method_11_code 29 1 30 (.iload_n 1) := ⟨by decide +kernel, rfl⟩
set_option maxRecDepth 100000 in
theorem ii_wy_farthest_30 : sm_D prog_7_method_11_code 30 1 31 (.ireturn) := ⟨by decide +kernel, rfl⟩
noncomputable def ff_wy_farthest_4_b  (self4 : Int32 → Int32 → sm_Mem → sm_R) (a1 : Int32) (a2 : Int32) (w : sm_Mem) : sm_R := (if (w.1 49 3) < a2 then (some (.int a1, w)) else (Option.bind (sm_rd w 53 6 a2) fun x1 => (if x1 ≤ (0 : Int32) then self4 (a1) ((a2 + (1 : Int32))) w else self4 (a2) ((a2 + (1 : Int32))) w)))
noncomputable def ff_wy_farthest_4_f  : Nat → Int32 → Int32 → sm_Mem → sm_R
  | 0, _, _, _ => none
  | n + 1, a1, a2, w => ff_wy_farthest_4_b  (ff_wy_farthest_4_f  n) a1 a2 w
noncomputable def ff_wy_farthest_4  (a1 : Int32) (a2 : Int32) (w : sm_Mem) : sm_R := ff_wy_farthest_4_f  sm_N a1 a2 w
set_option maxHeartbeats 4000000 in
set_option maxRecDepth 100000 in
theorem ss_wy_farthest_4_b {E : Nat × (Nat → Int32)}  (self4 : Int32 → Int32 → sm_Mem → sm_R) (hself4 : ∀ (a1 : Int32) (a2 : Int32) (w : sm_Mem), sm_Sim E (mi_wy_farthest) 4 [some (.ref 49), some (.int a1), some (.int a2)] [] w (self4 a1 a2 w)) (a1 : Int32) (a2 : Int32) (w : sm_Mem) : sm_Sim E (mi_wy_farthest) 4 [some (.ref 49), some (.int a1), some (.int a2)] [] w (ff_wy_farthest_4_b  self4 a1 a2 w) := by
  unfold ff_wy_farthest_4_b
  refine sm_iload_n ii_wy_farthest_4 rfl ?_
  refine sm_aload_n ii_wy_farthest_5 rfl ?_
  refine sm_getI ii_wy_farthest_6 fl_wy_49 (k := 49) rfl ?_
  refine sm_icmp_gt 29 ii_wy_farthest_9 (by decide) ?_ ?_
  · refine sm_iload_n ii_wy_farthest_29 rfl ?_
    exact sm_iret ii_wy_farthest_30 rfl
  · refine sm_aload_n ii_wy_farthest_12 rfl ?_
    refine sm_getR 53 ii_wy_farthest_13 fl_wy_25 (k := 49) rfl ?_
    refine sm_iload_n ii_wy_farthest_16 rfl ?_
    refine sm_iald ii_wy_farthest_17 (k := 53) rfl (fun x1 => ?_)
    refine sm_if_le 23 ii_wy_farthest_18 (by decide) ?_ ?_
    · refine sm_iinc (a2 + (1 : Int32)) [some (.ref 49), some (.int a1), some (.int (a2 + (1 : Int32)))] ii_wy_farthest_23 rfl rfl rfl rfl ?_
      refine sm_goto 4 ii_wy_farthest_26 (by decide) ?_
      exact hself4 (a1) ((a2 + (1 : Int32))) w
    · refine sm_iload_n ii_wy_farthest_21 rfl ?_
      refine sm_istore_n [some (.ref 49), some (.int a2), some (.int a2)] ii_wy_farthest_22 rfl rfl ?_
      refine sm_iinc (a2 + (1 : Int32)) [some (.ref 49), some (.int a2), some (.int (a2 + (1 : Int32)))] ii_wy_farthest_23 rfl rfl rfl rfl ?_
      refine sm_goto 4 ii_wy_farthest_26 (by decide) ?_
      exact hself4 (a2) ((a2 + (1 : Int32))) w
set_option maxHeartbeats 4000000 in
set_option maxRecDepth 100000 in
theorem ss_wy_farthest_4_f {E : Nat × (Nat → Int32)}  : ∀ (n : Nat) (a1 : Int32) (a2 : Int32) (w : sm_Mem), sm_Sim E (mi_wy_farthest) 4 [some (.ref 49), some (.int a1), some (.int a2)] [] w (ff_wy_farthest_4_f  n a1 a2 w)
  | 0, _, _, _ => fun _ _ h => by cases h
  | n + 1, a1, a2, w => ss_wy_farthest_4_b  _ (ss_wy_farthest_4_f  n) a1 a2 w
set_option maxHeartbeats 4000000 in
set_option maxRecDepth 100000 in
theorem ss_wy_farthest_4 {E : Nat × (Nat → Int32)}  (a1 : Int32) (a2 : Int32) (w : sm_Mem) : sm_Sim E (mi_wy_farthest) 4 [some (.ref 49), some (.int a1), some (.int a2)] [] w (ff_wy_farthest_4  a1 a2 w) := ss_wy_farthest_4_f  sm_N a1 a2 w
noncomputable def ff_wy_farthest   (w : sm_Mem) : sm_R := ff_wy_farthest_4 ((0 : Int32)) ((1 : Int32)) w
set_option maxHeartbeats 4000000 in
set_option maxRecDepth 100000 in
theorem ss_wy_farthest_0 {E : Nat × (Nat → Int32)}   (w : sm_Mem) : sm_Sim E (mi_wy_farthest) 0 [some (.ref 49), none, none] [] w (ff_wy_farthest   w) := by
  unfold ff_wy_farthest
  refine sm_iconst (0 : Int32) ii_wy_farthest_0 (by decide) ?_
  refine sm_istore_n [some (.ref 49), some (.int (0 : Int32)), none] ii_wy_farthest_1 rfl rfl ?_
  refine sm_iconst (1 : Int32) ii_wy_farthest_2 (by decide) ?_
  refine sm_istore_n [some (.ref 49), some (.int (0 : Int32)), some (.int (1 : Int32))] ii_wy_farthest_3 rfl rfl ?_
  exact ss_wy_farthest_4 ((0 : Int32)) ((1 : Int32)) w
set_option maxHeartbeats 4000000 in
set_option maxRecDepth 100000 in
theorem mc_wy_farthest {E : Nat × (Nat → Int32)}  (w : sm_Mem) : sm_MC E mi_wy_farthest [.ref 49] w (ff_wy_farthest  w) := sm_MC_of E (by decide +kernel) rfl (Nat.le_of_ble_eq_true rfl) (ss_wy_farthest_0  w)
abbrev mi_ho_far : sm_MI := (⟨"HerOrders", "far", "(I)I"⟩, prog_1_method_26_code, 4, (some .int), 15)
set_option maxRecDepth 100000 in
theorem mf_ho_far : sm_MF mi_ho_far 1 := ⟨List.mem_of_getElem? (i := 566) (by decide +kernel), List.mem_of_getElem? (i := 69) (by decide +kernel), ⟨by decide, by decide⟩, by decide +kernel⟩
set_option maxRecDepth 100000 in
theorem mv_ho_far : sm_MFV mi_ho_far := ⟨List.mem_of_getElem? (i := 564) (by decide +kernel), List.mem_of_getElem? (i := 565) (by decide +kernel)⟩
set_option maxRecDepth 100000 in
theorem ii_ho_far_0 : sm_D prog_1_method_26_code 0 1 1 (.aload_n 0) := ⟨by decide +kernel, rfl⟩
set_option maxRecDepth 100000 in
theorem ii_ho_far_1 : sm_D prog_1_method_26_code 1 1 2 (.iload_n 1) := ⟨by decide +kernel, rfl⟩
set_option maxRecDepth 100000 in
theorem ii_ho_far_2 : sm_D prog_1_method_26_code 2 1 3 (.iconst 5) := ⟨by decide +kernel, rfl⟩
set_option maxRecDepth 100000 in
theorem ii_ho_far_3 : sm_D prog_1_method_26_code 3 3 6 (.invokevirtual 192) := ⟨by decide +kernel, rfl⟩
set_option maxRecDepth 100000 in
theorem ii_ho_far_6 : sm_D prog_1_method_26_code 6 1 7 (.istore_n 2) := ⟨by decide +kernel, rfl⟩
set_option maxRecDepth 100000 in
theorem ii_ho_far_7 : sm_D prog_1_method_26_code 7 1 8 (.iload_n 2) := ⟨by decide +kernel, rfl⟩
set_option maxRecDepth 100000 in
theorem ii_ho_far_8 : sm_D prog_1_method_26_code 8 3 11 (.ifCond .eq 5) := ⟨by decide +kernel, rfl⟩
set_option maxRecDepth 100000 in
theorem ii_ho_far_11 : sm_D prog_1_method_26_code 11 1 12 (.iload_n 2) := ⟨by decide +kernel, rfl⟩
set_option maxRecDepth 100000 in
theorem ii_ho_far_12 : sm_D prog_1_method_26_code 12 1 13 (.ireturn) := ⟨by decide +kernel, rfl⟩
set_option maxRecDepth 100000 in
theorem ii_ho_far_13 : sm_D prog_1_method_26_code 13 1 14 (.aload_n 0) := ⟨by decide +kernel, rfl⟩
set_option maxRecDepth 100000 in
theorem ii_ho_far_14 : sm_D prog_1_method_26_code 14 3 17 (.getfield 40) := ⟨by decide +kernel, rfl⟩
set_option maxRecDepth 100000 in
theorem ii_ho_far_17 : sm_D prog_1_method_26_code 17 1 18 (.aload_n 0) := ⟨by decide +kernel, rfl⟩
set_option maxRecDepth 100000 in
theorem ii_ho_far_18 : sm_D prog_1_method_26_code 18 3 21 (.getfield 11) := ⟨by decide +kernel, rfl⟩
set_option maxRecDepth 100000 in
theorem ii_ho_far_21 : sm_D prog_1_method_26_code 21 1 22 (.iload_n 1) := ⟨by decide +kernel, rfl⟩
set_option maxRecDepth 100000 in
theorem ii_ho_far_22 : sm_D prog_1_method_26_code 22 1 23 (.aaload) := ⟨by decide +kernel, rfl⟩
set_option maxRecDepth 100000 in
theorem ii_ho_far_23 : sm_D prog_1_method_26_code 23 2 25 (.bipush (-9)) := ⟨by decide +kernel, rfl⟩
set_option maxRecDepth 100000 in
theorem ii_ho_far_25 : sm_D prog_1_method_26_code 25 3 28 (.invokevirtual 195) := ⟨by decide +kernel, rfl⟩
set_option maxRecDepth 100000 in
theorem ii_ho_far_28 : sm_D prog_1_method_26_code 28 1 29 (.aload_n 0) := ⟨by decide +kernel, rfl⟩
set_option maxRecDepth 100000 in
theorem ii_ho_far_29 : sm_D prog_1_method_26_code 29 3 32 (.getfield 40) := ⟨by decide +kernel, rfl⟩
set_option maxRecDepth 100000 in
theorem ii_ho_far_32 : sm_D prog_1_method_26_code 32 3 35 (.invokevirtual 222) := ⟨by decide +kernel, rfl⟩
set_option maxRecDepth 100000 in
theorem ii_ho_far_35 : sm_D prog_1_method_26_code 35 1 36 (.istore_n 3) := ⟨by decide +kernel, rfl⟩
set_option maxRecDepth 100000 in
theorem ii_ho_far_36 : sm_D prog_1_method_26_code 36 1 37 (.aload_n 0) := ⟨by decide +kernel, rfl⟩
set_option maxRecDepth 100000 in
theorem ii_ho_far_37 : sm_D prog_1_method_26_code 37 3 40 (.getfield 54) := ⟨by decide +kernel, rfl⟩
set_option maxRecDepth 100000 in
theorem ii_ho_far_40 : sm_D prog_1_method_26_code 40 1 41 (.aload_n 0) := ⟨by decide +kernel, rfl⟩
set_option maxRecDepth 100000 in
theorem ii_ho_far_41 : sm_D prog_1_method_26_code 41 3 44 (.getfield 40) := ⟨by decide +kernel, rfl⟩
set_option maxRecDepth 100000 in
theorem ii_ho_far_44 : sm_D prog_1_method_26_code 44 3 47 (.getfield 225) := ⟨by decide +kernel, rfl⟩
set_option maxRecDepth 100000 in
theorem ii_ho_far_47 : sm_D prog_1_method_26_code 47 1 48 (.iload_n 3) := ⟨by decide +kernel, rfl⟩
set_option maxRecDepth 100000 in
theorem ii_ho_far_48 : sm_D prog_1_method_26_code 48 1 49 (.iaload) := ⟨by decide +kernel, rfl⟩
set_option maxRecDepth 100000 in
theorem ii_ho_far_49 : sm_D prog_1_method_26_code 49 3 52 (.putfield 70) := ⟨by decide +kernel, rfl⟩
set_option maxRecDepth 100000 in
theorem ii_ho_far_52 : sm_D prog_1_method_26_code 52 1 53 (.iload_n 3) := ⟨by decide +kernel, rfl⟩
set_option maxRecDepth 100000 in
theorem ii_ho_far_53 : sm_D prog_1_method_26_code 53 1 54 (.ireturn) := ⟨by decide +kernel, rfl⟩
noncomputable def ff_ho_far  (a1 : Int32) (w : sm_Mem) : sm_R := (sm_cI (ff_ho_refusalOfWords (a1) ((5 : Int32)) w) fun x1 w2 => (if x1 = (0 : Int32) then (Option.bind (sm_rr 1 a1) fun r3 => (sm_cV (ff_wy_runWords (r3) ((-9 : Int32)) w2) fun w5 => (sm_cI (ff_wy_farthest  w5) fun x6 w7 => (Option.bind (sm_rd w7 53 6 x6) fun x8 => (sm_let (sm_wI w7 60 0 x8) fun w9 => (some (.int x6, w9))))))) else (some (.int x1, w2))))
set_option maxHeartbeats 4000000 in
set_option maxRecDepth 100000 in
theorem ss_ho_far_0 {E : Nat × (Nat → Int32)}  (a1 : Int32) (w : sm_Mem) : sm_Sim E (mi_ho_far) 0 [some (.ref 0), some (.int a1), none, none] [] w (ff_ho_far  a1 w) := by
  unfold ff_ho_far
  refine sm_aload_n ii_ho_far_0 rfl ?_
  refine sm_iload_n ii_ho_far_1 rfl ?_
  refine sm_iconst (5 : Int32) ii_ho_far_2 (by decide) ?_
  refine sm_cvI [.int a1, .int (5 : Int32)] [] rfl ii_ho_far_3 ml_ho_192 (mf_ho_refusalOfWords) (mv_ho_refusalOfWords) (Nat.le_of_ble_eq_true rfl) rfl 6 rfl rfl rfl rfl (mc_ho_refusalOfWords (a1) ((5 : Int32)) w) (fun x1 w2 => ?_)
  refine sm_istore_n [some (.ref 0), some (.int a1), some (.int x1), none] ii_ho_far_6 rfl rfl ?_
  refine sm_iload_n ii_ho_far_7 rfl ?_
  refine sm_if_eq 13 ii_ho_far_8 (by decide) ?_ ?_
  · refine sm_aload_n ii_ho_far_13 rfl ?_
    refine sm_getR 49 ii_ho_far_14 fl_ho_40 (k := 0) rfl ?_
    refine sm_aload_n ii_ho_far_17 rfl ?_
    refine sm_getR 1 ii_ho_far_18 fl_ho_11 (k := 0) rfl ?_
    refine sm_iload_n ii_ho_far_21 rfl ?_
    refine sm_aald ii_ho_far_22 (fun r3 => ?_)
    refine sm_bipush (-9 : Int32) ii_ho_far_23 (by decide) ?_
    refine sm_cvV [.ref r3, .int (-9 : Int32)] [] rfl ii_ho_far_25 ml_ho_195 (mf_wy_runWords) (mv_wy_runWords) (Nat.le_of_ble_eq_true rfl) rfl 5 rfl rfl rfl rfl (mc_wy_runWords (r3) ((-9 : Int32)) w2) (fun w5 => ?_)
    refine sm_aload_n ii_ho_far_28 rfl ?_
    refine sm_getR 49 ii_ho_far_29 fl_ho_40 (k := 0) rfl ?_
    refine sm_cvI [] [] rfl ii_ho_far_32 ml_ho_222 (mf_wy_farthest) (mv_wy_farthest) (Nat.le_of_ble_eq_true rfl) rfl 5 rfl rfl rfl rfl (mc_wy_farthest  w5) (fun x6 w7 => ?_)
    refine sm_istore_n [some (.ref 0), some (.int a1), some (.int x1), some (.int x6)] ii_ho_far_35 rfl rfl ?_
    refine sm_aload_n ii_ho_far_36 rfl ?_
    refine sm_getR 60 ii_ho_far_37 fl_ho_54 (k := 0) rfl ?_
    refine sm_aload_n ii_ho_far_40 rfl ?_
    refine sm_getR 49 ii_ho_far_41 fl_ho_40 (k := 0) rfl ?_
    refine sm_getR 53 ii_ho_far_44 fl_ho_225 (k := 49) rfl ?_
    refine sm_iload_n ii_ho_far_47 rfl ?_
    refine sm_iald ii_ho_far_48 (k := 53) rfl (fun x8 => ?_)
    refine sm_putI ii_ho_far_49 fp_ho_70 (k := 60) rfl (fun w9 => ?_)
    refine sm_iload_n ii_ho_far_52 rfl ?_
    exact sm_iret ii_ho_far_53 rfl
  · refine sm_iload_n ii_ho_far_11 rfl ?_
    exact sm_iret ii_ho_far_12 rfl
set_option maxHeartbeats 4000000 in
set_option maxRecDepth 100000 in
theorem mc_ho_far {E : Nat × (Nat → Int32)} (a1 : Int32) (w : sm_Mem) : sm_MC E mi_ho_far [.ref 0, .int a1] w (ff_ho_far a1 w) := sm_MC_of E (by decide +kernel) rfl (Nat.le_of_ble_eq_true rfl) (ss_ho_far_0 a1 w)
abbrev mi_rw_become : sm_MI := (⟨"HerOrders$Row", "become", "([II)V"⟩, prog_4_method_4_code, 4, none, 2)
set_option maxRecDepth 100000 in
theorem mf_rw_become : sm_MF mi_rw_become 2 := ⟨List.mem_of_getElem? (i := 561) (by decide +kernel), List.mem_of_getElem? (i := 70) (by decide +kernel), ⟨by decide, by decide⟩, by decide +kernel⟩
set_option maxRecDepth 100000 in
theorem mv_rw_become : sm_MFV mi_rw_become := ⟨List.mem_of_getElem? (i := 560) (by decide +kernel), List.mem_of_getElem? (i := 32) (by decide +kernel)⟩
set_option maxRecDepth 100000 in
theorem ii_rw_become_0 : sm_D prog_4_method_4_code 0 1 1 (.aload_n 0) := ⟨by decide +kernel, rfl⟩
set_option maxRecDepth 100000 in
theorem ii_rw_become_1 : sm_D prog_4_method_4_code 1 1 2 (.iload_n 2) := ⟨by decide +kernel, rfl⟩
set_option maxRecDepth 100000 in
theorem ii_rw_become_2 : sm_D prog_4_method_4_code 2 1 3 (.aload_n 1) := ⟨by decide +kernel, rfl⟩
set_option maxRecDepth 100000 in
theorem ii_rw_become_3 : sm_D prog_4_method_4_code 3 1 4 (.arraylength) := ⟨by decide +kernel, rfl⟩
set_option maxRecDepth 100000 in
theorem ii_rw_become_4 : sm_D prog_4_method_4_code 4 3 7 (.invokestatic 25) := ⟨by decide +kernel, rfl⟩
set_option maxRecDepth 100000 in
theorem ii_rw_become_7 : sm_D prog_4_method_4_code 7 1 8 (.iconst 0) := ⟨by decide +kernel, rfl⟩
set_option maxRecDepth 100000 in
theorem ii_rw_become_8 : sm_D prog_4_method_4_code 8 3 11 (.invokevirtual 28) := ⟨by decide +kernel, rfl⟩
set_option maxRecDepth 100000 in
theorem ii_rw_become_11 : sm_D prog_4_method_4_code 11 1 12 (.iconst 0) := ⟨by decide +kernel, rfl⟩
set_option maxRecDepth 100000 in
theorem ii_rw_become_12 : sm_D prog_4_method_4_code 12 1 13 (.istore_n 3) := ⟨by decide +kernel, rfl⟩
set_option maxRecDepth 100000 in
theorem ii_rw_become_13 : sm_D prog_4_method_4_code 13 1 14 (.iload_n 3) := ⟨by decide +kernel, rfl⟩
set_option maxRecDepth 100000 in
theorem ii_rw_become_14 : sm_D prog_4_method_4_code 14 1 15 (.aload_n 0) := ⟨by decide +kernel, rfl⟩
set_option maxRecDepth 100000 in
theorem ii_rw_become_15 : sm_D prog_4_method_4_code 15 3 18 (.getfield 21) := ⟨by decide +kernel, rfl⟩
set_option maxRecDepth 100000 in
theorem ii_rw_become_18 : sm_D prog_4_method_4_code 18 3 21 (.if_icmp .ge 18) := ⟨by decide +kernel, rfl⟩
set_option maxRecDepth 100000 in
theorem ii_rw_become_21 : sm_D prog_4_method_4_code 21 1 22 (.aload_n 0) := ⟨by decide +kernel, rfl⟩
set_option maxRecDepth 100000 in
theorem ii_rw_become_22 : sm_D prog_4_method_4_code 22 3 25 (.getfield 15) := ⟨by decide +kernel, rfl⟩
set_option maxRecDepth 100000 in
theorem ii_rw_become_25 : sm_D prog_4_method_4_code 25 1 26 (.iload_n 3) := ⟨by decide +kernel, rfl⟩
set_option maxRecDepth 100000 in
theorem ii_rw_become_26 : sm_D prog_4_method_4_code 26 1 27 (.aload_n 1) := ⟨by decide +kernel, rfl⟩
set_option maxRecDepth 100000 in
theorem ii_rw_become_27 : sm_D prog_4_method_4_code 27 1 28 (.iload_n 3) := ⟨by decide +kernel, rfl⟩
set_option maxRecDepth 100000 in
theorem ii_rw_become_28 : sm_D prog_4_method_4_code 28 1 29 (.iaload) := ⟨by decide +kernel, rfl⟩
set_option maxRecDepth 100000 in
theorem ii_rw_become_29 : sm_D prog_4_method_4_code 29 1 30 (.iastore) := ⟨by decide +kernel, rfl⟩
set_option maxRecDepth 100000 in
theorem ii_rw_become_30 : sm_D prog_4_method_4_code 30 3 33 (.iinc 3 1) := ⟨by decide +kernel, rfl⟩
set_option maxRecDepth 100000 in
theorem ii_rw_become_33 : sm_D prog_4_method_4_code 33 3 36 (.goto (-20)) := ⟨by decide +kernel, rfl⟩
set_option maxRecDepth 100000 in
theorem ii_rw_become_36 : sm_D prog_4_method_4_code 36 1 37 (.return_) := ⟨by decide +kernel, rfl⟩
noncomputable def ff_rw_become_13_b  (self13 : Nat → Nat → Int32 → sm_Mem → sm_R) (a0 : Nat) (a1 : Nat) (a3 : Int32) (w : sm_Mem) : sm_R := (Option.bind (sm_gI w a0 2 1) fun x1 => (if x1 ≤ a3 then (some (.null, w)) else (Option.bind (sm_fk a0 2 0 2) fun r2 => (Option.bind (sm_rds w a1 a3) fun x3 => (Option.bind (sm_wrs w r2 a3 x3) fun w4 => self13 (a0) (a1) ((a3 + (1 : Int32))) w4)))))
noncomputable def ff_rw_become_13_f  : Nat → Nat → Nat → Int32 → sm_Mem → sm_R
  | 0, _, _, _, _ => none
  | n + 1, a0, a1, a3, w => ff_rw_become_13_b  (ff_rw_become_13_f  n) a0 a1 a3 w
noncomputable def ff_rw_become_13  (a0 : Nat) (a1 : Nat) (a3 : Int32) (w : sm_Mem) : sm_R := ff_rw_become_13_f  sm_N a0 a1 a3 w
set_option maxHeartbeats 4000000 in
set_option maxRecDepth 100000 in
theorem ss_rw_become_13_b {E : Nat × (Nat → Int32)}  (self13 : Nat → Nat → Int32 → sm_Mem → sm_R) (hself13 : ∀ (a0 : Nat) (a1 : Nat) (a3 : Int32) (w : sm_Mem), sm_Sim E (mi_rw_become) 13 [some (.ref a0), some (.ref a1), none, some (.int a3)] [] w (self13 a0 a1 a3 w)) (a0 : Nat) (a1 : Nat) (a3 : Int32) (w : sm_Mem) : sm_Sim E (mi_rw_become) 13 [some (.ref a0), some (.ref a1), none, some (.int a3)] [] w (ff_rw_become_13_b  self13 a0 a1 a3 w) := by
  unfold ff_rw_become_13_b
  refine sm_iload_n ii_rw_become_13 rfl ?_
  refine sm_aload_n ii_rw_become_14 rfl ?_
  refine sm_getIs ii_rw_become_15 fl_rw_21 (fun x1 => ?_)
  refine sm_icmp_ge 36 ii_rw_become_18 (by decide) ?_ ?_
  · exact sm_vret ii_rw_become_36 rfl
  · refine sm_aload_n ii_rw_become_21 rfl ?_
    refine sm_getRs ii_rw_become_22 fl_rw_15 (fun r2 => ?_)
    refine sm_iload_n ii_rw_become_25 rfl ?_
    refine sm_aload_n ii_rw_become_26 rfl ?_
    refine sm_iload_n ii_rw_become_27 rfl ?_
    refine sm_ialds ii_rw_become_28 (fun x3 => ?_)
    refine sm_iasts ii_rw_become_29 (fun w4 => ?_)
    refine sm_iinc (a3 + (1 : Int32)) [some (.ref a0), some (.ref a1), none, some (.int (a3 + (1 : Int32)))] ii_rw_become_30 rfl rfl rfl rfl ?_
    refine sm_goto 13 ii_rw_become_33 (by decide) ?_
    exact hself13 (a0) (a1) ((a3 + (1 : Int32))) w4
set_option maxHeartbeats 4000000 in
set_option maxRecDepth 100000 in
theorem ss_rw_become_13_f {E : Nat × (Nat → Int32)}  : ∀ (n : Nat) (a0 : Nat) (a1 : Nat) (a3 : Int32) (w : sm_Mem), sm_Sim E (mi_rw_become) 13 [some (.ref a0), some (.ref a1), none, some (.int a3)] [] w (ff_rw_become_13_f  n a0 a1 a3 w)
  | 0, _, _, _, _ => fun _ _ h => by cases h
  | n + 1, a0, a1, a3, w => ss_rw_become_13_b  _ (ss_rw_become_13_f  n) a0 a1 a3 w
set_option maxHeartbeats 4000000 in
set_option maxRecDepth 100000 in
theorem ss_rw_become_13 {E : Nat × (Nat → Int32)}  (a0 : Nat) (a1 : Nat) (a3 : Int32) (w : sm_Mem) : sm_Sim E (mi_rw_become) 13 [some (.ref a0), some (.ref a1), none, some (.int a3)] [] w (ff_rw_become_13  a0 a1 a3 w) := ss_rw_become_13_f  sm_N a0 a1 a3 w
noncomputable def ff_rw_become  (a0 : Nat) (a1 : Nat) (a2 : Int32) (w : sm_Mem) : sm_R := (Option.bind (sm_al a1) fun x5 => (sm_cV (sm_rc a0 2 (ff_rw_begin (a0) ((if x5 < a2 then x5 else a2)) ((0 : Int32)) w)) fun w7 => ff_rw_become_13 (a0) (a1) ((0 : Int32)) w7))
set_option maxHeartbeats 4000000 in
set_option maxRecDepth 100000 in
theorem ss_rw_become_0 {E : Nat × (Nat → Int32)}  (a0 : Nat) (a1 : Nat) (a2 : Int32) (w : sm_Mem) : sm_Sim E (mi_rw_become) 0 [some (.ref a0), some (.ref a1), some (.int a2), none] [] w (ff_rw_become  a0 a1 a2 w) := by
  unfold ff_rw_become
  refine sm_aload_n ii_rw_become_0 rfl ?_
  refine sm_iload_n ii_rw_become_1 rfl ?_
  refine sm_aload_n ii_rw_become_2 rfl ?_
  refine sm_alen ii_rw_become_3 (fun x5 => ?_)
  refine sm_mmin ii_rw_become_4 mq_rw_25 mq_st_min mq_in mq_co_min (by decide) rfl ?_
  refine sm_iconst (0 : Int32) ii_rw_become_7 (by decide) ?_
  refine sm_dvV [.int (if x5 < a2 then x5 else a2), .int (0 : Int32)] [] rfl ii_rw_become_8 ml_rw_28 (mf_rw_begin) (mv_rw_begin) (Nat.le_of_ble_eq_true rfl) rfl 2 rfl rfl rfl (mc_rw_begin (a0) ((if x5 < a2 then x5 else a2)) ((0 : Int32)) w) (fun w7 => ?_)
  refine sm_iconst (0 : Int32) ii_rw_become_11 (by decide) ?_
  refine sm_istore_n [some (.ref a0), some (.ref a1), some (.int a2), some (.int (0 : Int32))] ii_rw_become_12 rfl rfl ?_
  refine sm_msk [true, true, false, true] [some (.ref a0), some (.ref a1), none, some (.int (0 : Int32))] rfl ?_
  exact ss_rw_become_13 (a0) (a1) ((0 : Int32)) w7
set_option maxHeartbeats 4000000 in
set_option maxRecDepth 100000 in
theorem mc_rw_become {E : Nat × (Nat → Int32)} (a0 : Nat) (a1 : Nat) (a2 : Int32) (w : sm_Mem) : sm_MC E mi_rw_become [.ref a0, .ref a1, .int a2] w (ff_rw_become a0 a1 a2 w) := sm_MC_of E (by decide +kernel) rfl (Nat.le_of_ble_eq_true rfl) (ss_rw_become_0 a0 a1 a2 w)
abbrev mi_ho_few : sm_MI := (⟨"HerOrders", "few", "(II)I"⟩, prog_1_method_25_code, 4, (some .int), 15)
set_option maxRecDepth 100000 in
theorem mf_ho_few : sm_MF mi_ho_few 2 := ⟨List.mem_of_getElem? (i := 557) (by decide +kernel), List.mem_of_getElem? (i := 69) (by decide +kernel), ⟨by decide, by decide⟩, by decide +kernel⟩
set_option maxRecDepth 100000 in
theorem mv_ho_few : sm_MFV mi_ho_few := ⟨List.mem_of_getElem? (i := 555) (by decide +kernel), List.mem_of_getElem? (i := 556) (by decide +kernel)⟩
set_option maxRecDepth 100000 in
theorem ii_ho_few_0 : sm_D prog_1_method_25_code 0 1 1 (.iload_n 2) := ⟨by decide +kernel, rfl⟩
set_option maxRecDepth 100000 in
theorem ii_ho_few_1 : sm_D prog_1_method_25_code 1 2 3 (.bipush 6) := ⟨by decide +kernel, rfl⟩
set_option maxRecDepth 100000 in
theorem ii_ho_few_3 : sm_D prog_1_method_25_code 3 3 6 (.invokestatic 81) := ⟨by decide +kernel, rfl⟩
set_option maxRecDepth 100000 in
theorem ii_ho_few_6 : sm_D prog_1_method_25_code 6 3 9 (.ifCond .ne 5) := ⟨by decide +kernel, rfl⟩
set_option maxRecDepth 100000 in
theorem ii_ho_few_9 : sm_D prog_1_method_25_code 9 1 10 (.iconst (-1)) := ⟨by decide +kernel, rfl⟩
set_option maxRecDepth 100000 in
theorem ii_ho_few_10 : sm_D prog_1_method_25_code 10 1 11 (.ireturn) := ⟨by decide +kernel, rfl⟩
set_option maxRecDepth 100000 in
theorem ii_ho_few_11 : sm_D prog_1_method_25_code 11 1 12 (.aload_n 0) := ⟨by decide +kernel, rfl⟩
set_option maxRecDepth 100000 in
theorem ii_ho_few_12 : sm_D prog_1_method_25_code 12 1 13 (.iload_n 1) := ⟨by decide +kernel, rfl⟩
set_option maxRecDepth 100000 in
theorem ii_ho_few_13 : sm_D prog_1_method_25_code 13 1 14 (.iconst 5) := ⟨by decide +kernel, rfl⟩
set_option maxRecDepth 100000 in
theorem ii_ho_few_14 : sm_D prog_1_method_25_code 14 3 17 (.invokevirtual 192) := ⟨by decide +kernel, rfl⟩
set_option maxRecDepth 100000 in
theorem ii_ho_few_17 : sm_D prog_1_method_25_code 17 1 18 (.istore_n 3) := ⟨by decide +kernel, rfl⟩
set_option maxRecDepth 100000 in
theorem ii_ho_few_18 : sm_D prog_1_method_25_code 18 1 19 (.iload_n 3) := ⟨by decide +kernel, rfl⟩
set_option maxRecDepth 100000 in
theorem ii_ho_few_19 : sm_D prog_1_method_25_code 19 3 22 (.ifCond .eq 5) := ⟨by decide +kernel, rfl⟩
set_option maxRecDepth 100000 in
theorem ii_ho_few_22 : sm_D prog_1_method_25_code 22 1 23 (.iload_n 3) := ⟨by decide +kernel, rfl⟩
set_option maxRecDepth 100000 in
theorem ii_ho_few_23 : sm_D prog_1_method_25_code 23 1 24 (.ireturn) := ⟨by decide +kernel, rfl⟩
set_option maxRecDepth 100000 in
theorem ii_ho_few_24 : sm_D prog_1_method_25_code 24 1 25 (.aload_n 0) := ⟨by decide +kernel, rfl⟩
set_option maxRecDepth 100000 in
theorem ii_ho_few_25 : sm_D prog_1_method_25_code 25 3 28 (.getfield 40) := ⟨by decide +kernel, rfl⟩
set_option maxRecDepth 100000 in
theorem ii_ho_few_28 : sm_D prog_1_method_25_code 28 1 29 (.aload_n 0) := ⟨by decide +kernel, rfl⟩
set_option maxRecDepth 100000 in
theorem ii_ho_few_29 : sm_D prog_1_method_25_code 29 3 32 (.getfield 11) := ⟨by decide +kernel, rfl⟩
set_option maxRecDepth 100000 in
theorem ii_ho_few_32 : sm_D prog_1_method_25_code 32 1 33 (.iload_n 1) := ⟨by decide +kernel, rfl⟩
set_option maxRecDepth 100000 in
theorem ii_ho_few_33 : sm_D prog_1_method_25_code 33 1 34 (.aaload) := ⟨by decide +kernel, rfl⟩
set_option maxRecDepth 100000 in
theorem ii_ho_few_34 : sm_D prog_1_method_25_code 34 2 36 (.bipush (-9)) := ⟨by decide +kernel, rfl⟩
set_option maxRecDepth 100000 in
theorem ii_ho_few_36 : sm_D prog_1_method_25_code 36 3 39 (.invokevirtual 195) := ⟨by decide +kernel, rfl⟩
set_option maxRecDepth 100000 in
theorem ii_ho_few_39 : sm_D prog_1_method_25_code 39 1 40 (.aload_n 0) := ⟨by decide +kernel, rfl⟩
set_option maxRecDepth 100000 in
theorem ii_ho_few_40 : sm_D prog_1_method_25_code 40 3 43 (.getfield 40) := ⟨by decide +kernel, rfl⟩
set_option maxRecDepth 100000 in
theorem ii_ho_few_43 : sm_D prog_1_method_25_code 43 3 46 (.invokevirtual 199) := ⟨by decide +kernel, rfl⟩
set_option maxRecDepth 100000 in
theorem ii_ho_few_46 : sm_D prog_1_method_25_code 46 3 49 (.ifCond .ne 6) := ⟨by decide +kernel, rfl⟩
set_option maxRecDepth 100000 in
theorem ii_ho_few_49 : sm_D prog_1_method_25_code 49 2 51 (.bipush (-9)) := ⟨by decide +kernel, rfl⟩
set_option maxRecDepth 100000 in
theorem ii_ho_few_51 : sm_D prog_1_method_25_code 51 1 52 (.ireturn) := ⟨by decide +kernel, rfl⟩
set_option maxRecDepth 100000 in
theorem ii_ho_few_52 : sm_D prog_1_method_25_code 52 1 53 (.aload_n 0) := ⟨by decide +kernel, rfl⟩
set_option maxRecDepth 100000 in
theorem ii_ho_few_53 : sm_D prog_1_method_25_code 53 3 56 (.getfield 11) := ⟨by decide +kernel, rfl⟩
set_option maxRecDepth 100000 in
theorem ii_ho_few_56 : sm_D prog_1_method_25_code 56 1 57 (.iload_n 2) := ⟨by decide +kernel, rfl⟩
set_option maxRecDepth 100000 in
theorem ii_ho_few_57 : sm_D prog_1_method_25_code 57 1 58 (.aaload) := ⟨by decide +kernel, rfl⟩
set_option maxRecDepth 100000 in
theorem ii_ho_few_58 : sm_D prog_1_method_25_code 58 1 59 (.aload_n 0) := ⟨by decide +kernel, rfl⟩
set_option maxRecDepth 100000 in
theorem ii_ho_few_59 : sm_D prog_1_method_25_code 59 3 62 (.getfield 40) := ⟨by decide +kernel, rfl⟩
set_option maxRecDepth 100000 in
theorem ii_ho_few_62 : sm_D prog_1_method_25_code 62 3 65 (.getfield 210) := ⟨by decide +kernel, rfl⟩
set_option maxRecDepth 100000 in
theorem ii_ho_few_65 : sm_D prog_1_method_25_code 65 1 66 (.aload_n 0) := ⟨by decide +kernel, rfl⟩
set_option maxRecDepth 100000 in
theorem ii_ho_few_66 : sm_D prog_1_method_25_code 66 3 69 (.getfield 40) := ⟨by decide +kernel, rfl⟩
set_option maxRecDepth 100000 in
theorem ii_ho_few_69 : sm_D prog_1_method_25_code 69 3 72 (.getfield 213) := ⟨by decide +kernel, rfl⟩
set_option maxRecDepth 100000 in
theorem ii_ho_few_72 : sm_D prog_1_method_25_code 72 3 75 (.invokevirtual 216) := ⟨by decide +kernel, rfl⟩
set_option maxRecDepth 100000 in
theorem ii_ho_few_75 : sm_D prog_1_method_25_code 75 1 76 (.aload_n 0) := ⟨by decide +kernel, rfl⟩
set_option maxRecDepth 100000 in
theorem ii_ho_few_76 : sm_D prog_1_method_25_code 76 3 79 (.getfield 40) := ⟨by decide +kernel, rfl⟩
set_option maxRecDepth 100000 in
theorem ii_ho_few_79 : sm_D prog_1_method_25_code 79 3 82 (.getfield 219) := ⟨by decide +kernel, rfl⟩
set_option maxRecDepth 100000 in
theorem ii_ho_few_82 : sm_D prog_1_method_25_code 82 1 83 (.ireturn) := ⟨by decide +kernel, rfl⟩
noncomputable def ff_ho_few  (a1 : Int32) (a2 : Int32) (w : sm_Mem) : sm_R := (sm_cI (ff_ho_isWithin (a2) ((6 : Int32)) w) fun x1 w2 => (if x1 = (0 : Int32) then (some (.int (-1 : Int32), w2)) else (sm_cI (ff_ho_refusalOfWords (a1) ((5 : Int32)) w2) fun x3 w4 => (if x3 = (0 : Int32) then (Option.bind (sm_rr 1 a1) fun r5 => (sm_cV (ff_wy_runWords (r5) ((-9 : Int32)) w4) fun w7 => (sm_cI (ff_wy_fullWays  w7) fun x8 w9 => (if x8 = (0 : Int32) then (some (.int (-9 : Int32), w9)) else (Option.bind (sm_rr 1 a2) fun r10 => (sm_cV (sm_rc r10 2 (ff_rw_become (r10) (55) ((w9.1 49 3)) w9)) fun w12 => (some (.int (w12.1 49 8), w12)))))))) else (some (.int x3, w4))))))
set_option maxHeartbeats 4000000 in
set_option maxRecDepth 100000 in
theorem ss_ho_few_0 {E : Nat × (Nat → Int32)}  (a1 : Int32) (a2 : Int32) (w : sm_Mem) : sm_Sim E (mi_ho_few) 0 [some (.ref 0), some (.int a1), some (.int a2), none] [] w (ff_ho_few  a1 a2 w) := by
  unfold ff_ho_few
  refine sm_iload_n ii_ho_few_0 rfl ?_
  refine sm_bipush (6 : Int32) ii_ho_few_1 (by decide) ?_
  refine sm_csI [.int a2, .int (6 : Int32)] [] rfl ii_ho_few_3 ml_ho_81 (mf_ho_isWithin) (mv_ho_isWithin) (Nat.le_of_ble_eq_true rfl) rfl rfl rfl (mc_ho_isWithin (a2) ((6 : Int32)) w) (fun x1 w2 => ?_)
  refine sm_if_ne 11 ii_ho_few_6 (by decide) ?_ ?_
  · refine sm_iconst (-1 : Int32) ii_ho_few_9 (by decide) ?_
    exact sm_iret ii_ho_few_10 rfl
  · refine sm_aload_n ii_ho_few_11 rfl ?_
    refine sm_iload_n ii_ho_few_12 rfl ?_
    refine sm_iconst (5 : Int32) ii_ho_few_13 (by decide) ?_
    refine sm_cvI [.int a1, .int (5 : Int32)] [] rfl ii_ho_few_14 ml_ho_192 (mf_ho_refusalOfWords) (mv_ho_refusalOfWords) (Nat.le_of_ble_eq_true rfl) rfl 6 rfl rfl rfl rfl (mc_ho_refusalOfWords (a1) ((5 : Int32)) w2) (fun x3 w4 => ?_)
    refine sm_istore_n [some (.ref 0), some (.int a1), some (.int a2), some (.int x3)] ii_ho_few_17 rfl rfl ?_
    refine sm_iload_n ii_ho_few_18 rfl ?_
    refine sm_if_eq 24 ii_ho_few_19 (by decide) ?_ ?_
    · refine sm_aload_n ii_ho_few_24 rfl ?_
      refine sm_getR 49 ii_ho_few_25 fl_ho_40 (k := 0) rfl ?_
      refine sm_aload_n ii_ho_few_28 rfl ?_
      refine sm_getR 1 ii_ho_few_29 fl_ho_11 (k := 0) rfl ?_
      refine sm_iload_n ii_ho_few_32 rfl ?_
      refine sm_aald ii_ho_few_33 (fun r5 => ?_)
      refine sm_bipush (-9 : Int32) ii_ho_few_34 (by decide) ?_
      refine sm_cvV [.ref r5, .int (-9 : Int32)] [] rfl ii_ho_few_36 ml_ho_195 (mf_wy_runWords) (mv_wy_runWords) (Nat.le_of_ble_eq_true rfl) rfl 5 rfl rfl rfl rfl (mc_wy_runWords (r5) ((-9 : Int32)) w4) (fun w7 => ?_)
      refine sm_aload_n ii_ho_few_39 rfl ?_
      refine sm_getR 49 ii_ho_few_40 fl_ho_40 (k := 0) rfl ?_
      refine sm_cvI [] [] rfl ii_ho_few_43 ml_ho_199 (mf_wy_fullWays) (mv_wy_fullWays) (Nat.le_of_ble_eq_true rfl) rfl 5 rfl rfl rfl rfl (mc_wy_fullWays  w7) (fun x8 w9 => ?_)
      refine sm_if_ne 52 ii_ho_few_46 (by decide) ?_ ?_
      · refine sm_bipush (-9 : Int32) ii_ho_few_49 (by decide) ?_
        exact sm_iret ii_ho_few_51 rfl
      · refine sm_aload_n ii_ho_few_52 rfl ?_
        refine sm_getR 1 ii_ho_few_53 fl_ho_11 (k := 0) rfl ?_
        refine sm_iload_n ii_ho_few_56 rfl ?_
        refine sm_aald ii_ho_few_57 (fun r10 => ?_)
        refine sm_aload_n ii_ho_few_58 rfl ?_
        refine sm_getR 49 ii_ho_few_59 fl_ho_40 (k := 0) rfl ?_
        refine sm_getR 55 ii_ho_few_62 fl_ho_210 (k := 49) rfl ?_
        refine sm_aload_n ii_ho_few_65 rfl ?_
        refine sm_getR 49 ii_ho_few_66 fl_ho_40 (k := 0) rfl ?_
        refine sm_getI ii_ho_few_69 fl_ho_213 (k := 49) rfl ?_
        refine sm_dvV [.ref 55, .int (w9.1 49 3)] [] rfl ii_ho_few_72 ml_ho_216 (mf_rw_become) (mv_rw_become) (Nat.le_of_ble_eq_true rfl) rfl 2 rfl rfl rfl (mc_rw_become (r10) (55) ((w9.1 49 3)) w9) (fun w12 => ?_)
        refine sm_aload_n ii_ho_few_75 rfl ?_
        refine sm_getR 49 ii_ho_few_76 fl_ho_40 (k := 0) rfl ?_
        refine sm_getI ii_ho_few_79 fl_ho_219 (k := 49) rfl ?_
        exact sm_iret ii_ho_few_82 rfl
    · refine sm_iload_n ii_ho_few_22 rfl ?_
      exact sm_iret ii_ho_few_23 rfl
set_option maxHeartbeats 4000000 in
set_option maxRecDepth 100000 in
theorem mc_ho_few {E : Nat × (Nat → Int32)} (a1 : Int32) (a2 : Int32) (w : sm_Mem) : sm_MC E mi_ho_few [.ref 0, .int a1, .int a2] w (ff_ho_few a1 a2 w) := sm_MC_of E (by decide +kernel) rfl (Nat.le_of_ble_eq_true rfl) (ss_ho_few_0 a1 a2 w)
abbrev mi_la_bits : sm_MI := (⟨"HerOrdersLaw", "bits", "(I)I"⟩, method_6_code, 3, (some .int), 1)
set_option maxRecDepth 100000 in
theorem mf_la_bits : sm_MF mi_la_bits 1 := ⟨List.mem_of_getElem? (i := 837) (by decide +kernel), List.mem_of_getElem? (i := 68) (by decide +kernel), ⟨by decide, by decide⟩, by decide +kernel⟩
set_option maxRecDepth 100000 in
theorem mv_la_bits : sm_MFS mi_la_bits := List.mem_of_getElem? (i := 836) (by decide +kernel)
set_option maxRecDepth 100000 in
theorem ii_la_bits_0 : sm_D method_6_code 0 1 1 (.iconst 0) := ⟨by decide +kernel, rfl⟩
set_option maxRecDepth 100000 in
theorem ii_la_bits_1 : sm_D method_6_code 1 1 2 (.istore_n 1) := ⟨by decide +kernel, rfl⟩
set_option maxRecDepth 100000 in
theorem ii_la_bits_2 : sm_D method_6_code 2 1 3 (.iconst 0) := ⟨by decide +kernel, rfl⟩
set_option maxRecDepth 100000 in
theorem ii_la_bits_3 : sm_D method_6_code 3 1 4 (.istore_n 2) := ⟨by decide +kernel, rfl⟩
set_option maxRecDepth 100000 in
theorem ii_la_bits_4 : sm_D method_6_code 4 1 5 (.iload_n 2) := ⟨by decide +kernel, rfl⟩
set_option maxRecDepth 100000 in
theorem ii_la_bits_5 : sm_D method_6_code 5 2 7 (.bipush 6) := ⟨by decide +kernel, rfl⟩
set_option maxRecDepth 100000 in
theorem ii_la_bits_7 : sm_D method_6_code 7 3 10 (.if_icmp .ge 17) := ⟨by decide +kernel, rfl⟩
set_option maxRecDepth 100000 in
theorem ii_la_bits_10 : sm_D method_6_code 10 1 11 (.iload_n 1) := ⟨by decide +kernel, rfl⟩
set_option maxRecDepth 100000 in
theorem ii_la_bits_11 : sm_D method_6_code 11 1 12 (.iload_n 0) := ⟨by decide +kernel, rfl⟩
set_option maxRecDepth 100000 in
theorem ii_la_bits_12 : sm_D method_6_code 12 1 13 (.iload_n 2) := ⟨by decide +kernel, rfl⟩
set_option maxRecDepth 100000 in
theorem ii_la_bits_13 : sm_D method_6_code 13 1 14 (.ishr) := ⟨by decide +kernel, rfl⟩
set_option maxRecDepth 100000 in
theorem ii_la_bits_14 : sm_D method_6_code 14 1 15 (.iconst 1) := ⟨by decide +kernel, rfl⟩
set_option maxRecDepth 100000 in
theorem ii_la_bits_15 : sm_D method_6_code 15 1 16 (.iand) := ⟨by decide +kernel, rfl⟩
set_option maxRecDepth 100000 in
theorem ii_la_bits_16 : sm_D method_6_code 16 1 17 (.iadd) := ⟨by decide +kernel, rfl⟩
set_option maxRecDepth 100000 in
theorem ii_la_bits_17 : sm_D method_6_code 17 1 18 (.istore_n 1) := ⟨by decide +kernel, rfl⟩
set_option maxRecDepth 100000 in
theorem ii_la_bits_18 : sm_D method_6_code 18 3 21 (.iinc 2 1) := ⟨by decide +kernel, rfl⟩
set_option maxRecDepth 100000 in
theorem ii_la_bits_21 : sm_D method_6_code 21 3 24 (.goto (-17)) := ⟨by decide +kernel, rfl⟩
set_option maxRecDepth 100000 in
theorem ii_la_bits_24 : sm_D method_6_code 24 1 25 (.iload_n 1) := ⟨by decide +kernel, rfl⟩
set_option maxRecDepth 100000 in
theorem ii_la_bits_25 : sm_D method_6_code 25 1 26 (.ireturn) := ⟨by decide +kernel, rfl⟩
noncomputable def ff_la_bits_4_b  (self4 : Int32 → Int32 → Int32 → sm_Mem → sm_R) (a0 : Int32) (a1 : Int32) (a2 : Int32) (w : sm_Mem) : sm_R := (if (6 : Int32) ≤ a2 then (some (.int a1, w)) else self4 (a0) ((a1 + ((a0 >>> (a2 &&& (31 : Int32))) &&& (1 : Int32)))) ((a2 + (1 : Int32))) w)
noncomputable def ff_la_bits_4_f  : Nat → Int32 → Int32 → Int32 → sm_Mem → sm_R
  | 0, _, _, _, _ => none
  | n + 1, a0, a1, a2, w => ff_la_bits_4_b  (ff_la_bits_4_f  n) a0 a1 a2 w
noncomputable def ff_la_bits_4  (a0 : Int32) (a1 : Int32) (a2 : Int32) (w : sm_Mem) : sm_R := ff_la_bits_4_f  sm_N a0 a1 a2 w
set_option maxHeartbeats 4000000 in
set_option maxRecDepth 100000 in
theorem ss_la_bits_4_b {E : Nat × (Nat → Int32)}  (self4 : Int32 → Int32 → Int32 → sm_Mem → sm_R) (hself4 : ∀ (a0 : Int32) (a1 : Int32) (a2 : Int32) (w : sm_Mem), sm_Sim E (mi_la_bits) 4 [some (.int a0), some (.int a1), some (.int a2)] [] w (self4 a0 a1 a2 w)) (a0 : Int32) (a1 : Int32) (a2 : Int32) (w : sm_Mem) : sm_Sim E (mi_la_bits) 4 [some (.int a0), some (.int a1), some (.int a2)] [] w (ff_la_bits_4_b  self4 a0 a1 a2 w) := by
  unfold ff_la_bits_4_b
  refine sm_iload_n ii_la_bits_4 rfl ?_
  refine sm_bipush (6 : Int32) ii_la_bits_5 (by decide) ?_
  refine sm_icmp_ge 24 ii_la_bits_7 (by decide) ?_ ?_
  · refine sm_iload_n ii_la_bits_24 rfl ?_
    exact sm_iret ii_la_bits_25 rfl
  · refine sm_iload_n ii_la_bits_10 rfl ?_
    refine sm_iload_n ii_la_bits_11 rfl ?_
    refine sm_iload_n ii_la_bits_12 rfl ?_
    refine sm_ishr ii_la_bits_13 ?_
    refine sm_iconst (1 : Int32) ii_la_bits_14 (by decide) ?_
    refine sm_iand ii_la_bits_15 ?_
    refine sm_iadd ii_la_bits_16 ?_
    refine sm_istore_n [some (.int a0), some (.int (a1 + ((a0 >>> (a2 &&& (31 : Int32))) &&& (1 : Int32)))), some (.int a2)] ii_la_bits_17 rfl rfl ?_
    refine sm_iinc (a2 + (1 : Int32)) [some (.int a0), some (.int (a1 + ((a0 >>> (a2 &&& (31 : Int32))) &&& (1 : Int32)))), some (.int (a2 + (1 : Int32)))] ii_la_bits_18 rfl rfl rfl rfl ?_
    refine sm_goto 4 ii_la_bits_21 (by decide) ?_
    exact hself4 (a0) ((a1 + ((a0 >>> (a2 &&& (31 : Int32))) &&& (1 : Int32)))) ((a2 + (1 : Int32))) w
set_option maxHeartbeats 4000000 in
set_option maxRecDepth 100000 in
theorem ss_la_bits_4_f {E : Nat × (Nat → Int32)}  : ∀ (n : Nat) (a0 : Int32) (a1 : Int32) (a2 : Int32) (w : sm_Mem), sm_Sim E (mi_la_bits) 4 [some (.int a0), some (.int a1), some (.int a2)] [] w (ff_la_bits_4_f  n a0 a1 a2 w)
  | 0, _, _, _, _ => fun _ _ h => by cases h
  | n + 1, a0, a1, a2, w => ss_la_bits_4_b  _ (ss_la_bits_4_f  n) a0 a1 a2 w
set_option maxHeartbeats 4000000 in
set_option maxRecDepth 100000 in
theorem ss_la_bits_4 {E : Nat × (Nat → Int32)}  (a0 : Int32) (a1 : Int32) (a2 : Int32) (w : sm_Mem) : sm_Sim E (mi_la_bits) 4 [some (.int a0), some (.int a1), some (.int a2)] [] w (ff_la_bits_4  a0 a1 a2 w) := ss_la_bits_4_f  sm_N a0 a1 a2 w
noncomputable def ff_la_bits  (a0 : Int32) (w : sm_Mem) : sm_R := ff_la_bits_4 (a0) ((0 : Int32)) ((0 : Int32)) w
set_option maxHeartbeats 4000000 in
set_option maxRecDepth 100000 in
theorem ss_la_bits_0 {E : Nat × (Nat → Int32)}  (a0 : Int32) (w : sm_Mem) : sm_Sim E (mi_la_bits) 0 [some (.int a0), none, none] [] w (ff_la_bits  a0 w) := by
  unfold ff_la_bits
  refine sm_iconst (0 : Int32) ii_la_bits_0 (by decide) ?_
  refine sm_istore_n [some (.int a0), some (.int (0 : Int32)), none] ii_la_bits_1 rfl rfl ?_
  refine sm_iconst (0 : Int32) ii_la_bits_2 (by decide) ?_
  refine sm_istore_n [some (.int a0), some (.int (0 : Int32)), some (.int (0 : Int32))] ii_la_bits_3 rfl rfl ?_
  exact ss_la_bits_4 (a0) ((0 : Int32)) ((0 : Int32)) w
set_option maxHeartbeats 4000000 in
set_option maxRecDepth 100000 in
theorem mc_la_bits {E : Nat × (Nat → Int32)} (a0 : Int32) (w : sm_Mem) : sm_MC E mi_la_bits [.int a0] w (ff_la_bits a0 w) := sm_MC_of E (by decide +kernel) rfl (Nat.le_of_ble_eq_true rfl) (ss_la_bits_0 a0 w)
abbrev mi_ho_at : sm_MI := (⟨"HerOrders", "at", "(II)I"⟩, prog_1_method_4_code, 4, (some .int), 4)
set_option maxRecDepth 100000 in
theorem mf_ho_at : sm_MF mi_ho_at 2 := ⟨List.mem_of_getElem? (i := 365) (by decide +kernel), List.mem_of_getElem? (i := 69) (by decide +kernel), ⟨by decide, by decide⟩, by decide +kernel⟩
set_option maxRecDepth 100000 in
theorem mv_ho_at : sm_MFV mi_ho_at := ⟨List.mem_of_getElem? (i := 363) (by decide +kernel), List.mem_of_getElem? (i := 364) (by decide +kernel)⟩
set_option maxRecDepth 100000 in
theorem ii_ho_at_0 : sm_D prog_1_method_4_code 0 1 1 (.aload_n 0) := ⟨by decide +kernel, rfl⟩
set_option maxRecDepth 100000 in
theorem ii_ho_at_1 : sm_D prog_1_method_4_code 1 1 2 (.aload_n 0) := ⟨by decide +kernel, rfl⟩
set_option maxRecDepth 100000 in
theorem ii_ho_at_2 : sm_D prog_1_method_4_code 2 3 5 (.getfield 11) := ⟨by decide +kernel, rfl⟩
set_option maxRecDepth 100000 in
theorem ii_ho_at_5 : sm_D prog_1_method_4_code 5 1 6 (.iload_n 1) := ⟨by decide +kernel, rfl⟩
set_option maxRecDepth 100000 in
theorem ii_ho_at_6 : sm_D prog_1_method_4_code 6 1 7 (.iload_n 2) := ⟨by decide +kernel, rfl⟩
set_option maxRecDepth 100000 in
theorem ii_ho_at_7 : sm_D prog_1_method_4_code 7 3 10 (.invokevirtual 62) := ⟨by decide +kernel, rfl⟩
set_option maxRecDepth 100000 in
theorem ii_ho_at_10 : sm_D prog_1_method_4_code 10 1 11 (.istore_n 3) := ⟨by decide +kernel, rfl⟩
set_option maxRecDepth 100000 in
theorem ii_ho_at_11 : sm_D prog_1_method_4_code 11 1 12 (.iload_n 3) := ⟨by decide +kernel, rfl⟩
set_option maxRecDepth 100000 in
theorem ii_ho_at_12 : sm_D prog_1_method_4_code 12 3 15 (.ifCond .eq 5) := ⟨by decide +kernel, rfl⟩
set_option maxRecDepth 100000 in
theorem ii_ho_at_15 : sm_D prog_1_method_4_code 15 1 16 (.iload_n 3) := ⟨by decide +kernel, rfl⟩
set_option maxRecDepth 100000 in
theorem ii_ho_at_16 : sm_D prog_1_method_4_code 16 1 17 (.ireturn) := ⟨by decide +kernel, rfl⟩
set_option maxRecDepth 100000 in
theorem ii_ho_at_17 : sm_D prog_1_method_4_code 17 1 18 (.aload_n 0) := ⟨by decide +kernel, rfl⟩
set_option maxRecDepth 100000 in
theorem ii_ho_at_18 : sm_D prog_1_method_4_code 18 3 21 (.getfield 54) := ⟨by decide +kernel, rfl⟩
set_option maxRecDepth 100000 in
theorem ii_ho_at_21 : sm_D prog_1_method_4_code 21 1 22 (.aload_n 0) := ⟨by decide +kernel, rfl⟩
set_option maxRecDepth 100000 in
theorem ii_ho_at_22 : sm_D prog_1_method_4_code 22 3 25 (.getfield 11) := ⟨by decide +kernel, rfl⟩
set_option maxRecDepth 100000 in
theorem ii_ho_at_25 : sm_D prog_1_method_4_code 25 1 26 (.iload_n 1) := ⟨by decide +kernel, rfl⟩
set_option maxRecDepth 100000 in
theorem ii_ho_at_26 : sm_D prog_1_method_4_code 26 1 27 (.aaload) := ⟨by decide +kernel, rfl⟩
set_option maxRecDepth 100000 in
theorem ii_ho_at_27 : sm_D prog_1_method_4_code 27 3 30 (.getfield 66) := ⟨by decide +kernel, rfl⟩
set_option maxRecDepth 100000 in
theorem ii_ho_at_30 : sm_D prog_1_method_4_code 30 1 31 (.iload_n 2) := ⟨by decide +kernel, rfl⟩
set_option maxRecDepth 100000 in
theorem ii_ho_at_31 : sm_D prog_1_method_4_code 31 1 32 (.iaload) := ⟨by decide +kernel, rfl⟩
set_option maxRecDepth 100000 in
theorem ii_ho_at_32 : sm_D prog_1_method_4_code 32 3 35 (.putfield 70) := ⟨by decide +kernel, rfl⟩
set_option maxRecDepth 100000 in
theorem ii_ho_at_35 : sm_D prog_1_method_4_code 35 1 36 (.iconst 1) := ⟨by decide +kernel, rfl⟩
set_option maxRecDepth 100000 in
theorem ii_ho_at_36 : sm_D prog_1_method_4_code 36 1 37 (.ireturn) := ⟨by decide +kernel, rfl⟩
noncomputable def ff_ho_at  (a1 : Int32) (a2 : Int32) (w : sm_Mem) : sm_R := (sm_cI (ff_ho_refusalOfPlace (1) (a1) (a2) w) fun x1 w2 => (if x1 = (0 : Int32) then (Option.bind (sm_rr 1 a1) fun r3 => (Option.bind (sm_fk r3 2 0 2) fun r4 => (Option.bind (sm_rds w2 r4 a2) fun x5 => (sm_let (sm_wI w2 60 0 x5) fun w6 => (some (.int (1 : Int32), w6)))))) else (some (.int x1, w2))))
set_option maxHeartbeats 4000000 in
set_option maxRecDepth 100000 in
theorem ss_ho_at_0 {E : Nat × (Nat → Int32)}  (a1 : Int32) (a2 : Int32) (w : sm_Mem) : sm_Sim E (mi_ho_at) 0 [some (.ref 0), some (.int a1), some (.int a2), none] [] w (ff_ho_at  a1 a2 w) := by
  unfold ff_ho_at
  refine sm_aload_n ii_ho_at_0 rfl ?_
  refine sm_aload_n ii_ho_at_1 rfl ?_
  refine sm_getR 1 ii_ho_at_2 fl_ho_11 (k := 0) rfl ?_
  refine sm_iload_n ii_ho_at_5 rfl ?_
  refine sm_iload_n ii_ho_at_6 rfl ?_
  refine sm_cvI [.ref 1, .int a1, .int a2] [] rfl ii_ho_at_7 ml_ho_62 (mf_ho_refusalOfPlace) (mv_ho_refusalOfPlace) (Nat.le_of_ble_eq_true rfl) rfl 6 rfl rfl rfl rfl (mc_ho_refusalOfPlace (1) (a1) (a2) w) (fun x1 w2 => ?_)
  refine sm_istore_n [some (.ref 0), some (.int a1), some (.int a2), some (.int x1)] ii_ho_at_10 rfl rfl ?_
  refine sm_iload_n ii_ho_at_11 rfl ?_
  refine sm_if_eq 17 ii_ho_at_12 (by decide) ?_ ?_
  · refine sm_aload_n ii_ho_at_17 rfl ?_
    refine sm_getR 60 ii_ho_at_18 fl_ho_54 (k := 0) rfl ?_
    refine sm_aload_n ii_ho_at_21 rfl ?_
    refine sm_getR 1 ii_ho_at_22 fl_ho_11 (k := 0) rfl ?_
    refine sm_iload_n ii_ho_at_25 rfl ?_
    refine sm_aald ii_ho_at_26 (fun r3 => ?_)
    refine sm_getRs ii_ho_at_27 fl_ho_66 (fun r4 => ?_)
    refine sm_iload_n ii_ho_at_30 rfl ?_
    refine sm_ialds ii_ho_at_31 (fun x5 => ?_)
    refine sm_putI ii_ho_at_32 fp_ho_70 (k := 60) rfl (fun w6 => ?_)
    refine sm_iconst (1 : Int32) ii_ho_at_35 (by decide) ?_
    exact sm_iret ii_ho_at_36 rfl
  · refine sm_iload_n ii_ho_at_15 rfl ?_
    exact sm_iret ii_ho_at_16 rfl
set_option maxHeartbeats 4000000 in
set_option maxRecDepth 100000 in
theorem mc_ho_at {E : Nat × (Nat → Int32)} (a1 : Int32) (a2 : Int32) (w : sm_Mem) : sm_MC E mi_ho_at [.ref 0, .int a1, .int a2] w (ff_ho_at a1 a2 w) := sm_MC_of E (by decide +kernel) rfl (Nat.le_of_ble_eq_true rfl) (ss_ho_at_0 a1 a2 w)
abbrev mi_la_laid : sm_MI := (⟨"HerOrdersLaw", "laid", "(LHerOrders;[II)Z"⟩, method_20_code, 5, (some .boolean), 5)
set_option maxRecDepth 100000 in
theorem mf_la_laid : sm_MF mi_la_laid 3 := ⟨List.mem_of_getElem? (i := 874) (by decide +kernel), List.mem_of_getElem? (i := 68) (by decide +kernel), ⟨by decide, by decide⟩, by decide +kernel⟩
set_option maxRecDepth 100000 in
theorem mv_la_laid : sm_MFS mi_la_laid := List.mem_of_getElem? (i := 873) (by decide +kernel)
set_option maxRecDepth 100000 in
theorem ii_la_laid_0 : sm_D method_20_code 0 1 1 (.iconst 1) := ⟨by decide +kernel, rfl⟩
set_option maxRecDepth 100000 in
theorem ii_la_laid_1 : sm_D method_20_code 1 1 2 (.istore_n 3) := ⟨by decide +kernel, rfl⟩
set_option maxRecDepth 100000 in
theorem ii_la_laid_2 : sm_D method_20_code 2 1 3 (.iconst 0) := ⟨by decide +kernel, rfl⟩
set_option maxRecDepth 100000 in
theorem ii_la_laid_3 : sm_D method_20_code 3 2 5 (.istore 4) := ⟨by decide +kernel, rfl⟩
set_option maxRecDepth 100000 in
theorem ii_la_laid_5 : sm_D method_20_code 5 2 7 (.iload 4) := ⟨by decide +kernel, rfl⟩
set_option maxRecDepth 100000 in
theorem ii_la_laid_7 : sm_D method_20_code 7 1 8 (.iload_n 2) := ⟨by decide +kernel, rfl⟩
set_option maxRecDepth 100000 in
theorem ii_la_laid_8 : sm_D method_20_code 8 3 11 (.if_icmp .ge 34) := ⟨by decide +kernel, rfl⟩
set_option maxRecDepth 100000 in
theorem ii_la_laid_11 : sm_D method_20_code 11 1 12 (.iload_n 3) := ⟨by decide +kernel, rfl⟩
set_option maxRecDepth 100000 in
theorem ii_la_laid_12 : sm_D method_20_code 12 3 15 (.ifCond .eq 22) := ⟨by decide +kernel, rfl⟩
set_option maxRecDepth 100000 in
theorem ii_la_laid_15 : sm_D method_20_code 15 1 16 (.aload_n 0) := ⟨by decide +kernel, rfl⟩
set_option maxRecDepth 100000 in
theorem ii_la_laid_16 : sm_D method_20_code 16 1 17 (.iconst 2) := ⟨by decide +kernel, rfl⟩
set_option maxRecDepth 100000 in
theorem ii_la_laid_17 : sm_D method_20_code 17 2 19 (.iload 4) := ⟨by decide +kernel, rfl⟩
set_option maxRecDepth 100000 in
theorem ii_la_laid_19 : sm_D method_20_code 19 1 20 (.aload_n 1) := ⟨by decide +kernel, rfl⟩
set_option maxRecDepth 100000 in
theorem ii_la_laid_20 : sm_D method_20_code 20 2 22 (.iload 4) := ⟨by decide +kernel, rfl⟩
set_option maxRecDepth 100000 in
theorem ii_la_laid_22 : sm_D method_20_code 22 1 23 (.iaload) := ⟨by decide +kernel, rfl⟩
set_option maxRecDepth 100000 in
theorem ii_la_laid_23 : sm_D method_20_code 23 3 26 (.invokevirtual 117) := ⟨by decide +kernel, rfl⟩
set_option maxRecDepth 100000 in
theorem ii_la_laid_26 : sm_D method_20_code 26 1 27 (.iconst 1) := ⟨by decide +kernel, rfl⟩
set_option maxRecDepth 100000 in
theorem ii_la_laid_27 : sm_D method_20_code 27 3 30 (.if_icmp .ne 7) := ⟨by decide +kernel, rfl⟩
set_option maxRecDepth 100000 in
theorem ii_la_laid_30 : sm_D method_20_code 30 1 31 (.iconst 1) := ⟨by decide +kernel, rfl⟩
set_option maxRecDepth 100000 in
theorem ii_la_laid_31 : sm_D method_20_code 31 3 34 (.goto 4) := ⟨by decide +kernel, rfl⟩
set_option maxRecDepth 100000 in
theorem ii_la_laid_34 : sm_D method_20_code 34 1 35 (.iconst 0) := ⟨by decide +kernel, rfl⟩
set_option maxRecDepth 100000 in
theorem ii_la_laid_35 : sm_D method_20_code 35 1 36 (.istore_n 3) := ⟨by decide +kernel, rfl⟩
set_option maxRecDepth 100000 in
theorem ii_la_laid_36 : sm_D method_20_code 36 3 39 (.iinc 4 1) := ⟨by decide +kernel, rfl⟩
set_option maxRecDepth 100000 in
theorem ii_la_laid_39 : sm_D method_20_code 39 3 42 (.goto (-34)) := ⟨by decide +kernel, rfl⟩
set_option maxRecDepth 100000 in
theorem ii_la_laid_42 : sm_D method_20_code 42 1 43 (.iload_n 3) := ⟨by decide +kernel, rfl⟩
set_option maxRecDepth 100000 in
theorem ii_la_laid_43 : sm_D method_20_code 43 1 44 (.ireturn) := ⟨by decide +kernel, rfl⟩
noncomputable def ff_la_laid_34 (self5 : Int32 → Int32 → Int32 → sm_Mem → sm_R) (a2 : Int32) (a4 : Int32) (w : sm_Mem) : sm_R := self5 (a2) ((0 : Int32)) ((a4 + (1 : Int32))) w
set_option maxHeartbeats 4000000 in
set_option maxRecDepth 100000 in
theorem ss_la_laid_34 {E : Nat × (Nat → Int32)} (self5 : Int32 → Int32 → Int32 → sm_Mem → sm_R) (hself5 : ∀ (a2 : Int32) (a3 : Int32) (a4 : Int32) (w : sm_Mem), sm_Sim E (mi_la_laid) 5 [some (.ref 0), some (.ref 64), some (.int a2), some (.int a3), some (.int a4)] [] w (self5 a2 a3 a4 w)) (a2 : Int32) (a4 : Int32) (w : sm_Mem) : sm_Sim E (mi_la_laid) 34 [some (.ref 0), some (.ref 64), some (.int a2), none, some (.int a4)] [] w (ff_la_laid_34 self5 a2 a4 w) := by
  unfold ff_la_laid_34
  refine sm_iconst (0 : Int32) ii_la_laid_34 (by decide) ?_
  refine sm_istore_n [some (.ref 0), some (.ref 64), some (.int a2), some (.int (0 : Int32)), some (.int a4)] ii_la_laid_35 rfl rfl ?_
  refine sm_iinc (a4 + (1 : Int32)) [some (.ref 0), some (.ref 64), some (.int a2), some (.int (0 : Int32)), some (.int (a4 + (1 : Int32)))] ii_la_laid_36 rfl rfl rfl rfl ?_
  refine sm_goto 5 ii_la_laid_39 (by decide) ?_
  exact hself5 (a2) ((0 : Int32)) ((a4 + (1 : Int32))) w
noncomputable def ff_la_laid_5_b  (self5 : Int32 → Int32 → Int32 → sm_Mem → sm_R) (a2 : Int32) (a3 : Int32) (a4 : Int32) (w : sm_Mem) : sm_R := (if a2 ≤ a4 then (sm_rz a3 w) else (if a3 = (0 : Int32) then ff_la_laid_34 self5 (a2) (a4) w else (Option.bind (sm_rd w 64 8 a4) fun x1 => (sm_cI (ff_ho_lay ((2 : Int32)) (a4) (x1) w) fun x2 w3 => (if x2 = (1 : Int32) then self5 (a2) ((1 : Int32)) ((a4 + (1 : Int32))) w3 else ff_la_laid_34 self5 (a2) (a4) w3)))))
noncomputable def ff_la_laid_5_f  : Nat → Int32 → Int32 → Int32 → sm_Mem → sm_R
  | 0, _, _, _, _ => none
  | n + 1, a2, a3, a4, w => ff_la_laid_5_b  (ff_la_laid_5_f  n) a2 a3 a4 w
noncomputable def ff_la_laid_5  (a2 : Int32) (a3 : Int32) (a4 : Int32) (w : sm_Mem) : sm_R := ff_la_laid_5_f  sm_N a2 a3 a4 w
set_option maxHeartbeats 4000000 in
set_option maxRecDepth 100000 in
theorem ss_la_laid_5_b {E : Nat × (Nat → Int32)}  (self5 : Int32 → Int32 → Int32 → sm_Mem → sm_R) (hself5 : ∀ (a2 : Int32) (a3 : Int32) (a4 : Int32) (w : sm_Mem), sm_Sim E (mi_la_laid) 5 [some (.ref 0), some (.ref 64), some (.int a2), some (.int a3), some (.int a4)] [] w (self5 a2 a3 a4 w)) (a2 : Int32) (a3 : Int32) (a4 : Int32) (w : sm_Mem) : sm_Sim E (mi_la_laid) 5 [some (.ref 0), some (.ref 64), some (.int a2), some (.int a3), some (.int a4)] [] w (ff_la_laid_5_b  self5 a2 a3 a4 w) := by
  unfold ff_la_laid_5_b
  refine sm_iload ii_la_laid_5 rfl ?_
  refine sm_iload_n ii_la_laid_7 rfl ?_
  refine sm_icmp_ge 42 ii_la_laid_8 (by decide) ?_ ?_
  · refine sm_iload_n ii_la_laid_42 rfl ?_
    exact sm_zret ii_la_laid_43 rfl
  · refine sm_iload_n ii_la_laid_11 rfl ?_
    refine sm_if_eq 34 ii_la_laid_12 (by decide) ?_ ?_
    · refine sm_msk [true, true, true, false, true] [some (.ref 0), some (.ref 64), some (.int a2), none, some (.int a4)] rfl ?_
      exact ss_la_laid_34 self5 hself5 (a2) (a4) w
    · refine sm_aload_n ii_la_laid_15 rfl ?_
      refine sm_iconst (2 : Int32) ii_la_laid_16 (by decide) ?_
      refine sm_iload ii_la_laid_17 rfl ?_
      refine sm_aload_n ii_la_laid_19 rfl ?_
      refine sm_iload ii_la_laid_20 rfl ?_
      refine sm_iald ii_la_laid_22 (k := 64) rfl (fun x1 => ?_)
      refine sm_cvI [.int (2 : Int32), .int a4, .int x1] [] rfl ii_la_laid_23 ml_la_117 (mf_ho_lay) (mv_ho_lay) (Nat.le_of_ble_eq_true rfl) rfl 6 rfl rfl rfl rfl (mc_ho_lay ((2 : Int32)) (a4) (x1) w) (fun x2 w3 => ?_)
      refine sm_iconst (1 : Int32) ii_la_laid_26 (by decide) ?_
      refine sm_icmp_ne 34 ii_la_laid_27 (by decide) ?_ ?_
      · refine sm_iconst (1 : Int32) ii_la_laid_30 (by decide) ?_
        refine sm_goto 35 ii_la_laid_31 (by decide) ?_
        refine sm_istore_n [some (.ref 0), some (.ref 64), some (.int a2), some (.int (1 : Int32)), some (.int a4)] ii_la_laid_35 rfl rfl ?_
        refine sm_iinc (a4 + (1 : Int32)) [some (.ref 0), some (.ref 64), some (.int a2), some (.int (1 : Int32)), some (.int (a4 + (1 : Int32)))] ii_la_laid_36 rfl rfl rfl rfl ?_
        refine sm_goto 5 ii_la_laid_39 (by decide) ?_
        exact hself5 (a2) ((1 : Int32)) ((a4 + (1 : Int32))) w3
      · refine sm_msk [true, true, true, false, true] [some (.ref 0), some (.ref 64), some (.int a2), none, some (.int a4)] rfl ?_
        exact ss_la_laid_34 self5 hself5 (a2) (a4) w3
set_option maxHeartbeats 4000000 in
set_option maxRecDepth 100000 in
theorem ss_la_laid_5_f {E : Nat × (Nat → Int32)}  : ∀ (n : Nat) (a2 : Int32) (a3 : Int32) (a4 : Int32) (w : sm_Mem), sm_Sim E (mi_la_laid) 5 [some (.ref 0), some (.ref 64), some (.int a2), some (.int a3), some (.int a4)] [] w (ff_la_laid_5_f  n a2 a3 a4 w)
  | 0, _, _, _, _ => fun _ _ h => by cases h
  | n + 1, a2, a3, a4, w => ss_la_laid_5_b  _ (ss_la_laid_5_f  n) a2 a3 a4 w
set_option maxHeartbeats 4000000 in
set_option maxRecDepth 100000 in
theorem ss_la_laid_5 {E : Nat × (Nat → Int32)}  (a2 : Int32) (a3 : Int32) (a4 : Int32) (w : sm_Mem) : sm_Sim E (mi_la_laid) 5 [some (.ref 0), some (.ref 64), some (.int a2), some (.int a3), some (.int a4)] [] w (ff_la_laid_5  a2 a3 a4 w) := ss_la_laid_5_f  sm_N a2 a3 a4 w
noncomputable def ff_la_laid  (a2 : Int32) (w : sm_Mem) : sm_R := ff_la_laid_5 (a2) ((1 : Int32)) ((0 : Int32)) w
set_option maxHeartbeats 4000000 in
set_option maxRecDepth 100000 in
theorem ss_la_laid_0 {E : Nat × (Nat → Int32)}  (a2 : Int32) (w : sm_Mem) : sm_Sim E (mi_la_laid) 0 [some (.ref 0), some (.ref 64), some (.int a2), none, none] [] w (ff_la_laid  a2 w) := by
  unfold ff_la_laid
  refine sm_iconst (1 : Int32) ii_la_laid_0 (by decide) ?_
  refine sm_istore_n [some (.ref 0), some (.ref 64), some (.int a2), some (.int (1 : Int32)), none] ii_la_laid_1 rfl rfl ?_
  refine sm_iconst (0 : Int32) ii_la_laid_2 (by decide) ?_
  refine sm_istore [some (.ref 0), some (.ref 64), some (.int a2), some (.int (1 : Int32)), some (.int (0 : Int32))] ii_la_laid_3 rfl rfl ?_
  exact ss_la_laid_5 (a2) ((1 : Int32)) ((0 : Int32)) w
set_option maxHeartbeats 4000000 in
set_option maxRecDepth 100000 in
theorem mc_la_laid {E : Nat × (Nat → Int32)} (a2 : Int32) (w : sm_Mem) : sm_MC E mi_la_laid [.ref 0, .ref 64, .int a2] w (ff_la_laid a2 w) := sm_MC_of E (by decide +kernel) rfl (Nat.le_of_ble_eq_true rfl) (ss_la_laid_0 a2 w)
abbrev mi_tr_hasWay (k : Nat) : sm_MI := (⟨"HerOrders$Trials", "hasWay", "(II)Z"⟩, prog_6_method_3_code, 5, (some .boolean), k)
set_option maxRecDepth 100000 in
theorem mf_tr_hasWay_z : sm_MF (mi_tr_hasWay 0) 2 := ⟨List.mem_of_getElem? (i := 582) (by decide +kernel), List.mem_of_getElem? (i := 75) (by decide +kernel), ⟨by decide, by decide⟩, by decide +kernel⟩
set_option maxRecDepth 100000 in
theorem mf_tr_hasWay (k : Nat) : sm_MF (mi_tr_hasWay k) 2 := mf_tr_hasWay_z
set_option maxRecDepth 100000 in
theorem mv_tr_hasWay_z : sm_MFV (mi_tr_hasWay 0) := ⟨List.mem_of_getElem? (i := 581) (by decide +kernel), List.mem_of_getElem? (i := 35) (by decide +kernel)⟩
set_option maxRecDepth 100000 in
theorem mv_tr_hasWay (k : Nat) : sm_MFV (mi_tr_hasWay k) := mv_tr_hasWay_z
set_option maxRecDepth 100000 in
theorem ii_tr_hasWay_0 : sm_D prog_6_method_3_code 0 1 1 (.iload_n 1) := ⟨by decide +kernel, rfl⟩
set_option maxRecDepth 100000 in
theorem ii_tr_hasWay_1 : sm_D prog_6_method_3_code 1 1 2 (.iload_n 2) := ⟨by decide +kernel, rfl⟩
set_option maxRecDepth 100000 in
theorem ii_tr_hasWay_2 : sm_D prog_6_method_3_code 2 3 5 (.if_icmp .lt 5) := ⟨by decide +kernel, rfl⟩
set_option maxRecDepth 100000 in
theorem ii_tr_hasWay_5 : sm_D prog_6_method_3_code 5 1 6 (.iconst 1) := ⟨by decide +kernel, rfl⟩
set_option maxRecDepth 100000 in
theorem ii_tr_hasWay_6 : sm_D prog_6_method_3_code 6 1 7 (.ireturn) := ⟨by decide +kernel, rfl⟩
set_option maxRecDepth 100000 in
theorem ii_tr_hasWay_7 : sm_D prog_6_method_3_code 7 1 8 (.iconst 0) := ⟨by decide +kernel, rfl⟩
set_option maxRecDepth 100000 in
theorem ii_tr_hasWay_8 : sm_D prog_6_method_3_code 8 1 9 (.istore_n 3) := ⟨by decide +kernel, rfl⟩
set_option maxRecDepth 100000 in
theorem ii_tr_hasWay_9 : sm_D prog_6_method_3_code 9 1 10 (.iload_n 3) := ⟨by decide +kernel, rfl⟩
set_option maxRecDepth 100000 in
theorem ii_tr_hasWay_10 : sm_D prog_6_method_3_code 10 1 11 (.aload_n 0) := ⟨by decide +kernel, rfl⟩
set_option maxRecDepth 100000 in
theorem ii_tr_hasWay_11 : sm_D prog_6_method_3_code 11 3 14 (.getfield 9) := ⟨by decide +kernel, rfl⟩
set_option maxRecDepth 100000 in
theorem ii_tr_hasWay_14 : sm_D prog_6_method_3_code 14 3 17 (.getfield 29) := ⟨by decide +kernel, rfl⟩
set_option maxRecDepth 100000 in
theorem ii_tr_hasWay_17 : sm_D prog_6_method_3_code 17 3 20 (.if_icmp .ge 67) := ⟨by decide +kernel, rfl⟩
set_option maxRecDepth 100000 in
theorem ii_tr_hasWay_20 : sm_D prog_6_method_3_code 20 1 21 (.aload_n 0) := ⟨by decide +kernel, rfl⟩
set_option maxRecDepth 100000 in
theorem ii_tr_hasWay_21 : sm_D prog_6_method_3_code 21 3 24 (.getfield 9) := ⟨by decide +kernel, rfl⟩
set_option maxRecDepth 100000 in
theorem ii_tr_hasWay_24 : sm_D prog_6_method_3_code 24 1 25 (.iload_n 3) := ⟨by decide +kernel, rfl⟩
set_option maxRecDepth 100000 in
theorem ii_tr_hasWay_25 : sm_D prog_6_method_3_code 25 1 26 (.aload_n 0) := ⟨by decide +kernel, rfl⟩
set_option maxRecDepth 100000 in
theorem ii_tr_hasWay_26 : sm_D prog_6_method_3_code 26 3 29 (.getfield 15) := ⟨by decide +kernel, rfl⟩
set_option maxRecDepth 100000 in
theorem ii_tr_hasWay_29 : sm_D prog_6_method_3_code 29 1 30 (.iload_n 1) := ⟨by decide +kernel, rfl⟩
set_option maxRecDepth 100000 in
theorem ii_tr_hasWay_30 : sm_D prog_6_method_3_code 30 1 31 (.iaload) := ⟨by decide +kernel, rfl⟩
set_option maxRecDepth 100000 in
theorem ii_tr_hasWay_31 : sm_D prog_6_method_3_code 31 3 34 (.invokevirtual 35) := ⟨by decide +kernel, rfl⟩
set_option maxRecDepth 100000 in
theorem ii_tr_hasWay_34 : sm_D prog_6_method_3_code 34 3 37 (.ifCond .ne 6) := ⟨by decide +kernel, rfl⟩
set_option maxRecDepth 100000 in
theorem ii_tr_hasWay_37 : sm_D prog_6_method_3_code 37 3 40 (.goto 41) := ⟨by decide +kernel, rfl⟩
set_option maxRecDepth 100000 in
theorem ii_tr_hasWay_40 : sm_D prog_6_method_3_code 40 1 41 (.aload_n 0) := ⟨by decide +kernel, rfl⟩
set_option maxRecDepth 100000 in
theorem ii_tr_hasWay_41 : sm_D prog_6_method_3_code 41 3 44 (.getfield 9) := ⟨by decide +kernel, rfl⟩
set_option maxRecDepth 100000 in
theorem ii_tr_hasWay_44 : sm_D prog_6_method_3_code 44 1 45 (.iload_n 3) := ⟨by decide +kernel, rfl⟩
set_option maxRecDepth 100000 in
theorem ii_tr_hasWay_45 : sm_D prog_6_method_3_code 45 1 46 (.aload_n 0) := ⟨by decide +kernel, rfl⟩
set_option maxRecDepth 100000 in
theorem ii_tr_hasWay_46 : sm_D prog_6_method_3_code 46 3 49 (.getfield 15) := ⟨by decide +kernel, rfl⟩
set_option maxRecDepth 100000 in
theorem ii_tr_hasWay_49 : sm_D prog_6_method_3_code 49 1 50 (.iload_n 1) := ⟨by decide +kernel, rfl⟩
set_option maxRecDepth 100000 in
theorem ii_tr_hasWay_50 : sm_D prog_6_method_3_code 50 1 51 (.iaload) := ⟨by decide +kernel, rfl⟩
set_option maxRecDepth 100000 in
theorem ii_tr_hasWay_51 : sm_D prog_6_method_3_code 51 3 54 (.invokevirtual 38) := ⟨by decide +kernel, rfl⟩
set_option maxRecDepth 100000 in
theorem ii_tr_hasWay_54 : sm_D prog_6_method_3_code 54 1 55 (.aload_n 0) := ⟨by decide +kernel, rfl⟩
set_option maxRecDepth 100000 in
theorem ii_tr_hasWay_55 : sm_D prog_6_method_3_code 55 1 56 (.iload_n 1) := ⟨by decide +kernel, rfl⟩
set_option maxRecDepth 100000 in
theorem ii_tr_hasWay_56 : sm_D prog_6_method_3_code 56 1 57 (.iconst 1) := ⟨by decide +kernel, rfl⟩
set_option maxRecDepth 100000 in
theorem ii_tr_hasWay_57 : sm_D prog_6_method_3_code 57 1 58 (.iadd) := ⟨by decide +kernel, rfl⟩
set_option maxRecDepth 100000 in
theorem ii_tr_hasWay_58 : sm_D prog_6_method_3_code 58 1 59 (.iload_n 2) := ⟨by decide +kernel, rfl⟩
set_option maxRecDepth 100000 in
theorem ii_tr_hasWay_59 : sm_D prog_6_method_3_code 59 3 62 (.invokevirtual 25) := ⟨by decide +kernel, rfl⟩
set_option maxRecDepth 100000 in
theorem ii_tr_hasWay_62 : sm_D prog_6_method_3_code 62 2 64 (.istore 4) := ⟨by decide +kernel, rfl⟩
set_option maxRecDepth 100000 in
theorem ii_tr_hasWay_64 : sm_D prog_6_method_3_code 64 1 65 (.aload_n 0) := ⟨by decide +kernel, rfl⟩
set_option maxRecDepth 100000 in
theorem ii_tr_hasWay_65 : sm_D prog_6_method_3_code 65 3 68 (.getfield 9) := ⟨by decide +kernel, rfl⟩
set_option maxRecDepth 100000 in
theorem ii_tr_hasWay_68 : sm_D prog_6_method_3_code 68 3 71 (.invokevirtual 42) := ⟨by decide +kernel, rfl⟩
set_option maxRecDepth 100000 in
theorem ii_tr_hasWay_71 : sm_D prog_6_method_3_code 71 2 73 (.iload 4) := ⟨by decide +kernel, rfl⟩
set_option maxRecDepth 100000 in
theorem ii_tr_hasWay_73 : sm_D prog_6_method_3_code 73 3 76 (.ifCond .eq 5) := ⟨by decide +kernel, rfl⟩
set_option maxRecDepth 100000 in
theorem ii_tr_hasWay_76 : sm_D prog_6_method_3_code 76 1 77 (.iconst 1) := ⟨by decide +kernel, rfl⟩
set_option maxRecDepth 100000 in
theorem ii_tr_hasWay_77 : sm_D prog_6_method_3_code 77 1 78 (.ireturn) := ⟨by decide +kernel, rfl⟩
set_option maxRecDepth 100000 in
theorem ii_tr_hasWay_78 : sm_D prog_6_method_3_code 78 3 81 (.iinc 3 1) := ⟨by decide +kernel, rfl⟩
set_option maxRecDepth 100000 in
theorem ii_tr_hasWay_81 : sm_D prog_6_method_3_code 81 3 84 (.goto (-72)) := ⟨by decide +kernel, rfl⟩
set_option maxRecDepth 100000 in
theorem ii_tr_hasWay_84 : sm_D prog_6_method_3_code 84 1 85 (.iconst 0) := ⟨by decide +kernel, rfl⟩
set_option maxRecDepth 100000 in
theorem ii_tr_hasWay_85 : sm_D prog_6_method_3_code 85 1 86 (.ireturn) := ⟨by decide +kernel, rfl⟩
noncomputable def ff_tr_hasWay_9_b (rc : Int32 → Int32 → sm_Mem → sm_R)  (self9 : Int32 → Int32 → Int32 → sm_Mem → sm_R) (a1 : Int32) (a2 : Int32) (a3 : Int32) (w : sm_Mem) : sm_R := (if (w.1 36 0) ≤ a3 then (some (.int (0 : Int32), w)) else (Option.bind (sm_rd w 57 4 a1) fun x1 => (sm_cI (ff_hs_can (a3) (x1) w) fun x2 w3 => (if x2 = (0 : Int32) then self9 (a1) (a2) ((a3 + (1 : Int32))) w3 else (Option.bind (sm_rd w3 57 4 a1) fun x4 => (sm_cV (ff_hs_push (a3) (x4) w3) fun w6 => (sm_cI (rc ((a1 + (1 : Int32))) (a2) w6) fun x7 w8 => (sm_cV (ff_hs_pop  w8) fun w10 => (if x7 = (0 : Int32) then self9 (a1) (a2) ((a3 + (1 : Int32))) w10 else (some (.int (1 : Int32), w10)))))))))))
noncomputable def ff_tr_hasWay_9_f (rc : Int32 → Int32 → sm_Mem → sm_R)  : Nat → Int32 → Int32 → Int32 → sm_Mem → sm_R
  | 0, _, _, _, _ => none
  | n + 1, a1, a2, a3, w => ff_tr_hasWay_9_b rc  (ff_tr_hasWay_9_f rc  n) a1 a2 a3 w
noncomputable def ff_tr_hasWay_9 (rc : Int32 → Int32 → sm_Mem → sm_R)  (a1 : Int32) (a2 : Int32) (a3 : Int32) (w : sm_Mem) : sm_R := ff_tr_hasWay_9_f rc  sm_N a1 a2 a3 w
set_option maxHeartbeats 4000000 in
set_option maxRecDepth 100000 in
theorem ss_tr_hasWay_9_b {E : Nat × (Nat → Int32)} {dn : Nat} (rc : Int32 → Int32 → sm_Mem → sm_R) (hrc : ∀ (a1 : Int32) (a2 : Int32) (w : sm_Mem), sm_MC E (mi_tr_hasWay (3 + dn)) [.ref 56, .int a1, .int a2] w (rc a1 a2 w))  (self9 : Int32 → Int32 → Int32 → sm_Mem → sm_R) (hself9 : ∀ (a1 : Int32) (a2 : Int32) (a3 : Int32) (w : sm_Mem), sm_Sim E (mi_tr_hasWay (3 + dn + 1)) 9 [some (.ref 56), some (.int a1), some (.int a2), some (.int a3), none] [] w (self9 a1 a2 a3 w)) (a1 : Int32) (a2 : Int32) (a3 : Int32) (w : sm_Mem) : sm_Sim E (mi_tr_hasWay (3 + dn + 1)) 9 [some (.ref 56), some (.int a1), some (.int a2), some (.int a3), none] [] w (ff_tr_hasWay_9_b rc  self9 a1 a2 a3 w) := by
  unfold ff_tr_hasWay_9_b
  refine sm_iload_n ii_tr_hasWay_9 rfl ?_
  refine sm_aload_n ii_tr_hasWay_10 rfl ?_
  refine sm_getR 36 ii_tr_hasWay_11 fl_tr_9 (k := 56) rfl ?_
  refine sm_getI ii_tr_hasWay_14 fl_tr_29 (k := 36) rfl ?_
  refine sm_icmp_ge 84 ii_tr_hasWay_17 (by decide) ?_ ?_
  · refine sm_iconst (0 : Int32) ii_tr_hasWay_84 (by decide) ?_
    exact sm_zret1 ii_tr_hasWay_85 rfl (by decide)
  · refine sm_aload_n ii_tr_hasWay_20 rfl ?_
    refine sm_getR 36 ii_tr_hasWay_21 fl_tr_9 (k := 56) rfl ?_
    refine sm_iload_n ii_tr_hasWay_24 rfl ?_
    refine sm_aload_n ii_tr_hasWay_25 rfl ?_
    refine sm_getR 57 ii_tr_hasWay_26 fl_tr_15 (k := 56) rfl ?_
    refine sm_iload_n ii_tr_hasWay_29 rfl ?_
    refine sm_iald ii_tr_hasWay_30 (k := 57) rfl (fun x1 => ?_)
    refine sm_cvI [.int a3, .int x1] [] rfl ii_tr_hasWay_31 ml_tr_35 (mf_hs_can) (mv_hs_can) (sm_kle rfl) rfl 1 rfl rfl rfl rfl (mc_hs_can (a3) (x1) w) (fun x2 w3 => ?_)
    refine sm_if_ne 40 ii_tr_hasWay_34 (by decide) ?_ ?_
    · refine sm_goto 78 ii_tr_hasWay_37 (by decide) ?_
      refine sm_iinc (a3 + (1 : Int32)) [some (.ref 56), some (.int a1), some (.int a2), some (.int (a3 + (1 : Int32))), none] ii_tr_hasWay_78 rfl rfl rfl rfl ?_
      refine sm_goto 9 ii_tr_hasWay_81 (by decide) ?_
      exact hself9 (a1) (a2) ((a3 + (1 : Int32))) w3
    · refine sm_aload_n ii_tr_hasWay_40 rfl ?_
      refine sm_getR 36 ii_tr_hasWay_41 fl_tr_9 (k := 56) rfl ?_
      refine sm_iload_n ii_tr_hasWay_44 rfl ?_
      refine sm_aload_n ii_tr_hasWay_45 rfl ?_
      refine sm_getR 57 ii_tr_hasWay_46 fl_tr_15 (k := 56) rfl ?_
      refine sm_iload_n ii_tr_hasWay_49 rfl ?_
      refine sm_iald ii_tr_hasWay_50 (k := 57) rfl (fun x4 => ?_)
      refine sm_cvV [.int a3, .int x4] [] rfl ii_tr_hasWay_51 ml_tr_38 (mf_hs_push) (mv_hs_push) (sm_kle rfl) rfl 1 rfl rfl rfl rfl (mc_hs_push (a3) (x4) w3) (fun w6 => ?_)
      refine sm_aload_n ii_tr_hasWay_54 rfl ?_
      refine sm_iload_n ii_tr_hasWay_55 rfl ?_
      refine sm_iconst (1 : Int32) ii_tr_hasWay_56 (by decide) ?_
      refine sm_iadd ii_tr_hasWay_57 ?_
      refine sm_iload_n ii_tr_hasWay_58 rfl ?_
      refine sm_cvI [.int (a1 + (1 : Int32)), .int a2] [] rfl ii_tr_hasWay_59 ml_tr_25 (mf_tr_hasWay (3 + dn)) (mv_tr_hasWay (3 + dn)) (Nat.le_refl _) rfl 4 rfl rfl rfl rfl (hrc ((a1 + (1 : Int32))) (a2) w6) (fun x7 w8 => ?_)
      refine sm_istore [some (.ref 56), some (.int a1), some (.int a2), some (.int a3), some (.int x7)] ii_tr_hasWay_62 rfl rfl ?_
      refine sm_aload_n ii_tr_hasWay_64 rfl ?_
      refine sm_getR 36 ii_tr_hasWay_65 fl_tr_9 (k := 56) rfl ?_
      refine sm_cvV [] [] rfl ii_tr_hasWay_68 ml_tr_42 (mf_hs_pop) (mv_hs_pop) (sm_kle rfl) rfl 1 rfl rfl rfl rfl (mc_hs_pop  w8) (fun w10 => ?_)
      refine sm_iload ii_tr_hasWay_71 rfl ?_
      refine sm_if_eq 78 ii_tr_hasWay_73 (by decide) ?_ ?_
      · refine sm_iinc (a3 + (1 : Int32)) [some (.ref 56), some (.int a1), some (.int a2), some (.int (a3 + (1 : Int32))), some (.int x7)] ii_tr_hasWay_78 rfl rfl rfl rfl ?_
        refine sm_goto 9 ii_tr_hasWay_81 (by decide) ?_
        refine sm_msk [true, true, true, true, false] [some (.ref 56), some (.int a1), some (.int a2), some (.int (a3 + (1 : Int32))), none] rfl ?_
        exact hself9 (a1) (a2) ((a3 + (1 : Int32))) w10
      · refine sm_iconst (1 : Int32) ii_tr_hasWay_76 (by decide) ?_
        exact sm_zret1 ii_tr_hasWay_77 rfl (by decide)
set_option maxHeartbeats 4000000 in
set_option maxRecDepth 100000 in
theorem ss_tr_hasWay_9_f {E : Nat × (Nat → Int32)} {dn : Nat} (rc : Int32 → Int32 → sm_Mem → sm_R) (hrc : ∀ (a1 : Int32) (a2 : Int32) (w : sm_Mem), sm_MC E (mi_tr_hasWay (3 + dn)) [.ref 56, .int a1, .int a2] w (rc a1 a2 w))  : ∀ (n : Nat) (a1 : Int32) (a2 : Int32) (a3 : Int32) (w : sm_Mem), sm_Sim E (mi_tr_hasWay (3 + dn + 1)) 9 [some (.ref 56), some (.int a1), some (.int a2), some (.int a3), none] [] w (ff_tr_hasWay_9_f rc  n a1 a2 a3 w)
  | 0, _, _, _, _ => fun _ _ h => by cases h
  | n + 1, a1, a2, a3, w => ss_tr_hasWay_9_b rc hrc  _ (ss_tr_hasWay_9_f rc hrc  n) a1 a2 a3 w
set_option maxHeartbeats 4000000 in
set_option maxRecDepth 100000 in
theorem ss_tr_hasWay_9 {E : Nat × (Nat → Int32)} {dn : Nat} (rc : Int32 → Int32 → sm_Mem → sm_R) (hrc : ∀ (a1 : Int32) (a2 : Int32) (w : sm_Mem), sm_MC E (mi_tr_hasWay (3 + dn)) [.ref 56, .int a1, .int a2] w (rc a1 a2 w))  (a1 : Int32) (a2 : Int32) (a3 : Int32) (w : sm_Mem) : sm_Sim E (mi_tr_hasWay (3 + dn + 1)) 9 [some (.ref 56), some (.int a1), some (.int a2), some (.int a3), none] [] w (ff_tr_hasWay_9 rc  a1 a2 a3 w) := ss_tr_hasWay_9_f rc hrc  sm_N a1 a2 a3 w
noncomputable def ff_tr_hasWay_0 (rc : Int32 → Int32 → sm_Mem → sm_R)  (a1 : Int32) (a2 : Int32) (w : sm_Mem) : sm_R := (if a1 < a2 then ff_tr_hasWay_9 rc (a1) (a2) ((0 : Int32)) w else (some (.int (1 : Int32), w)))
set_option maxHeartbeats 4000000 in
set_option maxRecDepth 100000 in
theorem ss_tr_hasWay_0 {E : Nat × (Nat → Int32)} {dn : Nat} (rc : Int32 → Int32 → sm_Mem → sm_R) (hrc : ∀ (a1 : Int32) (a2 : Int32) (w : sm_Mem), sm_MC E (mi_tr_hasWay (3 + dn)) [.ref 56, .int a1, .int a2] w (rc a1 a2 w))  (a1 : Int32) (a2 : Int32) (w : sm_Mem) : sm_Sim E (mi_tr_hasWay (3 + dn + 1)) 0 [some (.ref 56), some (.int a1), some (.int a2), none, none] [] w (ff_tr_hasWay_0 rc  a1 a2 w) := by
  unfold ff_tr_hasWay_0
  refine sm_iload_n ii_tr_hasWay_0 rfl ?_
  refine sm_iload_n ii_tr_hasWay_1 rfl ?_
  refine sm_icmp_lt 7 ii_tr_hasWay_2 (by decide) ?_ ?_
  · refine sm_iconst (0 : Int32) ii_tr_hasWay_7 (by decide) ?_
    refine sm_istore_n [some (.ref 56), some (.int a1), some (.int a2), some (.int (0 : Int32)), none] ii_tr_hasWay_8 rfl rfl ?_
    exact ss_tr_hasWay_9 rc hrc (a1) (a2) ((0 : Int32)) w
  · refine sm_iconst (1 : Int32) ii_tr_hasWay_5 (by decide) ?_
    exact sm_zret1 ii_tr_hasWay_6 rfl (by decide)
noncomputable def ff_tr_hasWay : Nat → Int32 → Int32 → sm_Mem → sm_R
  | 0, _, _, _ => none
  | n + 1, a1, a2, w => ff_tr_hasWay_0 (ff_tr_hasWay n) a1 a2 w
set_option maxHeartbeats 4000000 in
set_option maxRecDepth 100000 in
theorem mc_tr_hasWay {E : Nat × (Nat → Int32)} : ∀ (n : Nat) (a1 : Int32) (a2 : Int32) (w : sm_Mem), sm_MC E (mi_tr_hasWay (3 + n)) [.ref 56, .int a1, .int a2] w (ff_tr_hasWay n a1 a2 w)
  | 0, _, _, _ => fun _ _ h => by cases h
  | n + 1, a1, a2, w => sm_MC_of E (show plainName "HerOrders$Trials" = true by decide +kernel) rfl (Nat.le_of_ble_eq_true rfl) (ss_tr_hasWay_0 (dn := n) _ (mc_tr_hasWay n) a1 a2 w)
abbrev mi_tr_firstDumb : sm_MI := (⟨"HerOrders$Trials", "firstDumb", "(I)I"⟩, prog_6_method_2_code, 6, (some .int), 12)
set_option maxRecDepth 100000 in
theorem mf_tr_firstDumb : sm_MF mi_tr_firstDumb 1 := ⟨List.mem_of_getElem? (i := 578) (by decide +kernel), List.mem_of_getElem? (i := 75) (by decide +kernel), ⟨by decide, by decide⟩, by decide +kernel⟩
set_option maxRecDepth 100000 in
theorem mv_tr_firstDumb : sm_MFV mi_tr_firstDumb := ⟨List.mem_of_getElem? (i := 577) (by decide +kernel), List.mem_of_getElem? (i := 34) (by decide +kernel)⟩
set_option maxRecDepth 100000 in
theorem ii_tr_firstDumb_0 : sm_D prog_6_method_2_code 0 1 1 (.iconst 1) := ⟨by decide +kernel, rfl⟩
set_option maxRecDepth 100000 in
theorem ii_tr_firstDumb_1 : sm_D prog_6_method_2_code 1 1 2 (.istore_n 2) := ⟨by decide +kernel, rfl⟩
set_option maxRecDepth 100000 in
theorem ii_tr_firstDumb_2 : sm_D prog_6_method_2_code 2 1 3 (.iconst 0) := ⟨by decide +kernel, rfl⟩
set_option maxRecDepth 100000 in
theorem ii_tr_firstDumb_3 : sm_D prog_6_method_2_code 3 1 4 (.istore_n 3) := ⟨by decide +kernel, rfl⟩
set_option maxRecDepth 100000 in
theorem ii_tr_firstDumb_4 : sm_D prog_6_method_2_code 4 1 5 (.iload_n 3) := ⟨by decide +kernel, rfl⟩
set_option maxRecDepth 100000 in
theorem ii_tr_firstDumb_5 : sm_D prog_6_method_2_code 5 1 6 (.iload_n 1) := ⟨by decide +kernel, rfl⟩
set_option maxRecDepth 100000 in
theorem ii_tr_firstDumb_6 : sm_D prog_6_method_2_code 6 3 9 (.if_icmp .ge 14) := ⟨by decide +kernel, rfl⟩
set_option maxRecDepth 100000 in
theorem ii_tr_firstDumb_9 : sm_D prog_6_method_2_code 9 1 10 (.iload_n 2) := ⟨by decide +kernel, rfl⟩
set_option maxRecDepth 100000 in
theorem ii_tr_firstDumb_10 : sm_D prog_6_method_2_code 10 2 12 (.bipush 6) := ⟨by decide +kernel, rfl⟩
set_option maxRecDepth 100000 in
theorem ii_tr_firstDumb_12 : sm_D prog_6_method_2_code 12 1 13 (.imul) := ⟨by decide +kernel, rfl⟩
set_option maxRecDepth 100000 in
theorem ii_tr_firstDumb_13 : sm_D prog_6_method_2_code 13 1 14 (.istore_n 2) := ⟨by decide +kernel, rfl⟩
set_option maxRecDepth 100000 in
theorem ii_tr_firstDumb_14 : sm_D prog_6_method_2_code 14 3 17 (.iinc 3 1) := ⟨by decide +kernel, rfl⟩
set_option maxRecDepth 100000 in
theorem ii_tr_firstDumb_17 : sm_D prog_6_method_2_code 17 3 20 (.goto (-13)) := ⟨by decide +kernel, rfl⟩
set_option maxRecDepth 100000 in
theorem ii_tr_firstDumb_20 : sm_D prog_6_method_2_code 20 1 21 (.iconst 0) := ⟨by decide +kernel, rfl⟩
set_option maxRecDepth 100000 in
theorem ii_tr_firstDumb_21 : sm_D prog_6_method_2_code 21 1 22 (.istore_n 3) := ⟨by decide +kernel, rfl⟩
set_option maxRecDepth 100000 in
theorem ii_tr_firstDumb_22 : sm_D prog_6_method_2_code 22 1 23 (.iload_n 3) := ⟨by decide +kernel, rfl⟩
set_option maxRecDepth 100000 in
theorem ii_tr_firstDumb_23 : sm_D prog_6_method_2_code 23 1 24 (.iload_n 2) := ⟨by decide +kernel, rfl⟩
set_option maxRecDepth 100000 in
theorem ii_tr_firstDumb_24 : sm_D prog_6_method_2_code 24 3 27 (.if_icmp .ge 58) := ⟨by decide +kernel, rfl⟩
set_option maxRecDepth 100000 in
theorem ii_tr_firstDumb_27 : sm_D prog_6_method_2_code 27 1 28 (.iload_n 3) := ⟨by decide +kernel, rfl⟩
set_option maxRecDepth 100000 in
theorem ii_tr_firstDumb_28 : sm_D prog_6_method_2_code 28 2 30 (.istore 4) := ⟨by decide +kernel, rfl⟩
set_option maxRecDepth 100000 in
theorem ii_tr_firstDumb_30 : sm_D prog_6_method_2_code 30 1 31 (.iload_n 1) := ⟨by decide +kernel, rfl⟩
set_option maxRecDepth 100000 in
theorem ii_tr_firstDumb_31 : sm_D prog_6_method_2_code 31 1 32 (.iconst 1) := ⟨by decide +kernel, rfl⟩
set_option maxRecDepth 100000 in
theorem ii_tr_firstDumb_32 : sm_D prog_6_method_2_code 32 1 33 (.isub) := ⟨by decide +kernel, rfl⟩
set_option maxRecDepth 100000 in
theorem ii_tr_firstDumb_33 : sm_D prog_6_method_2_code 33 2 35 (.istore 5) := ⟨by decide +kernel, rfl⟩
set_option maxRecDepth 100000 in
theorem ii_tr_firstDumb_35 : sm_D prog_6_method_2_code 35 2 37 (.iload 5) := ⟨by decide +kernel, rfl⟩
set_option maxRecDepth 100000 in
theorem ii_tr_firstDumb_37 : sm_D prog_6_method_2_code 37 3 40 (.ifCond .lt 28) := ⟨by decide +kernel, rfl⟩
set_option maxRecDepth 100000 in
theorem ii_tr_firstDumb_40 : sm_D prog_6_method_2_code 40 1 41 (.aload_n 0) := ⟨by decide +kernel, rfl⟩
set_option maxRecDepth 100000 in
theorem ii_tr_firstDumb_41 : sm_D prog_6_method_2_code 41 3 44 (.getfield 15) := ⟨by decide +kernel, rfl⟩
set_option maxRecDepth 100000 in
theorem ii_tr_firstDumb_44 : sm_D prog_6_method_2_code 44 2 46 (.iload 5) := ⟨by decide +kernel, rfl⟩
set_option maxRecDepth 100000 in
theorem ii_tr_firstDumb_46 : sm_D prog_6_method_2_code 46 2 48 (.iload 4) := ⟨by decide +kernel, rfl⟩
set_option maxRecDepth 100000 in
theorem ii_tr_firstDumb_48 : sm_D prog_6_method_2_code 48 2 50 (.bipush 6) := ⟨by decide +kernel, rfl⟩
set_option maxRecDepth 100000 in
theorem ii_tr_firstDumb_50 : sm_D prog_6_method_2_code 50 1 51 (.irem) := ⟨by decide +kernel, rfl⟩
set_option maxRecDepth 100000 in
theorem ii_tr_firstDumb_51 : sm_D prog_6_method_2_code 51 1 52 (.iastore) := ⟨by decide +kernel, rfl⟩
set_option maxRecDepth 100000 in
theorem ii_tr_firstDumb_52 : sm_D prog_6_method_2_code 52 2 54 (.iload 4) := ⟨by decide +kernel, rfl⟩
set_option maxRecDepth 100000 in
theorem ii_tr_firstDumb_54 : sm_D prog_6_method_2_code 54 2 56 (.bipush 6) := ⟨by decide +kernel, rfl⟩
set_option maxRecDepth 100000 in
theorem ii_tr_firstDumb_56 : sm_D prog_6_method_2_code 56 1 57 (.idiv) := ⟨by decide +kernel, rfl⟩
set_option maxRecDepth 100000 in
theorem ii_tr_firstDumb_57 : sm_D prog_6_method_2_code 57 2 59 (.istore 4) := ⟨by decide +kernel, rfl⟩
set_option maxRecDepth 100000 in
theorem ii_tr_firstDumb_59 : sm_D prog_6_method_2_code 59 3 62 (.iinc 5 (-1)) := ⟨by decide +kernel, rfl⟩
set_option maxRecDepth 100000 in
theorem ii_tr_firstDumb_62 : sm_D prog_6_method_2_code 62 3 65 (.goto (-27)) := ⟨by decide +kernel, rfl⟩
set_option maxRecDepth 100000 in
theorem ii_tr_firstDumb_65 : sm_D prog_6_method_2_code 65 1 66 (.aload_n 0) := ⟨by decide +kernel, rfl⟩
set_option maxRecDepth 100000 in
theorem ii_tr_firstDumb_66 : sm_D prog_6_method_2_code 66 1 67 (.iconst 0) := ⟨by decide +kernel, rfl⟩
set_option maxRecDepth 100000 in
theorem ii_tr_firstDumb_67 : sm_D prog_6_method_2_code 67 1 68 (.iload_n 1) := ⟨by decide +kernel, rfl⟩
set_option maxRecDepth 100000 in
theorem ii_tr_firstDumb_68 : sm_D prog_6_method_2_code 68 3 71 (.invokevirtual 25) := ⟨by decide +kernel, rfl⟩
set_option maxRecDepth 100000 in
theorem ii_tr_firstDumb_71 : sm_D prog_6_method_2_code 71 3 74 (.ifCond .ne 5) := ⟨by decide +kernel, rfl⟩
set_option maxRecDepth 100000 in
theorem ii_tr_firstDumb_74 : sm_D prog_6_method_2_code 74 1 75 (.iload_n 3) := ⟨by decide +kernel, rfl⟩
set_option maxRecDepth 100000 in
theorem ii_tr_firstDumb_75 : sm_D prog_6_method_2_code 75 1 76 (.ireturn) := ⟨by decide +kernel, rfl⟩
set_option maxRecDepth 100000 in
theorem ii_tr_firstDumb_76 : sm_D prog_6_method_2_code 76 3 79 (.iinc 3 1) := ⟨by decide +kernel, rfl⟩
set_option maxRecDepth 100000 in
theorem ii_tr_firstDumb_79 : sm_D prog_6_method_2_code 79 3 82 (.goto (-57)) := ⟨by decide +kernel, rfl⟩
set_option maxRecDepth 100000 in
theorem ii_tr_firstDumb_82 : sm_D prog_6_method_2_code 82 2 84 (.bipush (-9)) := ⟨by decide +kernel, rfl⟩
set_option maxRecDepth 100000 in
theorem ii_tr_firstDumb_84 : sm_D prog_6_method_2_code 84 1 85 (.ireturn) := ⟨by decide +kernel, rfl⟩
noncomputable def ff_tr_firstDumb_35_b (self22 : Int32 → Int32 → Int32 → sm_Mem → sm_R) (self35 : Int32 → Int32 → Int32 → Int32 → Int32 → sm_Mem → sm_R) (a1 : Int32) (a2 : Int32) (a3 : Int32) (a4 : Int32) (a5 : Int32) (w : sm_Mem) : sm_R := (if a5 < (0 : Int32) then (sm_cI (ff_tr_hasWay 8 ((0 : Int32)) (a1) w) fun x1 w2 => (if x1 = (0 : Int32) then (some (.int a3, w2)) else self22 (a1) (a2) ((a3 + (1 : Int32))) w2)) else (if (6 : Int32) = (0 : Int32) then none else (Option.bind (sm_wr w 57 4 a5 (a4 - a4 / (6 : Int32) * (6 : Int32))) fun w4 => (if (6 : Int32) = (0 : Int32) then none else self35 (a1) (a2) (a3) ((a4 / (6 : Int32))) ((a5 + (-1 : Int32))) w4))))
noncomputable def ff_tr_firstDumb_35_f (self22 : Int32 → Int32 → Int32 → sm_Mem → sm_R) : Nat → Int32 → Int32 → Int32 → Int32 → Int32 → sm_Mem → sm_R
  | 0, _, _, _, _, _, _ => none
  | n + 1, a1, a2, a3, a4, a5, w => ff_tr_firstDumb_35_b self22 (ff_tr_firstDumb_35_f self22 n) a1 a2 a3 a4 a5 w
noncomputable def ff_tr_firstDumb_35 (self22 : Int32 → Int32 → Int32 → sm_Mem → sm_R) (a1 : Int32) (a2 : Int32) (a3 : Int32) (a4 : Int32) (a5 : Int32) (w : sm_Mem) : sm_R := ff_tr_firstDumb_35_f self22 sm_N a1 a2 a3 a4 a5 w
set_option maxHeartbeats 4000000 in
set_option maxRecDepth 100000 in
theorem ss_tr_firstDumb_35_b {E : Nat × (Nat → Int32)} (self22 : Int32 → Int32 → Int32 → sm_Mem → sm_R) (hself22 : ∀ (a1 : Int32) (a2 : Int32) (a3 : Int32) (w : sm_Mem), sm_Sim E (mi_tr_firstDumb) 22 [some (.ref 56), some (.int a1), some (.int a2), some (.int a3), none, none] [] w (self22 a1 a2 a3 w)) (self35 : Int32 → Int32 → Int32 → Int32 → Int32 → sm_Mem → sm_R) (hself35 : ∀ (a1 : Int32) (a2 : Int32) (a3 : Int32) (a4 : Int32) (a5 : Int32) (w : sm_Mem), sm_Sim E (mi_tr_firstDumb) 35 [some (.ref 56), some (.int a1), some (.int a2), some (.int a3), some (.int a4), some (.int a5)] [] w (self35 a1 a2 a3 a4 a5 w)) (a1 : Int32) (a2 : Int32) (a3 : Int32) (a4 : Int32) (a5 : Int32) (w : sm_Mem) : sm_Sim E (mi_tr_firstDumb) 35 [some (.ref 56), some (.int a1), some (.int a2), some (.int a3), some (.int a4), some (.int a5)] [] w (ff_tr_firstDumb_35_b self22 self35 a1 a2 a3 a4 a5 w) := by
  unfold ff_tr_firstDumb_35_b
  refine sm_iload ii_tr_firstDumb_35 rfl ?_
  refine sm_if_lt 65 ii_tr_firstDumb_37 (by decide) ?_ ?_
  · refine sm_aload_n ii_tr_firstDumb_65 rfl ?_
    refine sm_iconst (0 : Int32) ii_tr_firstDumb_66 (by decide) ?_
    refine sm_iload_n ii_tr_firstDumb_67 rfl ?_
    refine sm_cvI [.int (0 : Int32), .int a1] [] rfl ii_tr_firstDumb_68 ml_tr_25 (mf_tr_hasWay 11) (mv_tr_hasWay 11) (Nat.le_of_ble_eq_true rfl) rfl 4 rfl rfl rfl rfl (mc_tr_hasWay 8 ((0 : Int32)) (a1) w) (fun x1 w2 => ?_)
    refine sm_if_ne 76 ii_tr_firstDumb_71 (by decide) ?_ ?_
    · refine sm_iload_n ii_tr_firstDumb_74 rfl ?_
      exact sm_iret ii_tr_firstDumb_75 rfl
    · refine sm_iinc (a3 + (1 : Int32)) [some (.ref 56), some (.int a1), some (.int a2), some (.int (a3 + (1 : Int32))), some (.int a4), some (.int a5)] ii_tr_firstDumb_76 rfl rfl rfl rfl ?_
      refine sm_goto 22 ii_tr_firstDumb_79 (by decide) ?_
      refine sm_msk [true, true, true, true, false, false] [some (.ref 56), some (.int a1), some (.int a2), some (.int (a3 + (1 : Int32))), none, none] rfl ?_
      exact hself22 (a1) (a2) ((a3 + (1 : Int32))) w2
  · refine sm_aload_n ii_tr_firstDumb_40 rfl ?_
    refine sm_getR 57 ii_tr_firstDumb_41 fl_tr_15 (k := 56) rfl ?_
    refine sm_iload ii_tr_firstDumb_44 rfl ?_
    refine sm_iload ii_tr_firstDumb_46 rfl ?_
    refine sm_bipush (6 : Int32) ii_tr_firstDumb_48 (by decide) ?_
    refine sm_irem ii_tr_firstDumb_50 ?_
    refine sm_iast ii_tr_firstDumb_51 (k := 57) rfl (fun w4 => ?_)
    refine sm_iload ii_tr_firstDumb_52 rfl ?_
    refine sm_bipush (6 : Int32) ii_tr_firstDumb_54 (by decide) ?_
    refine sm_idiv ii_tr_firstDumb_56 ?_
    refine sm_istore [some (.ref 56), some (.int a1), some (.int a2), some (.int a3), some (.int (a4 / (6 : Int32))), some (.int a5)] ii_tr_firstDumb_57 rfl rfl ?_
    refine sm_iinc (a5 + (-1 : Int32)) [some (.ref 56), some (.int a1), some (.int a2), some (.int a3), some (.int (a4 / (6 : Int32))), some (.int (a5 + (-1 : Int32)))] ii_tr_firstDumb_59 rfl rfl rfl rfl ?_
    refine sm_goto 35 ii_tr_firstDumb_62 (by decide) ?_
    exact hself35 (a1) (a2) (a3) ((a4 / (6 : Int32))) ((a5 + (-1 : Int32))) w4
set_option maxHeartbeats 4000000 in
set_option maxRecDepth 100000 in
theorem ss_tr_firstDumb_35_f {E : Nat × (Nat → Int32)} (self22 : Int32 → Int32 → Int32 → sm_Mem → sm_R) (hself22 : ∀ (a1 : Int32) (a2 : Int32) (a3 : Int32) (w : sm_Mem), sm_Sim E (mi_tr_firstDumb) 22 [some (.ref 56), some (.int a1), some (.int a2), some (.int a3), none, none] [] w (self22 a1 a2 a3 w)) : ∀ (n : Nat) (a1 : Int32) (a2 : Int32) (a3 : Int32) (a4 : Int32) (a5 : Int32) (w : sm_Mem), sm_Sim E (mi_tr_firstDumb) 35 [some (.ref 56), some (.int a1), some (.int a2), some (.int a3), some (.int a4), some (.int a5)] [] w (ff_tr_firstDumb_35_f self22 n a1 a2 a3 a4 a5 w)
  | 0, _, _, _, _, _, _ => fun _ _ h => by cases h
  | n + 1, a1, a2, a3, a4, a5, w => ss_tr_firstDumb_35_b self22 hself22 _ (ss_tr_firstDumb_35_f self22 hself22 n) a1 a2 a3 a4 a5 w
set_option maxHeartbeats 4000000 in
set_option maxRecDepth 100000 in
theorem ss_tr_firstDumb_35 {E : Nat × (Nat → Int32)} (self22 : Int32 → Int32 → Int32 → sm_Mem → sm_R) (hself22 : ∀ (a1 : Int32) (a2 : Int32) (a3 : Int32) (w : sm_Mem), sm_Sim E (mi_tr_firstDumb) 22 [some (.ref 56), some (.int a1), some (.int a2), some (.int a3), none, none] [] w (self22 a1 a2 a3 w)) (a1 : Int32) (a2 : Int32) (a3 : Int32) (a4 : Int32) (a5 : Int32) (w : sm_Mem) : sm_Sim E (mi_tr_firstDumb) 35 [some (.ref 56), some (.int a1), some (.int a2), some (.int a3), some (.int a4), some (.int a5)] [] w (ff_tr_firstDumb_35 self22 a1 a2 a3 a4 a5 w) := ss_tr_firstDumb_35_f self22 hself22 sm_N a1 a2 a3 a4 a5 w
noncomputable def ff_tr_firstDumb_22_b  (self22 : Int32 → Int32 → Int32 → sm_Mem → sm_R) (a1 : Int32) (a2 : Int32) (a3 : Int32) (w : sm_Mem) : sm_R := (if a2 ≤ a3 then (some (.int (-9 : Int32), w)) else ff_tr_firstDumb_35 self22 (a1) (a2) (a3) (a3) ((a1 - (1 : Int32))) w)
noncomputable def ff_tr_firstDumb_22_f  : Nat → Int32 → Int32 → Int32 → sm_Mem → sm_R
  | 0, _, _, _, _ => none
  | n + 1, a1, a2, a3, w => ff_tr_firstDumb_22_b  (ff_tr_firstDumb_22_f  n) a1 a2 a3 w
noncomputable def ff_tr_firstDumb_22  (a1 : Int32) (a2 : Int32) (a3 : Int32) (w : sm_Mem) : sm_R := ff_tr_firstDumb_22_f  sm_N a1 a2 a3 w
set_option maxHeartbeats 4000000 in
set_option maxRecDepth 100000 in
theorem ss_tr_firstDumb_22_b {E : Nat × (Nat → Int32)}  (self22 : Int32 → Int32 → Int32 → sm_Mem → sm_R) (hself22 : ∀ (a1 : Int32) (a2 : Int32) (a3 : Int32) (w : sm_Mem), sm_Sim E (mi_tr_firstDumb) 22 [some (.ref 56), some (.int a1), some (.int a2), some (.int a3), none, none] [] w (self22 a1 a2 a3 w)) (a1 : Int32) (a2 : Int32) (a3 : Int32) (w : sm_Mem) : sm_Sim E (mi_tr_firstDumb) 22 [some (.ref 56), some (.int a1), some (.int a2), some (.int a3), none, none] [] w (ff_tr_firstDumb_22_b  self22 a1 a2 a3 w) := by
  unfold ff_tr_firstDumb_22_b
  refine sm_iload_n ii_tr_firstDumb_22 rfl ?_
  refine sm_iload_n ii_tr_firstDumb_23 rfl ?_
  refine sm_icmp_ge 82 ii_tr_firstDumb_24 (by decide) ?_ ?_
  · refine sm_bipush (-9 : Int32) ii_tr_firstDumb_82 (by decide) ?_
    exact sm_iret ii_tr_firstDumb_84 rfl
  · refine sm_iload_n ii_tr_firstDumb_27 rfl ?_
    refine sm_istore [some (.ref 56), some (.int a1), some (.int a2), some (.int a3), some (.int a3), none] ii_tr_firstDumb_28 rfl rfl ?_
    refine sm_iload_n ii_tr_firstDumb_30 rfl ?_
    refine sm_iconst (1 : Int32) ii_tr_firstDumb_31 (by decide) ?_
    refine sm_isub ii_tr_firstDumb_32 ?_
    refine sm_istore [some (.ref 56), some (.int a1), some (.int a2), some (.int a3), some (.int a3), some (.int (a1 - (1 : Int32)))] ii_tr_firstDumb_33 rfl rfl ?_
    exact ss_tr_firstDumb_35 self22 hself22 (a1) (a2) (a3) (a3) ((a1 - (1 : Int32))) w
set_option maxHeartbeats 4000000 in
set_option maxRecDepth 100000 in
theorem ss_tr_firstDumb_22_f {E : Nat × (Nat → Int32)}  : ∀ (n : Nat) (a1 : Int32) (a2 : Int32) (a3 : Int32) (w : sm_Mem), sm_Sim E (mi_tr_firstDumb) 22 [some (.ref 56), some (.int a1), some (.int a2), some (.int a3), none, none] [] w (ff_tr_firstDumb_22_f  n a1 a2 a3 w)
  | 0, _, _, _, _ => fun _ _ h => by cases h
  | n + 1, a1, a2, a3, w => ss_tr_firstDumb_22_b  _ (ss_tr_firstDumb_22_f  n) a1 a2 a3 w
set_option maxHeartbeats 4000000 in
set_option maxRecDepth 100000 in
theorem ss_tr_firstDumb_22 {E : Nat × (Nat → Int32)}  (a1 : Int32) (a2 : Int32) (a3 : Int32) (w : sm_Mem) : sm_Sim E (mi_tr_firstDumb) 22 [some (.ref 56), some (.int a1), some (.int a2), some (.int a3), none, none] [] w (ff_tr_firstDumb_22  a1 a2 a3 w) := ss_tr_firstDumb_22_f  sm_N a1 a2 a3 w
noncomputable def ff_tr_firstDumb_4_b  (self4 : Int32 → Int32 → Int32 → sm_Mem → sm_R) (a1 : Int32) (a2 : Int32) (a3 : Int32) (w : sm_Mem) : sm_R := (if a1 ≤ a3 then ff_tr_firstDumb_22 (a1) (a2) ((0 : Int32)) w else self4 (a1) ((a2 * (6 : Int32))) ((a3 + (1 : Int32))) w)
noncomputable def ff_tr_firstDumb_4_f  : Nat → Int32 → Int32 → Int32 → sm_Mem → sm_R
  | 0, _, _, _, _ => none
  | n + 1, a1, a2, a3, w => ff_tr_firstDumb_4_b  (ff_tr_firstDumb_4_f  n) a1 a2 a3 w
noncomputable def ff_tr_firstDumb_4  (a1 : Int32) (a2 : Int32) (a3 : Int32) (w : sm_Mem) : sm_R := ff_tr_firstDumb_4_f  sm_N a1 a2 a3 w
set_option maxHeartbeats 4000000 in
set_option maxRecDepth 100000 in
theorem ss_tr_firstDumb_4_b {E : Nat × (Nat → Int32)}  (self4 : Int32 → Int32 → Int32 → sm_Mem → sm_R) (hself4 : ∀ (a1 : Int32) (a2 : Int32) (a3 : Int32) (w : sm_Mem), sm_Sim E (mi_tr_firstDumb) 4 [some (.ref 56), some (.int a1), some (.int a2), some (.int a3), none, none] [] w (self4 a1 a2 a3 w)) (a1 : Int32) (a2 : Int32) (a3 : Int32) (w : sm_Mem) : sm_Sim E (mi_tr_firstDumb) 4 [some (.ref 56), some (.int a1), some (.int a2), some (.int a3), none, none] [] w (ff_tr_firstDumb_4_b  self4 a1 a2 a3 w) := by
  unfold ff_tr_firstDumb_4_b
  refine sm_iload_n ii_tr_firstDumb_4 rfl ?_
  refine sm_iload_n ii_tr_firstDumb_5 rfl ?_
  refine sm_icmp_ge 20 ii_tr_firstDumb_6 (by decide) ?_ ?_
  · refine sm_iconst (0 : Int32) ii_tr_firstDumb_20 (by decide) ?_
    refine sm_istore_n [some (.ref 56), some (.int a1), some (.int a2), some (.int (0 : Int32)), none, none] ii_tr_firstDumb_21 rfl rfl ?_
    exact ss_tr_firstDumb_22 (a1) (a2) ((0 : Int32)) w
  · refine sm_iload_n ii_tr_firstDumb_9 rfl ?_
    refine sm_bipush (6 : Int32) ii_tr_firstDumb_10 (by decide) ?_
    refine sm_imul ii_tr_firstDumb_12 ?_
    refine sm_istore_n [some (.ref 56), some (.int a1), some (.int (a2 * (6 : Int32))), some (.int a3), none, none] ii_tr_firstDumb_13 rfl rfl ?_
    refine sm_iinc (a3 + (1 : Int32)) [some (.ref 56), some (.int a1), some (.int (a2 * (6 : Int32))), some (.int (a3 + (1 : Int32))), none, none] ii_tr_firstDumb_14 rfl rfl rfl rfl ?_
    refine sm_goto 4 ii_tr_firstDumb_17 (by decide) ?_
    exact hself4 (a1) ((a2 * (6 : Int32))) ((a3 + (1 : Int32))) w
set_option maxHeartbeats 4000000 in
set_option maxRecDepth 100000 in
theorem ss_tr_firstDumb_4_f {E : Nat × (Nat → Int32)}  : ∀ (n : Nat) (a1 : Int32) (a2 : Int32) (a3 : Int32) (w : sm_Mem), sm_Sim E (mi_tr_firstDumb) 4 [some (.ref 56), some (.int a1), some (.int a2), some (.int a3), none, none] [] w (ff_tr_firstDumb_4_f  n a1 a2 a3 w)
  | 0, _, _, _, _ => fun _ _ h => by cases h
  | n + 1, a1, a2, a3, w => ss_tr_firstDumb_4_b  _ (ss_tr_firstDumb_4_f  n) a1 a2 a3 w
set_option maxHeartbeats 4000000 in
set_option maxRecDepth 100000 in
theorem ss_tr_firstDumb_4 {E : Nat × (Nat → Int32)}  (a1 : Int32) (a2 : Int32) (a3 : Int32) (w : sm_Mem) : sm_Sim E (mi_tr_firstDumb) 4 [some (.ref 56), some (.int a1), some (.int a2), some (.int a3), none, none] [] w (ff_tr_firstDumb_4  a1 a2 a3 w) := ss_tr_firstDumb_4_f  sm_N a1 a2 a3 w
noncomputable def ff_tr_firstDumb  (a1 : Int32) (w : sm_Mem) : sm_R := ff_tr_firstDumb_4 (a1) ((1 : Int32)) ((0 : Int32)) w
set_option maxHeartbeats 4000000 in
set_option maxRecDepth 100000 in
theorem ss_tr_firstDumb_0 {E : Nat × (Nat → Int32)}  (a1 : Int32) (w : sm_Mem) : sm_Sim E (mi_tr_firstDumb) 0 [some (.ref 56), some (.int a1), none, none, none, none] [] w (ff_tr_firstDumb  a1 w) := by
  unfold ff_tr_firstDumb
  refine sm_iconst (1 : Int32) ii_tr_firstDumb_0 (by decide) ?_
  refine sm_istore_n [some (.ref 56), some (.int a1), some (.int (1 : Int32)), none, none, none] ii_tr_firstDumb_1 rfl rfl ?_
  refine sm_iconst (0 : Int32) ii_tr_firstDumb_2 (by decide) ?_
  refine sm_istore_n [some (.ref 56), some (.int a1), some (.int (1 : Int32)), some (.int (0 : Int32)), none, none] ii_tr_firstDumb_3 rfl rfl ?_
  exact ss_tr_firstDumb_4 (a1) ((1 : Int32)) ((0 : Int32)) w
set_option maxHeartbeats 4000000 in
set_option maxRecDepth 100000 in
theorem mc_tr_firstDumb {E : Nat × (Nat → Int32)} (a1 : Int32) (w : sm_Mem) : sm_MC E mi_tr_firstDumb [.ref 56, .int a1] w (ff_tr_firstDumb a1 w) := sm_MC_of E (by decide +kernel) rfl (Nat.le_of_ble_eq_true rfl) (ss_tr_firstDumb_0 a1 w)
abbrev mi_ho_dumb : sm_MI := (⟨"HerOrders", "dumb", "()I"⟩, prog_1_method_27_code, 3, (some .int), 13)
set_option maxRecDepth 100000 in
theorem mf_ho_dumb : sm_MF mi_ho_dumb 0 := ⟨List.mem_of_getElem? (i := 574) (by decide +kernel), List.mem_of_getElem? (i := 69) (by decide +kernel), ⟨by decide, by decide⟩, by decide +kernel⟩
set_option maxRecDepth 100000 in
theorem mv_ho_dumb : sm_MFV mi_ho_dumb := ⟨List.mem_of_getElem? (i := 572) (by decide +kernel), List.mem_of_getElem? (i := 573) (by decide +kernel)⟩
set_option maxRecDepth 100000 in
theorem ii_ho_dumb_0 : sm_D prog_1_method_27_code 0 1 1 (.aload_n 0) := ⟨by decide +kernel, rfl⟩
set_option maxRecDepth 100000 in
theorem ii_ho_dumb_1 : sm_D prog_1_method_27_code 1 3 4 (.getfield 31) := ⟨by decide +kernel, rfl⟩
set_option maxRecDepth 100000 in
theorem ii_ho_dumb_4 : sm_D prog_1_method_27_code 4 3 7 (.getfield 115) := ⟨by decide +kernel, rfl⟩
set_option maxRecDepth 100000 in
theorem ii_ho_dumb_7 : sm_D prog_1_method_27_code 7 3 10 (.ifCond .ne 6) := ⟨by decide +kernel, rfl⟩
set_option maxRecDepth 100000 in
theorem ii_ho_dumb_10 : sm_D prog_1_method_27_code 10 2 12 (.bipush (-4)) := ⟨by decide +kernel, rfl⟩
set_option maxRecDepth 100000 in
theorem ii_ho_dumb_12 : sm_D prog_1_method_27_code 12 1 13 (.ireturn) := ⟨by decide +kernel, rfl⟩
set_option maxRecDepth 100000 in
theorem ii_ho_dumb_13 : sm_D prog_1_method_27_code 13 1 14 (.iconst 1) := ⟨by decide +kernel, rfl⟩
set_option maxRecDepth 100000 in
theorem ii_ho_dumb_14 : sm_D prog_1_method_27_code 14 1 15 (.istore_n 1) := ⟨by decide +kernel, rfl⟩
set_option maxRecDepth 100000 in
theorem ii_ho_dumb_15 : sm_D prog_1_method_27_code 15 1 16 (.iload_n 1) := ⟨by decide +kernel, rfl⟩
set_option maxRecDepth 100000 in
theorem ii_ho_dumb_16 : sm_D prog_1_method_27_code 16 1 17 (.iconst 3) := ⟨by decide +kernel, rfl⟩
set_option maxRecDepth 100000 in
theorem ii_ho_dumb_17 : sm_D prog_1_method_27_code 17 3 20 (.if_icmp .gt 34) := ⟨by decide +kernel, rfl⟩
set_option maxRecDepth 100000 in
theorem ii_ho_dumb_20 : sm_D prog_1_method_27_code 20 1 21 (.aload_n 0) := ⟨by decide +kernel, rfl⟩
set_option maxRecDepth 100000 in
theorem ii_ho_dumb_21 : sm_D prog_1_method_27_code 21 3 24 (.getfield 47) := ⟨by decide +kernel, rfl⟩
set_option maxRecDepth 100000 in
theorem ii_ho_dumb_24 : sm_D prog_1_method_27_code 24 1 25 (.iload_n 1) := ⟨by decide +kernel, rfl⟩
set_option maxRecDepth 100000 in
theorem ii_ho_dumb_25 : sm_D prog_1_method_27_code 25 3 28 (.invokevirtual 228) := ⟨by decide +kernel, rfl⟩
set_option maxRecDepth 100000 in
theorem ii_ho_dumb_28 : sm_D prog_1_method_27_code 28 1 29 (.istore_n 2) := ⟨by decide +kernel, rfl⟩
set_option maxRecDepth 100000 in
theorem ii_ho_dumb_29 : sm_D prog_1_method_27_code 29 1 30 (.iload_n 2) := ⟨by decide +kernel, rfl⟩
set_option maxRecDepth 100000 in
theorem ii_ho_dumb_30 : sm_D prog_1_method_27_code 30 2 32 (.bipush (-9)) := ⟨by decide +kernel, rfl⟩
set_option maxRecDepth 100000 in
theorem ii_ho_dumb_32 : sm_D prog_1_method_27_code 32 3 35 (.if_icmp .eq 13) := ⟨by decide +kernel, rfl⟩
set_option maxRecDepth 100000 in
theorem ii_ho_dumb_35 : sm_D prog_1_method_27_code 35 1 36 (.aload_n 0) := ⟨by decide +kernel, rfl⟩
set_option maxRecDepth 100000 in
theorem ii_ho_dumb_36 : sm_D prog_1_method_27_code 36 3 39 (.getfield 54) := ⟨by decide +kernel, rfl⟩
set_option maxRecDepth 100000 in
theorem ii_ho_dumb_39 : sm_D prog_1_method_27_code 39 1 40 (.iload_n 2) := ⟨by decide +kernel, rfl⟩
set_option maxRecDepth 100000 in
theorem ii_ho_dumb_40 : sm_D prog_1_method_27_code 40 3 43 (.putfield 70) := ⟨by decide +kernel, rfl⟩
set_option maxRecDepth 100000 in
theorem ii_ho_dumb_43 : sm_D prog_1_method_27_code 43 1 44 (.iload_n 1) := ⟨by decide +kernel, rfl⟩
set_option maxRecDepth 100000 in
theorem ii_ho_dumb_44 : sm_D prog_1_method_27_code 44 1 45 (.ireturn) := ⟨by decide +kernel, rfl⟩
set_option maxRecDepth 100000 in
theorem ii_ho_dumb_45 : sm_D prog_1_method_27_code 45 3 48 (.iinc 1 1) := ⟨by decide +kernel, rfl⟩
set_option maxRecDepth 100000 in
theorem ii_ho_dumb_48 : sm_D prog_1_method_27_code 48 3 51 (.goto (-33)) := ⟨by decide +kernel, rfl⟩
set_option maxRecDepth 100000 in
theorem ii_ho_dumb_51 : sm_D prog_1_method_27_code 51 2 53 (.bipush (-9)) := ⟨by decide +kernel, rfl⟩
set_option maxRecDepth 100000 in
theorem ii_ho_dumb_53 : sm_D prog_1_method_27_code 53 1 54 (.ireturn) := ⟨by decide +kernel, rfl⟩
noncomputable def ff_ho_dumb_15_b  (self15 : Int32 → sm_Mem → sm_R) (a1 : Int32) (w : sm_Mem) : sm_R := (if (3 : Int32) < a1 then (some (.int (-9 : Int32), w)) else (sm_cI (ff_tr_firstDumb (a1) w) fun x1 w2 => (if x1 = (-9 : Int32) then self15 ((a1 + (1 : Int32))) w2 else (sm_let (sm_wI w2 60 0 x1) fun w3 => (some (.int a1, w3))))))
noncomputable def ff_ho_dumb_15_f  : Nat → Int32 → sm_Mem → sm_R
  | 0, _, _ => none
  | n + 1, a1, w => ff_ho_dumb_15_b  (ff_ho_dumb_15_f  n) a1 w
noncomputable def ff_ho_dumb_15  (a1 : Int32) (w : sm_Mem) : sm_R := ff_ho_dumb_15_f  sm_N a1 w
set_option maxHeartbeats 4000000 in
set_option maxRecDepth 100000 in
theorem ss_ho_dumb_15_b {E : Nat × (Nat → Int32)}  (self15 : Int32 → sm_Mem → sm_R) (hself15 : ∀ (a1 : Int32) (w : sm_Mem), sm_Sim E (mi_ho_dumb) 15 [some (.ref 0), some (.int a1), none] [] w (self15 a1 w)) (a1 : Int32) (w : sm_Mem) : sm_Sim E (mi_ho_dumb) 15 [some (.ref 0), some (.int a1), none] [] w (ff_ho_dumb_15_b  self15 a1 w) := by
  unfold ff_ho_dumb_15_b
  refine sm_iload_n ii_ho_dumb_15 rfl ?_
  refine sm_iconst (3 : Int32) ii_ho_dumb_16 (by decide) ?_
  refine sm_icmp_gt 51 ii_ho_dumb_17 (by decide) ?_ ?_
  · refine sm_bipush (-9 : Int32) ii_ho_dumb_51 (by decide) ?_
    exact sm_iret ii_ho_dumb_53 rfl
  · refine sm_aload_n ii_ho_dumb_20 rfl ?_
    refine sm_getR 56 ii_ho_dumb_21 fl_ho_47 (k := 0) rfl ?_
    refine sm_iload_n ii_ho_dumb_24 rfl ?_
    refine sm_cvI [.int a1] [] rfl ii_ho_dumb_25 ml_ho_228 (mf_tr_firstDumb) (mv_tr_firstDumb) (Nat.le_of_ble_eq_true rfl) rfl 4 rfl rfl rfl rfl (mc_tr_firstDumb (a1) w) (fun x1 w2 => ?_)
    refine sm_istore_n [some (.ref 0), some (.int a1), some (.int x1)] ii_ho_dumb_28 rfl rfl ?_
    refine sm_iload_n ii_ho_dumb_29 rfl ?_
    refine sm_bipush (-9 : Int32) ii_ho_dumb_30 (by decide) ?_
    refine sm_icmp_eq 45 ii_ho_dumb_32 (by decide) ?_ ?_
    · refine sm_iinc (a1 + (1 : Int32)) [some (.ref 0), some (.int (a1 + (1 : Int32))), some (.int x1)] ii_ho_dumb_45 rfl rfl rfl rfl ?_
      refine sm_goto 15 ii_ho_dumb_48 (by decide) ?_
      refine sm_msk [true, true, false] [some (.ref 0), some (.int (a1 + (1 : Int32))), none] rfl ?_
      exact hself15 ((a1 + (1 : Int32))) w2
    · refine sm_aload_n ii_ho_dumb_35 rfl ?_
      refine sm_getR 60 ii_ho_dumb_36 fl_ho_54 (k := 0) rfl ?_
      refine sm_iload_n ii_ho_dumb_39 rfl ?_
      refine sm_putI ii_ho_dumb_40 fp_ho_70 (k := 60) rfl (fun w3 => ?_)
      refine sm_iload_n ii_ho_dumb_43 rfl ?_
      exact sm_iret ii_ho_dumb_44 rfl
set_option maxHeartbeats 4000000 in
set_option maxRecDepth 100000 in
theorem ss_ho_dumb_15_f {E : Nat × (Nat → Int32)}  : ∀ (n : Nat) (a1 : Int32) (w : sm_Mem), sm_Sim E (mi_ho_dumb) 15 [some (.ref 0), some (.int a1), none] [] w (ff_ho_dumb_15_f  n a1 w)
  | 0, _, _ => fun _ _ h => by cases h
  | n + 1, a1, w => ss_ho_dumb_15_b  _ (ss_ho_dumb_15_f  n) a1 w
set_option maxHeartbeats 4000000 in
set_option maxRecDepth 100000 in
theorem ss_ho_dumb_15 {E : Nat × (Nat → Int32)}  (a1 : Int32) (w : sm_Mem) : sm_Sim E (mi_ho_dumb) 15 [some (.ref 0), some (.int a1), none] [] w (ff_ho_dumb_15  a1 w) := ss_ho_dumb_15_f  sm_N a1 w
noncomputable def ff_ho_dumb   (w : sm_Mem) : sm_R := (if (w.1 36 0) = (0 : Int32) then (some (.int (-4 : Int32), w)) else ff_ho_dumb_15 ((1 : Int32)) w)
set_option maxHeartbeats 4000000 in
set_option maxRecDepth 100000 in
theorem ss_ho_dumb_0 {E : Nat × (Nat → Int32)}   (w : sm_Mem) : sm_Sim E (mi_ho_dumb) 0 [some (.ref 0), none, none] [] w (ff_ho_dumb   w) := by
  unfold ff_ho_dumb
  refine sm_aload_n ii_ho_dumb_0 rfl ?_
  refine sm_getR 36 ii_ho_dumb_1 fl_ho_31 (k := 0) rfl ?_
  refine sm_getI ii_ho_dumb_4 fl_ho_115 (k := 36) rfl ?_
  refine sm_if_ne 13 ii_ho_dumb_7 (by decide) ?_ ?_
  · refine sm_bipush (-4 : Int32) ii_ho_dumb_10 (by decide) ?_
    exact sm_iret ii_ho_dumb_12 rfl
  · refine sm_iconst (1 : Int32) ii_ho_dumb_13 (by decide) ?_
    refine sm_istore_n [some (.ref 0), some (.int (1 : Int32)), none] ii_ho_dumb_14 rfl rfl ?_
    exact ss_ho_dumb_15 ((1 : Int32)) w
set_option maxHeartbeats 4000000 in
set_option maxRecDepth 100000 in
theorem mc_ho_dumb {E : Nat × (Nat → Int32)}  (w : sm_Mem) : sm_MC E mi_ho_dumb [.ref 0] w (ff_ho_dumb  w) := sm_MC_of E (by decide +kernel) rfl (Nat.le_of_ble_eq_true rfl) (ss_ho_dumb_0  w)
