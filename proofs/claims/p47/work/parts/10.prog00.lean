/-! the program, by a program: functions of its methods and that the methods do them -/
set_option maxRecDepth 100000 in
theorem fp_td_19 : sm_FP "HerOrders$Told" 19 3 3 .int := ⟨RX3, TX3, 5, tyX3, rfl, by decide, rfl, sm_inX3, tyX3_ok, nmX3, rfl, by decide +kernel, Or.inl (List.mem_of_getElem? (i := 289) (by decide +kernel))⟩
set_option maxRecDepth 100000 in
theorem fl_td_15 : sm_FL "HerOrders$Told" 15 3 4 := ⟨RX3, TX3, 5, rfl, by decide, rfl, sm_inX3, Or.inl (List.mem_of_getElem? (i := 290) (by decide +kernel))⟩
set_option maxRecDepth 100000 in
theorem fl_rw_21 : sm_FL "HerOrders$Row" 21 2 1 := ⟨RX2, TX2, 2, rfl, by decide, rfl, sm_inX2, Or.inl (List.mem_of_getElem? (i := 101) (by decide +kernel))⟩
set_option maxRecDepth 100000 in
theorem fl_rw_15 : sm_FL "HerOrders$Row" 15 2 0 := ⟨RX2, TX2, 2, rfl, by decide, rfl, sm_inX2, Or.inl (List.mem_of_getElem? (i := 96) (by decide +kernel))⟩
set_option maxRecDepth 100000 in
theorem mq_rw_25 : Cond.methodLink "HerOrders$Row" 25 Lib.Math.min.name ∈ lw_tbl := List.mem_of_getElem? (i := 343) (by decide +kernel)
set_option maxRecDepth 100000 in
theorem mq_st_min : Cond.static Lib.Math.min.name ∈ lw_tbl := List.mem_of_getElem? (i := 344) (by decide +kernel)
set_option maxRecDepth 100000 in
theorem mq_in : Cond.initialized "java/lang/Math" ∈ lw_tbl := List.mem_of_getElem? (i := 71) (by decide +kernel)
set_option maxRecDepth 100000 in
theorem mq_co_min : Cond.code Lib.Math.min.name Lib.Math.min.code 2 (some .int) ∈ lw_tbl := List.mem_of_getElem? (i := 345) (by decide +kernel)
set_option maxRecDepth 100000 in
theorem mq_rw_9 : Cond.methodLink "HerOrders$Row" 9 Lib.Math.max.name ∈ lw_tbl := List.mem_of_getElem? (i := 93) (by decide +kernel)
set_option maxRecDepth 100000 in
theorem mq_st_max : Cond.static Lib.Math.max.name ∈ lw_tbl := List.mem_of_getElem? (i := 94) (by decide +kernel)
set_option maxRecDepth 100000 in
theorem mq_co_max : Cond.code Lib.Math.max.name Lib.Math.max.code 2 (some .int) ∈ lw_tbl := List.mem_of_getElem? (i := 95) (by decide +kernel)
set_option maxRecDepth 100000 in
theorem fp_rw_21 : sm_FP "HerOrders$Row" 21 2 1 .int := ⟨RX2, TX2, 2, tyX2, rfl, by decide, rfl, sm_inX2, tyX2_ok, nmX2, rfl, by decide +kernel, Or.inl (List.mem_of_getElem? (i := 101) (by decide +kernel))⟩
set_option maxRecDepth 100000 in
theorem ml_ho_81 : sm_ML "HerOrders" 81 ⟨"HerOrders", "isWithin", "(II)Z"⟩ := Or.inl (List.mem_of_getElem? (i := 332) (by decide +kernel))
set_option maxRecDepth 100000 in
theorem fl_ho_66 : sm_FL "HerOrders" 66 2 0 := ⟨RX2, TX2, 2, rfl, by decide, rfl, sm_inX2, Or.inr ⟨"HerOrders", List.mem_of_getElem? (i := 99) (by decide +kernel)⟩⟩
set_option maxRecDepth 100000 in
theorem ml_ho_334 : sm_ML "HerOrders" 334 ⟨"HerOrders$Row", "begin", "(II)V"⟩ := Or.inr ⟨"HerOrders", List.mem_of_getElem? (i := 339) (by decide +kernel)⟩
set_option maxRecDepth 100000 in
theorem fl_ho_54 : sm_FL "HerOrders" 54 6 6 := ⟨RX6, TX6, 7, rfl, by decide, rfl, sm_inX6, Or.inl (List.mem_of_getElem? (i := 308) (by decide +kernel))⟩
set_option maxRecDepth 100000 in
theorem ml_ho_85 : sm_ML "HerOrders" 85 ⟨"HerOrders$Told", "refuse", "(I)I"⟩ := Or.inr ⟨"HerOrders", List.mem_of_getElem? (i := 335) (by decide +kernel)⟩
set_option maxRecDepth 100000 in
theorem fl_ho_18 : sm_FL "HerOrders" 18 6 1 := ⟨RX6, TX6, 7, rfl, by decide, rfl, sm_inX6, Or.inl (List.mem_of_getElem? (i := 303) (by decide +kernel))⟩
set_option maxRecDepth 100000 in
theorem ml_ho_58 : sm_ML "HerOrders" 58 ⟨"HerOrders", "make", "([LHerOrders$Row;III)I"⟩ := Or.inl (List.mem_of_getElem? (i := 328) (by decide +kernel))
set_option maxRecDepth 100000 in
theorem ml_ho_89 : sm_ML "HerOrders" 89 ⟨"HerOrders$Row", "isMissing", "()Z"⟩ := Or.inr ⟨"HerOrders", List.mem_of_getElem? (i := 358) (by decide +kernel)⟩
set_option maxRecDepth 100000 in
theorem ml_ho_74 : sm_ML "HerOrders" 74 ⟨"HerOrders", "refusalOfMissing", "([LHerOrders$Row;I)I"⟩ := Or.inl (List.mem_of_getElem? (i := 354) (by decide +kernel))
set_option maxRecDepth 100000 in
theorem fl_ho_78 : sm_FL "HerOrders" 78 2 1 := ⟨RX2, TX2, 2, rfl, by decide, rfl, sm_inX2, Or.inr ⟨"HerOrders", List.mem_of_getElem? (i := 104) (by decide +kernel)⟩⟩
set_option maxRecDepth 100000 in
theorem ml_ho_62 : sm_ML "HerOrders" 62 ⟨"HerOrders", "refusalOfPlace", "([LHerOrders$Row;II)I"⟩ := Or.inl (List.mem_of_getElem? (i := 350) (by decide +kernel))
set_option maxRecDepth 100000 in
theorem ml_ho_342 : sm_ML "HerOrders" 342 ⟨"HerOrders", "kindOf", "(I)I"⟩ := Or.inl (List.mem_of_getElem? (i := 380) (by decide +kernel))
set_option maxRecDepth 100000 in
theorem ml_ho_338 : sm_ML "HerOrders" 338 ⟨"HerOrders", "faultOfItem", "(LHerOrders$Row;I)I"⟩ := Or.inl (List.mem_of_getElem? (i := 377) (by decide +kernel))
set_option maxRecDepth 100000 in
theorem ml_ho_106 : sm_ML "HerOrders" 106 ⟨"HerOrders", "faultOf", "(LHerOrders$Row;)I"⟩ := Or.inl (List.mem_of_getElem? (i := 374) (by decide +kernel))
set_option maxRecDepth 100000 in
theorem fl_hs_54 : sm_FL "HerOrders$House" 54 2 0 := ⟨RX2, TX2, 2, rfl, by decide, rfl, sm_inX2, Or.inr ⟨"HerOrders", List.mem_of_getElem? (i := 97) (by decide +kernel)⟩⟩
set_option maxRecDepth 100000 in
theorem fl_hs_89 : sm_FL "HerOrders$House" 89 1 11 := ⟨RX1, TX1, 13, rfl, by decide, rfl, sm_inX1, Or.inl (List.mem_of_getElem? (i := 166) (by decide +kernel))⟩
set_option maxRecDepth 100000 in
theorem fl_hs_30 : sm_FL "HerOrders$House" 30 1 9 := ⟨RX1, TX1, 13, rfl, by decide, rfl, sm_inX1, Or.inl (List.mem_of_getElem? (i := 161) (by decide +kernel))⟩
set_option maxRecDepth 100000 in
theorem fl_hs_33 : sm_FL "HerOrders$House" 33 1 10 := ⟨RX1, TX1, 13, rfl, by decide, rfl, sm_inX1, Or.inl (List.mem_of_getElem? (i := 164) (by decide +kernel))⟩
set_option maxRecDepth 100000 in
theorem fp_hs_89 : sm_FP "HerOrders$House" 89 1 11 .int := ⟨RX1, TX1, 13, tyX1, rfl, by decide, rfl, sm_inX1, tyX1_ok, nmX1, rfl, by decide +kernel, Or.inl (List.mem_of_getElem? (i := 166) (by decide +kernel))⟩
set_option maxRecDepth 100000 in
theorem fl_hs_27 : sm_FL "HerOrders$House" 27 1 6 := ⟨RX1, TX1, 13, rfl, by decide, rfl, sm_inX1, Or.inl (List.mem_of_getElem? (i := 156) (by decide +kernel))⟩
set_option maxRecDepth 100000 in
theorem fl_hs_45 : sm_FL "HerOrders$House" 45 1 0 := ⟨RX1, TX1, 13, rfl, by decide, rfl, sm_inX1, Or.inl (List.mem_of_getElem? (i := 145) (by decide +kernel))⟩
set_option maxRecDepth 100000 in
theorem fl_hs_21 : sm_FL "HerOrders$House" 21 1 4 := ⟨RX1, TX1, 13, rfl, by decide, rfl, sm_inX1, Or.inl (List.mem_of_getElem? (i := 152) (by decide +kernel))⟩
set_option maxRecDepth 100000 in
theorem ml_hs_90 : sm_ML "HerOrders$House" 90 ⟨"HerOrders$House", "push", "(II)V"⟩ := Or.inl (List.mem_of_getElem? (i := 401) (by decide +kernel))
set_option maxRecDepth 100000 in
theorem fl_hs_94 : sm_FL "HerOrders$House" 94 1 8 := ⟨RX1, TX1, 13, rfl, by decide, rfl, sm_inX1, Or.inl (List.mem_of_getElem? (i := 159) (by decide +kernel))⟩
set_option maxRecDepth 100000 in
theorem fp_hs_94 : sm_FP "HerOrders$House" 94 1 8 .int := ⟨RX1, TX1, 13, tyX1, rfl, by decide, rfl, sm_inX1, tyX1_ok, nmX1, rfl, by decide +kernel, Or.inl (List.mem_of_getElem? (i := 159) (by decide +kernel))⟩
set_option maxRecDepth 100000 in
theorem fl_hs_97 : sm_FL "HerOrders$House" 97 1 7 := ⟨RX1, TX1, 13, rfl, by decide, rfl, sm_inX1, Or.inl (List.mem_of_getElem? (i := 157) (by decide +kernel))⟩
set_option maxRecDepth 100000 in
theorem fp_hs_97 : sm_FP "HerOrders$House" 97 1 7 .int := ⟨RX1, TX1, 13, tyX1, rfl, by decide, rfl, sm_inX1, tyX1_ok, nmX1, rfl, by decide +kernel, Or.inl (List.mem_of_getElem? (i := 157) (by decide +kernel))⟩
set_option maxRecDepth 100000 in
theorem fl_hs_24 : sm_FL "HerOrders$House" 24 1 5 := ⟨RX1, TX1, 13, rfl, by decide, rfl, sm_inX1, Or.inl (List.mem_of_getElem? (i := 153) (by decide +kernel))⟩
set_option maxRecDepth 100000 in
theorem fl_hs_41 : sm_FL "HerOrders$House" 41 1 12 := ⟨RX1, TX1, 13, rfl, by decide, rfl, sm_inX1, Or.inl (List.mem_of_getElem? (i := 169) (by decide +kernel))⟩
set_option maxRecDepth 100000 in
theorem fl_hs_100 : sm_FL "HerOrders$House" 100 0 0 := ⟨RX0, TX0, 4, rfl, by decide, rfl, sm_inX0, Or.inr ⟨"HerOrders", List.mem_of_getElem? (i := 120) (by decide +kernel)⟩⟩
set_option maxRecDepth 100000 in
theorem fl_hs_103 : sm_FL "HerOrders$House" 103 0 1 := ⟨RX0, TX0, 4, rfl, by decide, rfl, sm_inX0, Or.inr ⟨"HerOrders", List.mem_of_getElem? (i := 122) (by decide +kernel)⟩⟩
set_option maxRecDepth 100000 in
theorem fl_hs_106 : sm_FL "HerOrders$House" 106 0 2 := ⟨RX0, TX0, 4, rfl, by decide, rfl, sm_inX0, Or.inr ⟨"HerOrders", List.mem_of_getElem? (i := 124) (by decide +kernel)⟩⟩
set_option maxRecDepth 100000 in
theorem ml_hs_73 : sm_ML "HerOrders$House" 73 ⟨"HerOrders$House", "perform", "(III)V"⟩ := Or.inl (List.mem_of_getElem? (i := 397) (by decide +kernel))
set_option maxRecDepth 100000 in
theorem fp_hs_68 : sm_FP "HerOrders$House" 68 0 3 .int := ⟨RX0, TX0, 4, tyX0, rfl, by decide, rfl, sm_inX0, tyX0_ok, nmX0, rfl, by decide +kernel, Or.inr ⟨"HerOrders", List.mem_of_getElem? (i := 126) (by decide +kernel)⟩⟩
set_option maxRecDepth 100000 in
theorem fl_hs_18 : sm_FL "HerOrders$House" 18 1 3 := ⟨RX1, TX1, 13, rfl, by decide, rfl, sm_inX1, Or.inl (List.mem_of_getElem? (i := 151) (by decide +kernel))⟩
set_option maxRecDepth 100000 in
theorem ml_hs_65 : sm_ML "HerOrders$House" 65 ⟨"HerOrders$House", "goBackTo", "(I)V"⟩ := Or.inl (List.mem_of_getElem? (i := 393) (by decide +kernel))
set_option maxRecDepth 100000 in
theorem fl_hs_49 : sm_FL "HerOrders$House" 49 2 1 := ⟨RX2, TX2, 2, rfl, by decide, rfl, sm_inX2, Or.inr ⟨"HerOrders", List.mem_of_getElem? (i := 103) (by decide +kernel)⟩⟩
set_option maxRecDepth 100000 in
theorem fl_hs_9 : sm_FL "HerOrders$House" 9 1 1 := ⟨RX1, TX1, 13, rfl, by decide, rfl, sm_inX1, Or.inl (List.mem_of_getElem? (i := 149) (by decide +kernel))⟩
set_option maxRecDepth 100000 in
theorem ml_hs_57 : sm_ML "HerOrders$House" 57 ⟨"HerOrders", "kindOf", "(I)I"⟩ := Or.inr ⟨"HerOrders", List.mem_of_getElem? (i := 389) (by decide +kernel)⟩
set_option maxRecDepth 100000 in
theorem fl_hs_15 : sm_FL "HerOrders$House" 15 1 2 := ⟨RX1, TX1, 13, rfl, by decide, rfl, sm_inX1, Or.inl (List.mem_of_getElem? (i := 150) (by decide +kernel))⟩
set_option maxRecDepth 100000 in
theorem ml_hs_61 : sm_ML "HerOrders$House" 61 ⟨"HerOrders$House", "figure", "(LHerOrders$Row;I)I"⟩ := Or.inl (List.mem_of_getElem? (i := 390) (by decide +kernel))
set_option maxRecDepth 100000 in
theorem fp_hs_45 : sm_FP "HerOrders$House" 45 1 0 .int := ⟨RX1, TX1, 13, tyX1, rfl, by decide, rfl, sm_inX1, tyX1_ok, nmX1, rfl, by decide +kernel, Or.inl (List.mem_of_getElem? (i := 145) (by decide +kernel))⟩
set_option maxRecDepth 100000 in
theorem fl_ho_31 : sm_FL "HerOrders" 31 6 2 := ⟨RX6, TX6, 7, rfl, by decide, rfl, sm_inX6, Or.inl (List.mem_of_getElem? (i := 304) (by decide +kernel))⟩
set_option maxRecDepth 100000 in
theorem fl_ho_115 : sm_FL "HerOrders" 115 1 0 := ⟨RX1, TX1, 13, rfl, by decide, rfl, sm_inX1, Or.inr ⟨"HerOrders", List.mem_of_getElem? (i := 148) (by decide +kernel)⟩⟩
set_option maxRecDepth 100000 in
theorem fl_ho_23 : sm_FL "HerOrders" 23 6 3 := ⟨RX6, TX6, 7, rfl, by decide, rfl, sm_inX6, Or.inl (List.mem_of_getElem? (i := 305) (by decide +kernel))⟩
set_option maxRecDepth 100000 in
theorem fp_ho_114 : sm_FP "HerOrders" 114 0 3 .int := ⟨RX0, TX0, 4, tyX0, rfl, by decide, rfl, sm_inX0, tyX0_ok, nmX0, rfl, by decide +kernel, Or.inr ⟨"HerOrders", List.mem_of_getElem? (i := 127) (by decide +kernel)⟩⟩
set_option maxRecDepth 100000 in
theorem ml_ho_110 : sm_ML "HerOrders" 110 ⟨"HerOrders$House", "settle", "(LHerOrders$Row;)V"⟩ := Or.inr ⟨"HerOrders", List.mem_of_getElem? (i := 385) (by decide +kernel)⟩
set_option maxRecDepth 100000 in
theorem ml_la_24 : sm_ML "HerOrdersLaw" 24 ⟨"HerOrdersLaw", "letter", "(I)I"⟩ := Or.inl (List.mem_of_getElem? (i := 824) (by decide +kernel))
set_option maxRecDepth 100000 in
theorem ml_la_28 : sm_ML "HerOrdersLaw" 28 ⟨"HerOrders", "put", "(III)I"⟩ := Or.inl (List.mem_of_getElem? (i := 827) (by decide +kernel))
set_option maxRecDepth 100000 in
theorem ml_la_15 : sm_ML "HerOrdersLaw" 15 ⟨"HerOrdersLaw", "low", "(II)I"⟩ := Or.inl (List.mem_of_getElem? (i := 813) (by decide +kernel))
set_option maxRecDepth 100000 in
theorem ml_la_32 : sm_ML "HerOrdersLaw" 32 ⟨"HerOrders", "fault", "(I)I"⟩ := Or.inl (List.mem_of_getElem? (i := 831) (by decide +kernel))
set_option maxRecDepth 100000 in
theorem ml_la_35 : sm_ML "HerOrdersLaw" 35 ⟨"HerOrders", "house", "(I)I"⟩ := Or.inl (List.mem_of_getElem? (i := 370) (by decide +kernel))
set_option maxRecDepth 100000 in
theorem ml_la_9 : sm_ML "HerOrdersLaw" 9 ⟨"HerOrdersLaw", "cell", "([II)I"⟩ := Or.inl (List.mem_of_getElem? (i := 809) (by decide +kernel))
set_option maxRecDepth 100000 in
theorem ml_la_19 : sm_ML "HerOrdersLaw" 19 ⟨"HerOrders", "text", "(II)I"⟩ := Or.inl (List.mem_of_getElem? (i := 820) (by decide +kernel))
abbrev mi_la_cell : sm_MI := (⟨"HerOrdersLaw", "cell", "([II)I"⟩, method_2_code, 2, (some .int), 1)
set_option maxRecDepth 100000 in
theorem mf_la_cell : sm_MF mi_la_cell 2 := ⟨List.mem_of_getElem? (i := 811) (by decide +kernel), List.mem_of_getElem? (i := 68) (by decide +kernel), ⟨by decide, by decide⟩, by decide +kernel⟩
set_option maxRecDepth 100000 in
theorem mv_la_cell : sm_MFS mi_la_cell := List.mem_of_getElem? (i := 810) (by decide +kernel)
set_option maxRecDepth 100000 in
theorem ii_la_cell_0 : sm_D method_2_code 0 1 1 (.iload_n 1) := ⟨by decide +kernel, rfl⟩
set_option maxRecDepth 100000 in
theorem ii_la_cell_1 : sm_D method_2_code 1 1 2 (.aload_n 0) := ⟨by decide +kernel, rfl⟩
set_option maxRecDepth 100000 in
theorem ii_la_cell_2 : sm_D method_2_code 2 1 3 (.arraylength) := ⟨by decide +kernel, rfl⟩
set_option maxRecDepth 100000 in
theorem ii_la_cell_3 : sm_D method_2_code 3 3 6 (.if_icmp .ge 9) := ⟨by decide +kernel, rfl⟩
set_option maxRecDepth 100000 in
theorem ii_la_cell_6 : sm_D method_2_code 6 1 7 (.aload_n 0) := ⟨by decide +kernel, rfl⟩
set_option maxRecDepth 100000 in
theorem ii_la_cell_7 : sm_D method_2_code 7 1 8 (.iload_n 1) := ⟨by decide +kernel, rfl⟩
set_option maxRecDepth 100000 in
theorem ii_la_cell_8 : sm_D method_2_code 8 1 9 (.iaload) := ⟨by decide +kernel, rfl⟩
set_option maxRecDepth 100000 in
theorem ii_la_cell_9 : sm_D method_2_code 9 3 12 (.goto 10) := ⟨by decide +kernel, rfl⟩
set_option maxRecDepth 100000 in
theorem ii_la_cell_12 : sm_D method_2_code 12 2 14 (.ldc 7) := ⟨by decide +kernel, rfl⟩
set_option maxRecDepth 100000 in
theorem ii_la_cell_14 : sm_D method_2_code 14 1 15 (.iload_n 1) := ⟨by decide +kernel, rfl⟩
set_option maxRecDepth 100000 in
theorem ii_la_cell_15 : sm_D method_2_code 15 2 17 (.bipush 7) := ⟨by decide +kernel, rfl⟩
set_option maxRecDepth 100000 in
theorem ii_la_cell_17 : sm_D method_2_code 17 1 18 (.iadd) := ⟨by decide +kernel, rfl⟩
set_option maxRecDepth 100000 in
theorem ii_la_cell_18 : sm_D method_2_code 18 1 19 (.imul) := ⟨by decide +kernel, rfl⟩
set_option maxRecDepth 100000 in
theorem ii_la_cell_19 : sm_D method_2_code 19 1 20 (.ireturn) := ⟨by decide +kernel, rfl⟩
noncomputable def ff_la_cell (E : Nat × (Nat → Int32))  (a1 : Int32) (w : sm_Mem) : sm_R := (if (Int32.ofNat E.1) ≤ a1 then (some (.int ((40503 : Int32) * (a1 + (7 : Int32))), w)) else (Option.bind (sm_sc E a1) fun x1 => (some (.int x1, w))))
set_option maxHeartbeats 4000000 in
set_option maxRecDepth 100000 in
theorem ss_la_cell_0 {E : Nat × (Nat → Int32)}  (a1 : Int32) (w : sm_Mem) : sm_Sim E (mi_la_cell) 0 [some (.ref 999), some (.int a1)] [] w (ff_la_cell E  a1 w) := by
  unfold ff_la_cell
  refine sm_iload_n ii_la_cell_0 rfl ?_
  refine sm_aload_n ii_la_cell_1 rfl ?_
  refine sm_slen ii_la_cell_2 ?_
  refine sm_icmp_ge 12 ii_la_cell_3 (by decide) ?_ ?_
  · refine sm_ldc (40503 : Int32) ii_la_cell_12 (List.mem_of_getElem? (i := 812) (by decide +kernel)) ?_
    refine sm_iload_n ii_la_cell_14 rfl ?_
    refine sm_bipush (7 : Int32) ii_la_cell_15 (by decide) ?_
    refine sm_iadd ii_la_cell_17 ?_
    refine sm_imul ii_la_cell_18 ?_
    exact sm_iret ii_la_cell_19 rfl
  · refine sm_aload_n ii_la_cell_6 rfl ?_
    refine sm_iload_n ii_la_cell_7 rfl ?_
    refine sm_sald ii_la_cell_8 (fun x1 => ?_)
    refine sm_goto 19 ii_la_cell_9 (by decide) ?_
    exact sm_iret ii_la_cell_19 rfl
set_option maxHeartbeats 4000000 in
set_option maxRecDepth 100000 in
theorem mc_la_cell {E : Nat × (Nat → Int32)} (a1 : Int32) (w : sm_Mem) : sm_MC E mi_la_cell [.ref 999, .int a1] w (ff_la_cell E a1 w) := sm_MC_of E (by decide +kernel) rfl (Nat.le_of_ble_eq_true rfl) (ss_la_cell_0 a1 w)
abbrev mi_la_low : sm_MI := (⟨"HerOrdersLaw", "low", "(II)I"⟩, method_3_code, 2, (some .int), 1)
set_option maxRecDepth 100000 in
theorem mf_la_low : sm_MF mi_la_low 2 := ⟨List.mem_of_getElem? (i := 815) (by decide +kernel), List.mem_of_getElem? (i := 68) (by decide +kernel), ⟨by decide, by decide⟩, by decide +kernel⟩
set_option maxRecDepth 100000 in
theorem mv_la_low : sm_MFS mi_la_low := List.mem_of_getElem? (i := 814) (by decide +kernel)
set_option maxRecDepth 100000 in
theorem ii_la_low_0 : sm_D method_3_code 0 1 1 (.iload_n 0) := ⟨by decide +kernel, rfl⟩
set_option maxRecDepth 100000 in
theorem ii_la_low_1 : sm_D method_3_code 1 2 3 (.ldc 8) := ⟨by decide +kernel, rfl⟩
set_option maxRecDepth 100000 in
theorem ii_la_low_3 : sm_D method_3_code 3 1 4 (.iand) := ⟨by decide +kernel, rfl⟩
set_option maxRecDepth 100000 in
theorem ii_la_low_4 : sm_D method_3_code 4 1 5 (.iload_n 1) := ⟨by decide +kernel, rfl⟩
set_option maxRecDepth 100000 in
theorem ii_la_low_5 : sm_D method_3_code 5 1 6 (.irem) := ⟨by decide +kernel, rfl⟩
set_option maxRecDepth 100000 in
theorem ii_la_low_6 : sm_D method_3_code 6 1 7 (.ireturn) := ⟨by decide +kernel, rfl⟩
noncomputable def ff_la_low  (a0 : Int32) (a1 : Int32) (w : sm_Mem) : sm_R := (if a1 = (0 : Int32) then none else (some (.int ((a0 &&& (2147483647 : Int32)) - (a0 &&& (2147483647 : Int32)) / a1 * a1), w)))
set_option maxHeartbeats 4000000 in
set_option maxRecDepth 100000 in
theorem ss_la_low_0 {E : Nat × (Nat → Int32)}  (a0 : Int32) (a1 : Int32) (w : sm_Mem) : sm_Sim E (mi_la_low) 0 [some (.int a0), some (.int a1)] [] w (ff_la_low  a0 a1 w) := by
  unfold ff_la_low
  refine sm_iload_n ii_la_low_0 rfl ?_
  refine sm_ldc (2147483647 : Int32) ii_la_low_1 (List.mem_of_getElem? (i := 816) (by decide +kernel)) ?_
  refine sm_iand ii_la_low_3 ?_
  refine sm_iload_n ii_la_low_4 rfl ?_
  refine sm_irem ii_la_low_5 ?_
  exact sm_iret ii_la_low_6 rfl
set_option maxHeartbeats 4000000 in
set_option maxRecDepth 100000 in
theorem mc_la_low {E : Nat × (Nat → Int32)} (a0 : Int32) (a1 : Int32) (w : sm_Mem) : sm_MC E mi_la_low [.int a0, .int a1] w (ff_la_low a0 a1 w) := sm_MC_of E (by decide +kernel) rfl (Nat.le_of_ble_eq_true rfl) (ss_la_low_0 a0 a1 w)
abbrev mi_ho_isWithin : sm_MI := (⟨"HerOrders", "isWithin", "(II)Z"⟩, prog_1_method_46_code, 2, (some .boolean), 1)
set_option maxRecDepth 100000 in
theorem mf_ho_isWithin : sm_MF mi_ho_isWithin 2 := ⟨List.mem_of_getElem? (i := 334) (by decide +kernel), List.mem_of_getElem? (i := 69) (by decide +kernel), ⟨by decide, by decide⟩, by decide +kernel⟩
set_option maxRecDepth 100000 in
theorem mv_ho_isWithin : sm_MFS mi_ho_isWithin := List.mem_of_getElem? (i := 333) (by decide +kernel)
set_option maxRecDepth 100000 in
theorem ii_ho_isWithin_0 : sm_D prog_1_method_46_code 0 1 1 (.iload_n 0) := ⟨by decide +kernel, rfl⟩
set_option maxRecDepth 100000 in
theorem ii_ho_isWithin_1 : sm_D prog_1_method_46_code 1 3 4 (.ifCond .lt 12) := ⟨by decide +kernel, rfl⟩
set_option maxRecDepth 100000 in
theorem ii_ho_isWithin_4 : sm_D prog_1_method_46_code 4 1 5 (.iload_n 0) := ⟨by decide +kernel, rfl⟩
set_option maxRecDepth 100000 in
theorem ii_ho_isWithin_5 : sm_D prog_1_method_46_code 5 1 6 (.iload_n 1) := ⟨by decide +kernel, rfl⟩
set_option maxRecDepth 100000 in
theorem ii_ho_isWithin_6 : sm_D prog_1_method_46_code 6 3 9 (.if_icmp .ge 7) := ⟨by decide +kernel, rfl⟩
set_option maxRecDepth 100000 in
theorem ii_ho_isWithin_9 : sm_D prog_1_method_46_code 9 1 10 (.iconst 1) := ⟨by decide +kernel, rfl⟩
set_option maxRecDepth 100000 in
theorem ii_ho_isWithin_10 : sm_D prog_1_method_46_code 10 3 13 (.goto 4) := ⟨by decide +kernel, rfl⟩
set_option maxRecDepth 100000 in
theorem ii_ho_isWithin_13 : sm_D prog_1_method_46_code 13 1 14 (.iconst 0) := ⟨by decide +kernel, rfl⟩
set_option maxRecDepth 100000 in
theorem ii_ho_isWithin_14 : sm_D prog_1_method_46_code 14 1 15 (.ireturn) := ⟨by decide +kernel, rfl⟩
noncomputable def ff_ho_isWithin  (a0 : Int32) (a1 : Int32) (w : sm_Mem) : sm_R := (if a0 < (0 : Int32) then (some (.int (0 : Int32), w)) else (if a1 ≤ a0 then (some (.int (0 : Int32), w)) else (some (.int (1 : Int32), w))))
set_option maxHeartbeats 4000000 in
set_option maxRecDepth 100000 in
theorem ss_ho_isWithin_0 {E : Nat × (Nat → Int32)}  (a0 : Int32) (a1 : Int32) (w : sm_Mem) : sm_Sim E (mi_ho_isWithin) 0 [some (.int a0), some (.int a1)] [] w (ff_ho_isWithin  a0 a1 w) := by
  unfold ff_ho_isWithin
  refine sm_iload_n ii_ho_isWithin_0 rfl ?_
  refine sm_if_lt 13 ii_ho_isWithin_1 (by decide) ?_ ?_
  · refine sm_iconst (0 : Int32) ii_ho_isWithin_13 (by decide) ?_
    exact sm_zret1 ii_ho_isWithin_14 rfl (by decide)
  · refine sm_iload_n ii_ho_isWithin_4 rfl ?_
    refine sm_iload_n ii_ho_isWithin_5 rfl ?_
    refine sm_icmp_ge 13 ii_ho_isWithin_6 (by decide) ?_ ?_
    · refine sm_iconst (0 : Int32) ii_ho_isWithin_13 (by decide) ?_
      exact sm_zret1 ii_ho_isWithin_14 rfl (by decide)
    · refine sm_iconst (1 : Int32) ii_ho_isWithin_9 (by decide) ?_
      refine sm_goto 14 ii_ho_isWithin_10 (by decide) ?_
      exact sm_zret1 ii_ho_isWithin_14 rfl (by decide)
set_option maxHeartbeats 4000000 in
set_option maxRecDepth 100000 in
theorem mc_ho_isWithin {E : Nat × (Nat → Int32)} (a0 : Int32) (a1 : Int32) (w : sm_Mem) : sm_MC E mi_ho_isWithin [.int a0, .int a1] w (ff_ho_isWithin a0 a1 w) := sm_MC_of E (by decide +kernel) rfl (Nat.le_of_ble_eq_true rfl) (ss_ho_isWithin_0 a0 a1 w)
abbrev mi_td_refuse : sm_MI := (⟨"HerOrders$Told", "refuse", "(I)I"⟩, prog_5_method_2_code, 2, (some .int), 1)
set_option maxRecDepth 100000 in
theorem mf_td_refuse : sm_MF mi_td_refuse 1 := ⟨List.mem_of_getElem? (i := 338) (by decide +kernel), List.mem_of_getElem? (i := 76) (by decide +kernel), ⟨by decide, by decide⟩, by decide +kernel⟩
set_option maxRecDepth 100000 in
theorem mv_td_refuse : sm_MFV mi_td_refuse := ⟨List.mem_of_getElem? (i := 337) (by decide +kernel), List.mem_of_getElem? (i := 1) (by decide +kernel)⟩
set_option maxRecDepth 100000 in
theorem ii_td_refuse_0 : sm_D prog_5_method_2_code 0 1 1 (.aload_n 0) := ⟨by decide +kernel, rfl⟩
set_option maxRecDepth 100000 in
theorem ii_td_refuse_1 : sm_D prog_5_method_2_code 1 1 2 (.iload_n 1) := ⟨by decide +kernel, rfl⟩
set_option maxRecDepth 100000 in
theorem ii_td_refuse_2 : sm_D prog_5_method_2_code 2 3 5 (.putfield 19) := ⟨by decide +kernel, rfl⟩
set_option maxRecDepth 100000 in
theorem ii_td_refuse_5 : sm_D prog_5_method_2_code 5 1 6 (.aload_n 0) := ⟨by decide +kernel, rfl⟩
set_option maxRecDepth 100000 in
theorem ii_td_refuse_6 : sm_D prog_5_method_2_code 6 3 9 (.getfield 15) := ⟨by decide +kernel, rfl⟩
set_option maxRecDepth 100000 in
theorem ii_td_refuse_9 : sm_D prog_5_method_2_code 9 1 10 (.iload_n 1) := ⟨by decide +kernel, rfl⟩
set_option maxRecDepth 100000 in
theorem ii_td_refuse_10 : sm_D prog_5_method_2_code 10 1 11 (.dup2) := ⟨by decide +kernel, rfl⟩
set_option maxRecDepth 100000 in
theorem ii_td_refuse_11 : sm_D prog_5_method_2_code 11 1 12 (.iaload) := ⟨by decide +kernel, rfl⟩
set_option maxRecDepth 100000 in
theorem ii_td_refuse_12 : sm_D prog_5_method_2_code 12 1 13 (.iconst 1) := ⟨by decide +kernel, rfl⟩
set_option maxRecDepth 100000 in
theorem ii_td_refuse_13 : sm_D prog_5_method_2_code 13 1 14 (.iadd) := ⟨by decide +kernel, rfl⟩
set_option maxRecDepth 100000 in
theorem ii_td_refuse_14 : sm_D prog_5_method_2_code 14 1 15 (.iastore) := ⟨by decide +kernel, rfl⟩
set_option maxRecDepth 100000 in
theorem ii_td_refuse_15 : sm_D prog_5_method_2_code 15 2 17 (.bipush (-3)) := ⟨by decide +kernel, rfl⟩
set_option maxRecDepth 100000 in
theorem ii_td_refuse_17 : sm_D prog_5_method_2_code 17 1 18 (.ireturn) := ⟨by decide +kernel, rfl⟩
noncomputable def ff_td_refuse  (a1 : Int32) (w : sm_Mem) : sm_R := (sm_let (sm_wI w 60 3 a1) fun w1 => (Option.bind (sm_rd w1 61 6 a1) fun x2 => (Option.bind (sm_wr w1 61 6 a1 (x2 + (1 : Int32))) fun w3 => (some (.int (-3 : Int32), w3)))))
set_option maxHeartbeats 4000000 in
set_option maxRecDepth 100000 in
theorem ss_td_refuse_0 {E : Nat × (Nat → Int32)}  (a1 : Int32) (w : sm_Mem) : sm_Sim E (mi_td_refuse) 0 [some (.ref 60), some (.int a1)] [] w (ff_td_refuse  a1 w) := by
  unfold ff_td_refuse
  refine sm_aload_n ii_td_refuse_0 rfl ?_
  refine sm_iload_n ii_td_refuse_1 rfl ?_
  refine sm_putI ii_td_refuse_2 fp_td_19 (k := 60) rfl (fun w1 => ?_)
  refine sm_aload_n ii_td_refuse_5 rfl ?_
  refine sm_getR 61 ii_td_refuse_6 fl_td_15 (k := 60) rfl ?_
  refine sm_iload_n ii_td_refuse_9 rfl ?_
  refine sm_dup2 ii_td_refuse_10 ?_
  refine sm_iald ii_td_refuse_11 (k := 61) rfl (fun x2 => ?_)
  refine sm_iconst (1 : Int32) ii_td_refuse_12 (by decide) ?_
  refine sm_iadd ii_td_refuse_13 ?_
  refine sm_iast ii_td_refuse_14 (k := 61) rfl (fun w3 => ?_)
  refine sm_bipush (-3 : Int32) ii_td_refuse_15 (by decide) ?_
  exact sm_iret ii_td_refuse_17 rfl
set_option maxHeartbeats 4000000 in
set_option maxRecDepth 100000 in
theorem mc_td_refuse {E : Nat × (Nat → Int32)} (a1 : Int32) (w : sm_Mem) : sm_MC E mi_td_refuse [.ref 60, .int a1] w (ff_td_refuse a1 w) := sm_MC_of E (by decide +kernel) rfl (Nat.le_of_ble_eq_true rfl) (ss_td_refuse_0 a1 w)
abbrev mi_rw_begin : sm_MI := (⟨"HerOrders$Row", "begin", "(II)V"⟩, prog_4_method_3_code, 4, none, 1)
set_option maxRecDepth 100000 in
theorem mf_rw_begin : sm_MF mi_rw_begin 2 := ⟨List.mem_of_getElem? (i := 342) (by decide +kernel), List.mem_of_getElem? (i := 70) (by decide +kernel), ⟨by decide, by decide⟩, by decide +kernel⟩
set_option maxRecDepth 100000 in
theorem mv_rw_begin : sm_MFV mi_rw_begin := ⟨List.mem_of_getElem? (i := 341) (by decide +kernel), List.mem_of_getElem? (i := 2) (by decide +kernel)⟩
set_option maxRecDepth 100000 in
theorem ii_rw_begin_0 : sm_D prog_4_method_3_code 0 1 1 (.aload_n 0) := ⟨by decide +kernel, rfl⟩
set_option maxRecDepth 100000 in
theorem ii_rw_begin_1 : sm_D prog_4_method_3_code 1 1 2 (.iconst 0) := ⟨by decide +kernel, rfl⟩
set_option maxRecDepth 100000 in
theorem ii_rw_begin_2 : sm_D prog_4_method_3_code 2 1 3 (.iload_n 1) := ⟨by decide +kernel, rfl⟩
set_option maxRecDepth 100000 in
theorem ii_rw_begin_3 : sm_D prog_4_method_3_code 3 1 4 (.aload_n 0) := ⟨by decide +kernel, rfl⟩
set_option maxRecDepth 100000 in
theorem ii_rw_begin_4 : sm_D prog_4_method_3_code 4 3 7 (.getfield 15) := ⟨by decide +kernel, rfl⟩
set_option maxRecDepth 100000 in
theorem ii_rw_begin_7 : sm_D prog_4_method_3_code 7 1 8 (.arraylength) := ⟨by decide +kernel, rfl⟩
set_option maxRecDepth 100000 in
theorem ii_rw_begin_8 : sm_D prog_4_method_3_code 8 3 11 (.invokestatic 25) := ⟨by decide +kernel, rfl⟩
set_option maxRecDepth 100000 in
theorem ii_rw_begin_11 : sm_D prog_4_method_3_code 11 3 14 (.invokestatic 9) := ⟨by decide +kernel, rfl⟩
set_option maxRecDepth 100000 in
theorem ii_rw_begin_14 : sm_D prog_4_method_3_code 14 3 17 (.putfield 21) := ⟨by decide +kernel, rfl⟩
set_option maxRecDepth 100000 in
theorem ii_rw_begin_17 : sm_D prog_4_method_3_code 17 1 18 (.iconst 0) := ⟨by decide +kernel, rfl⟩
set_option maxRecDepth 100000 in
theorem ii_rw_begin_18 : sm_D prog_4_method_3_code 18 1 19 (.istore_n 3) := ⟨by decide +kernel, rfl⟩
set_option maxRecDepth 100000 in
theorem ii_rw_begin_19 : sm_D prog_4_method_3_code 19 1 20 (.iload_n 3) := ⟨by decide +kernel, rfl⟩
set_option maxRecDepth 100000 in
theorem ii_rw_begin_20 : sm_D prog_4_method_3_code 20 1 21 (.aload_n 0) := ⟨by decide +kernel, rfl⟩
set_option maxRecDepth 100000 in
theorem ii_rw_begin_21 : sm_D prog_4_method_3_code 21 3 24 (.getfield 21) := ⟨by decide +kernel, rfl⟩
set_option maxRecDepth 100000 in
theorem ii_rw_begin_24 : sm_D prog_4_method_3_code 24 3 27 (.if_icmp .ge 16) := ⟨by decide +kernel, rfl⟩
set_option maxRecDepth 100000 in
theorem ii_rw_begin_27 : sm_D prog_4_method_3_code 27 1 28 (.aload_n 0) := ⟨by decide +kernel, rfl⟩
set_option maxRecDepth 100000 in
theorem ii_rw_begin_28 : sm_D prog_4_method_3_code 28 3 31 (.getfield 15) := ⟨by decide +kernel, rfl⟩
set_option maxRecDepth 100000 in
theorem ii_rw_begin_31 : sm_D prog_4_method_3_code 31 1 32 (.iload_n 3) := ⟨by decide +kernel, rfl⟩
set_option maxRecDepth 100000 in
theorem ii_rw_begin_32 : sm_D prog_4_method_3_code 32 1 33 (.iload_n 2) := ⟨by decide +kernel, rfl⟩
set_option maxRecDepth 100000 in
theorem ii_rw_begin_33 : sm_D prog_4_method_3_code 33 1 34 (.iastore) := ⟨by decide +kernel, rfl⟩
set_option maxRecDepth 100000 in
theorem ii_rw_begin_34 : sm_D prog_4_method_3_code 34 3 37 (.iinc 3 1) := ⟨by decide +kernel, rfl⟩
set_option maxRecDepth 100000 in
theorem ii_rw_begin_37 : sm_D prog_4_method_3_code 37 3 40 (.goto (-18)) := ⟨by decide +kernel, rfl⟩
set_option maxRecDepth 100000 in
theorem ii_rw_begin_40 : sm_D prog_4_method_3_code 40 1 41 (.return_) := ⟨by decide +kernel, rfl⟩
noncomputable def ff_rw_begin_19_b  (self19 : Nat → Int32 → Int32 → sm_Mem → sm_R) (a0 : Nat) (a2 : Int32) (a3 : Int32) (w : sm_Mem) : sm_R := (Option.bind (sm_gI w a0 2 1) fun x1 => (if x1 ≤ a3 then (some (.null, w)) else (Option.bind (sm_fk a0 2 0 2) fun r2 => (Option.bind (sm_wrs w r2 a3 a2) fun w3 => self19 (a0) (a2) ((a3 + (1 : Int32))) w3))))
noncomputable def ff_rw_begin_19_f  : Nat → Nat → Int32 → Int32 → sm_Mem → sm_R
  | 0, _, _, _, _ => none
  | n + 1, a0, a2, a3, w => ff_rw_begin_19_b  (ff_rw_begin_19_f  n) a0 a2 a3 w
noncomputable def ff_rw_begin_19  (a0 : Nat) (a2 : Int32) (a3 : Int32) (w : sm_Mem) : sm_R := ff_rw_begin_19_f  sm_N a0 a2 a3 w
set_option maxHeartbeats 4000000 in
set_option maxRecDepth 100000 in
theorem ss_rw_begin_19_b {E : Nat × (Nat → Int32)}  (self19 : Nat → Int32 → Int32 → sm_Mem → sm_R) (hself19 : ∀ (a0 : Nat) (a2 : Int32) (a3 : Int32) (w : sm_Mem), sm_Sim E (mi_rw_begin) 19 [some (.ref a0), none, some (.int a2), some (.int a3)] [] w (self19 a0 a2 a3 w)) (a0 : Nat) (a2 : Int32) (a3 : Int32) (w : sm_Mem) : sm_Sim E (mi_rw_begin) 19 [some (.ref a0), none, some (.int a2), some (.int a3)] [] w (ff_rw_begin_19_b  self19 a0 a2 a3 w) := by
  unfold ff_rw_begin_19_b
  refine sm_iload_n ii_rw_begin_19 rfl ?_
  refine sm_aload_n ii_rw_begin_20 rfl ?_
  refine sm_getIs ii_rw_begin_21 fl_rw_21 (fun x1 => ?_)
  refine sm_icmp_ge 40 ii_rw_begin_24 (by decide) ?_ ?_
  · exact sm_vret ii_rw_begin_40 rfl
  · refine sm_aload_n ii_rw_begin_27 rfl ?_
    refine sm_getRs ii_rw_begin_28 fl_rw_15 (fun r2 => ?_)
    refine sm_iload_n ii_rw_begin_31 rfl ?_
    refine sm_iload_n ii_rw_begin_32 rfl ?_
    refine sm_iasts ii_rw_begin_33 (fun w3 => ?_)
    refine sm_iinc (a3 + (1 : Int32)) [some (.ref a0), none, some (.int a2), some (.int (a3 + (1 : Int32)))] ii_rw_begin_34 rfl rfl rfl rfl ?_
    refine sm_goto 19 ii_rw_begin_37 (by decide) ?_
    exact hself19 (a0) (a2) ((a3 + (1 : Int32))) w3
set_option maxHeartbeats 4000000 in
set_option maxRecDepth 100000 in
theorem ss_rw_begin_19_f {E : Nat × (Nat → Int32)}  : ∀ (n : Nat) (a0 : Nat) (a2 : Int32) (a3 : Int32) (w : sm_Mem), sm_Sim E (mi_rw_begin) 19 [some (.ref a0), none, some (.int a2), some (.int a3)] [] w (ff_rw_begin_19_f  n a0 a2 a3 w)
  | 0, _, _, _, _ => fun _ _ h => by cases h
  | n + 1, a0, a2, a3, w => ss_rw_begin_19_b  _ (ss_rw_begin_19_f  n) a0 a2 a3 w
set_option maxHeartbeats 4000000 in
set_option maxRecDepth 100000 in
theorem ss_rw_begin_19 {E : Nat × (Nat → Int32)}  (a0 : Nat) (a2 : Int32) (a3 : Int32) (w : sm_Mem) : sm_Sim E (mi_rw_begin) 19 [some (.ref a0), none, some (.int a2), some (.int a3)] [] w (ff_rw_begin_19  a0 a2 a3 w) := ss_rw_begin_19_f  sm_N a0 a2 a3 w
noncomputable def ff_rw_begin  (a0 : Nat) (a1 : Int32) (a2 : Int32) (w : sm_Mem) : sm_R := (Option.bind (sm_fk a0 2 0 2) fun r4 => (Option.bind (sm_al r4) fun x5 => (Option.bind (sm_pI w a0 2 1 (if (0 : Int32) < (if x5 < a1 then x5 else a1) then (if x5 < a1 then x5 else a1) else (0 : Int32))) fun w6 => ff_rw_begin_19 (a0) (a2) ((0 : Int32)) w6)))
set_option maxHeartbeats 4000000 in
set_option maxRecDepth 100000 in
theorem ss_rw_begin_0 {E : Nat × (Nat → Int32)}  (a0 : Nat) (a1 : Int32) (a2 : Int32) (w : sm_Mem) : sm_Sim E (mi_rw_begin) 0 [some (.ref a0), some (.int a1), some (.int a2), none] [] w (ff_rw_begin  a0 a1 a2 w) := by
  unfold ff_rw_begin
  refine sm_aload_n ii_rw_begin_0 rfl ?_
  refine sm_iconst (0 : Int32) ii_rw_begin_1 (by decide) ?_
  refine sm_iload_n ii_rw_begin_2 rfl ?_
  refine sm_aload_n ii_rw_begin_3 rfl ?_
  refine sm_getRs ii_rw_begin_4 fl_rw_15 (fun r4 => ?_)
  refine sm_alen ii_rw_begin_7 (fun x5 => ?_)
  refine sm_mmin ii_rw_begin_8 mq_rw_25 mq_st_min mq_in mq_co_min (by decide) rfl ?_
  refine sm_mmax ii_rw_begin_11 mq_rw_9 mq_st_max mq_in mq_co_max (by decide) rfl ?_
  refine sm_putIs ii_rw_begin_14 fp_rw_21 (fun w6 => ?_)
  refine sm_iconst (0 : Int32) ii_rw_begin_17 (by decide) ?_
  refine sm_istore_n [some (.ref a0), some (.int a1), some (.int a2), some (.int (0 : Int32))] ii_rw_begin_18 rfl rfl ?_
  refine sm_msk [true, false, true, true] [some (.ref a0), none, some (.int a2), some (.int (0 : Int32))] rfl ?_
  exact ss_rw_begin_19 (a0) (a2) ((0 : Int32)) w6
set_option maxHeartbeats 4000000 in
set_option maxRecDepth 100000 in
theorem mc_rw_begin {E : Nat × (Nat → Int32)} (a0 : Nat) (a1 : Int32) (a2 : Int32) (w : sm_Mem) : sm_MC E mi_rw_begin [.ref a0, .int a1, .int a2] w (ff_rw_begin a0 a1 a2 w) := sm_MC_of E (by decide +kernel) rfl (Nat.le_of_ble_eq_true rfl) (ss_rw_begin_0 a0 a1 a2 w)
abbrev mi_ho_make : sm_MI := (⟨"HerOrders", "make", "([LHerOrders$Row;III)I"⟩, prog_1_method_53_code, 5, (some .int), 2)
set_option maxRecDepth 100000 in
theorem mf_ho_make : sm_MF mi_ho_make 4 := ⟨List.mem_of_getElem? (i := 331) (by decide +kernel), List.mem_of_getElem? (i := 69) (by decide +kernel), ⟨by decide, by decide⟩, by decide +kernel⟩
set_option maxRecDepth 100000 in
theorem mv_ho_make : sm_MFV mi_ho_make := ⟨List.mem_of_getElem? (i := 330) (by decide +kernel), List.mem_of_getElem? (i := 0) (by decide +kernel)⟩
set_option maxRecDepth 100000 in
theorem ii_ho_make_0 : sm_D prog_1_method_53_code 0 1 1 (.iload_n 2) := ⟨by decide +kernel, rfl⟩
set_option maxRecDepth 100000 in
theorem ii_ho_make_1 : sm_D prog_1_method_53_code 1 1 2 (.aload_n 1) := ⟨by decide +kernel, rfl⟩
set_option maxRecDepth 100000 in
theorem ii_ho_make_2 : sm_D prog_1_method_53_code 2 1 3 (.arraylength) := ⟨by decide +kernel, rfl⟩
set_option maxRecDepth 100000 in
theorem ii_ho_make_3 : sm_D prog_1_method_53_code 3 3 6 (.invokestatic 81) := ⟨by decide +kernel, rfl⟩
set_option maxRecDepth 100000 in
theorem ii_ho_make_6 : sm_D prog_1_method_53_code 6 3 9 (.ifCond .eq 14) := ⟨by decide +kernel, rfl⟩
set_option maxRecDepth 100000 in
theorem ii_ho_make_9 : sm_D prog_1_method_53_code 9 1 10 (.iload_n 3) := ⟨by decide +kernel, rfl⟩
set_option maxRecDepth 100000 in
theorem ii_ho_make_10 : sm_D prog_1_method_53_code 10 1 11 (.aload_n 1) := ⟨by decide +kernel, rfl⟩
set_option maxRecDepth 100000 in
theorem ii_ho_make_11 : sm_D prog_1_method_53_code 11 1 12 (.iload_n 2) := ⟨by decide +kernel, rfl⟩
set_option maxRecDepth 100000 in
theorem ii_ho_make_12 : sm_D prog_1_method_53_code 12 1 13 (.aaload) := ⟨by decide +kernel, rfl⟩
set_option maxRecDepth 100000 in
theorem ii_ho_make_13 : sm_D prog_1_method_53_code 13 3 16 (.getfield 66) := ⟨by decide +kernel, rfl⟩
set_option maxRecDepth 100000 in
theorem ii_ho_make_16 : sm_D prog_1_method_53_code 16 1 17 (.arraylength) := ⟨by decide +kernel, rfl⟩
set_option maxRecDepth 100000 in
theorem ii_ho_make_17 : sm_D prog_1_method_53_code 17 3 20 (.if_icmp .le 5) := ⟨by decide +kernel, rfl⟩
set_option maxRecDepth 100000 in
theorem ii_ho_make_20 : sm_D prog_1_method_53_code 20 1 21 (.iconst (-1)) := ⟨by decide +kernel, rfl⟩
set_option maxRecDepth 100000 in
theorem ii_ho_make_21 : sm_D prog_1_method_53_code 21 1 22 (.ireturn) := ⟨by decide +kernel, rfl⟩
set_option maxRecDepth 100000 in
theorem ii_ho_make_22 : sm_D prog_1_method_53_code 22 1 23 (.iload_n 3) := ⟨by decide +kernel, rfl⟩
set_option maxRecDepth 100000 in
theorem ii_ho_make_23 : sm_D prog_1_method_53_code 23 3 26 (.ifCond .ge 12) := ⟨by decide +kernel, rfl⟩
set_option maxRecDepth 100000 in
theorem ii_ho_make_26 : sm_D prog_1_method_53_code 26 1 27 (.aload_n 0) := ⟨by decide +kernel, rfl⟩
set_option maxRecDepth 100000 in
theorem ii_ho_make_27 : sm_D prog_1_method_53_code 27 3 30 (.getfield 54) := ⟨by decide +kernel, rfl⟩
set_option maxRecDepth 100000 in
theorem ii_ho_make_30 : sm_D prog_1_method_53_code 30 1 31 (.iconst 5) := ⟨by decide +kernel, rfl⟩
set_option maxRecDepth 100000 in
theorem ii_ho_make_31 : sm_D prog_1_method_53_code 31 3 34 (.invokevirtual 85) := ⟨by decide +kernel, rfl⟩
set_option maxRecDepth 100000 in
theorem ii_ho_make_34 : sm_D prog_1_method_53_code 34 1 35 (.ireturn) := ⟨by decide +kernel, rfl⟩
set_option maxRecDepth 100000 in
theorem ii_ho_make_35 : sm_D prog_1_method_53_code 35 1 36 (.aload_n 1) := ⟨by decide +kernel, rfl⟩
set_option maxRecDepth 100000 in
theorem ii_ho_make_36 : sm_D prog_1_method_53_code 36 1 37 (.iload_n 2) := ⟨by decide +kernel, rfl⟩
set_option maxRecDepth 100000 in
theorem ii_ho_make_37 : sm_D prog_1_method_53_code 37 1 38 (.aaload) := ⟨by decide +kernel, rfl⟩
set_option maxRecDepth 100000 in
theorem ii_ho_make_38 : sm_D prog_1_method_53_code 38 1 39 (.iload_n 3) := ⟨by decide +kernel, rfl⟩
set_option maxRecDepth 100000 in
theorem ii_ho_make_39 : sm_D prog_1_method_53_code 39 2 41 (.iload 4) := ⟨by decide +kernel, rfl⟩
set_option maxRecDepth 100000 in
theorem ii_ho_make_41 : sm_D prog_1_method_53_code 41 3 44 (.invokevirtual 334) := ⟨by decide +kernel, rfl⟩
set_option maxRecDepth 100000 in
theorem ii_ho_make_44 : sm_D prog_1_method_53_code 44 1 45 (.iload_n 3) := ⟨by decide +kernel, rfl⟩
set_option maxRecDepth 100000 in
theorem ii_ho_make_45 : sm_D prog_1_method_53_code 45 1 46 (.ireturn) := ⟨by decide +kernel, rfl⟩
noncomputable def ff_ho_make  (a1 : Nat) (a2 : Int32) (a3 : Int32) (a4 : Int32) (w : sm_Mem) : sm_R := (Option.bind (sm_al a1) fun x1 => (sm_cI (ff_ho_isWithin (a2) (x1) w) fun x2 w3 => (if x2 = (0 : Int32) then (some (.int (-1 : Int32), w3)) else (Option.bind (sm_rr a1 a2) fun r4 => (Option.bind (sm_fk r4 2 0 2) fun r5 => (Option.bind (sm_al r5) fun x6 => (if a3 ≤ x6 then (if (0 : Int32) ≤ a3 then (Option.bind (sm_rr a1 a2) fun r7 => (sm_cV (sm_rc r7 2 (ff_rw_begin (r7) (a3) (a4) w3)) fun w9 => (some (.int a3, w9)))) else (sm_cI (ff_td_refuse ((5 : Int32)) w3) fun x10 w11 => (some (.int x10, w11)))) else (some (.int (-1 : Int32), w3)))))))))
set_option maxHeartbeats 4000000 in
set_option maxRecDepth 100000 in
theorem ss_ho_make_0 {E : Nat × (Nat → Int32)}  (a1 : Nat) (a2 : Int32) (a3 : Int32) (a4 : Int32) (w : sm_Mem) : sm_Sim E (mi_ho_make) 0 [some (.ref 0), some (.ref a1), some (.int a2), some (.int a3), some (.int a4)] [] w (ff_ho_make  a1 a2 a3 a4 w) := by
  unfold ff_ho_make
  refine sm_iload_n ii_ho_make_0 rfl ?_
  refine sm_aload_n ii_ho_make_1 rfl ?_
  refine sm_alen ii_ho_make_2 (fun x1 => ?_)
  refine sm_csI [.int a2, .int x1] [] rfl ii_ho_make_3 ml_ho_81 (mf_ho_isWithin) (mv_ho_isWithin) (Nat.le_of_ble_eq_true rfl) rfl rfl rfl (mc_ho_isWithin (a2) (x1) w) (fun x2 w3 => ?_)
  refine sm_if_eq 20 ii_ho_make_6 (by decide) ?_ ?_
  · refine sm_iconst (-1 : Int32) ii_ho_make_20 (by decide) ?_
    exact sm_iret ii_ho_make_21 rfl
  · refine sm_iload_n ii_ho_make_9 rfl ?_
    refine sm_aload_n ii_ho_make_10 rfl ?_
    refine sm_iload_n ii_ho_make_11 rfl ?_
    refine sm_aald ii_ho_make_12 (fun r4 => ?_)
    refine sm_getRs ii_ho_make_13 fl_ho_66 (fun r5 => ?_)
    refine sm_alen ii_ho_make_16 (fun x6 => ?_)
    refine sm_icmp_le 22 ii_ho_make_17 (by decide) ?_ ?_
    · refine sm_iload_n ii_ho_make_22 rfl ?_
      refine sm_if_ge 35 ii_ho_make_23 (by decide) ?_ ?_
      · refine sm_aload_n ii_ho_make_35 rfl ?_
        refine sm_iload_n ii_ho_make_36 rfl ?_
        refine sm_aald ii_ho_make_37 (fun r7 => ?_)
        refine sm_iload_n ii_ho_make_38 rfl ?_
        refine sm_iload ii_ho_make_39 rfl ?_
        refine sm_dvV [.int a3, .int a4] [] rfl ii_ho_make_41 ml_ho_334 (mf_rw_begin) (mv_rw_begin) (Nat.le_of_ble_eq_true rfl) rfl 2 rfl rfl rfl (mc_rw_begin (r7) (a3) (a4) w3) (fun w9 => ?_)
        refine sm_iload_n ii_ho_make_44 rfl ?_
        exact sm_iret ii_ho_make_45 rfl
      · refine sm_aload_n ii_ho_make_26 rfl ?_
        refine sm_getR 60 ii_ho_make_27 fl_ho_54 (k := 0) rfl ?_
        refine sm_iconst (5 : Int32) ii_ho_make_30 (by decide) ?_
        refine sm_cvI [.int (5 : Int32)] [] rfl ii_ho_make_31 ml_ho_85 (mf_td_refuse) (mv_td_refuse) (Nat.le_of_ble_eq_true rfl) rfl 3 rfl rfl rfl rfl (mc_td_refuse ((5 : Int32)) w3) (fun x10 w11 => ?_)
        exact sm_iret ii_ho_make_34 rfl
    · refine sm_iconst (-1 : Int32) ii_ho_make_20 (by decide) ?_
      exact sm_iret ii_ho_make_21 rfl
set_option maxHeartbeats 4000000 in
set_option maxRecDepth 100000 in
theorem mc_ho_make {E : Nat × (Nat → Int32)} (a1 : Nat) (a2 : Int32) (a3 : Int32) (a4 : Int32) (w : sm_Mem) : sm_MC E mi_ho_make [.ref 0, .ref a1, .int a2, .int a3, .int a4] w (ff_ho_make a1 a2 a3 a4 w) := sm_MC_of E (by decide +kernel) rfl (Nat.le_of_ble_eq_true rfl) (ss_ho_make_0 a1 a2 a3 a4 w)
abbrev mi_ho_text : sm_MI := (⟨"HerOrders", "text", "(II)I"⟩, prog_1_method_8_code, 3, (some .int), 3)
set_option maxRecDepth 100000 in
theorem mf_ho_text : sm_MF mi_ho_text 2 := ⟨List.mem_of_getElem? (i := 823) (by decide +kernel), List.mem_of_getElem? (i := 69) (by decide +kernel), ⟨by decide, by decide⟩, by decide +kernel⟩
set_option maxRecDepth 100000 in
theorem mv_ho_text : sm_MFV mi_ho_text := ⟨List.mem_of_getElem? (i := 821) (by decide +kernel), List.mem_of_getElem? (i := 822) (by decide +kernel)⟩
set_option maxRecDepth 100000 in
theorem ii_ho_text_0 : sm_D prog_1_method_8_code 0 1 1 (.aload_n 0) := ⟨by decide +kernel, rfl⟩
set_option maxRecDepth 100000 in
theorem ii_ho_text_1 : sm_D prog_1_method_8_code 1 1 2 (.aload_n 0) := ⟨by decide +kernel, rfl⟩
set_option maxRecDepth 100000 in
theorem ii_ho_text_2 : sm_D prog_1_method_8_code 2 3 5 (.getfield 18) := ⟨by decide +kernel, rfl⟩
set_option maxRecDepth 100000 in
theorem ii_ho_text_5 : sm_D prog_1_method_8_code 5 1 6 (.iload_n 1) := ⟨by decide +kernel, rfl⟩
set_option maxRecDepth 100000 in
theorem ii_ho_text_6 : sm_D prog_1_method_8_code 6 1 7 (.iload_n 2) := ⟨by decide +kernel, rfl⟩
set_option maxRecDepth 100000 in
theorem ii_ho_text_7 : sm_D prog_1_method_8_code 7 2 9 (.bipush 32) := ⟨by decide +kernel, rfl⟩
set_option maxRecDepth 100000 in
theorem ii_ho_text_9 : sm_D prog_1_method_8_code 9 3 12 (.invokevirtual 58) := ⟨by decide +kernel, rfl⟩
set_option maxRecDepth 100000 in
theorem ii_ho_text_12 : sm_D prog_1_method_8_code 12 1 13 (.ireturn) := ⟨by decide +kernel, rfl⟩
noncomputable def ff_ho_text  (a1 : Int32) (a2 : Int32) (w : sm_Mem) : sm_R := (sm_cI (ff_ho_make (14) (a1) (a2) ((32 : Int32)) w) fun x1 w2 => (some (.int x1, w2)))
set_option maxHeartbeats 4000000 in
set_option maxRecDepth 100000 in
theorem ss_ho_text_0 {E : Nat × (Nat → Int32)}  (a1 : Int32) (a2 : Int32) (w : sm_Mem) : sm_Sim E (mi_ho_text) 0 [some (.ref 0), some (.int a1), some (.int a2)] [] w (ff_ho_text  a1 a2 w) := by
  unfold ff_ho_text
  refine sm_aload_n ii_ho_text_0 rfl ?_
  refine sm_aload_n ii_ho_text_1 rfl ?_
  refine sm_getR 14 ii_ho_text_2 fl_ho_18 (k := 0) rfl ?_
  refine sm_iload_n ii_ho_text_5 rfl ?_
  refine sm_iload_n ii_ho_text_6 rfl ?_
  refine sm_bipush (32 : Int32) ii_ho_text_7 (by decide) ?_
  refine sm_cvI [.ref 14, .int a1, .int a2, .int (32 : Int32)] [] rfl ii_ho_text_9 ml_ho_58 (mf_ho_make) (mv_ho_make) (Nat.le_of_ble_eq_true rfl) rfl 6 rfl rfl rfl rfl (mc_ho_make (14) (a1) (a2) ((32 : Int32)) w) (fun x1 w2 => ?_)
  exact sm_iret ii_ho_text_12 rfl
set_option maxHeartbeats 4000000 in
set_option maxRecDepth 100000 in
theorem mc_ho_text {E : Nat × (Nat → Int32)} (a1 : Int32) (a2 : Int32) (w : sm_Mem) : sm_MC E mi_ho_text [.ref 0, .int a1, .int a2] w (ff_ho_text a1 a2 w) := sm_MC_of E (by decide +kernel) rfl (Nat.le_of_ble_eq_true rfl) (ss_ho_text_0 a1 a2 w)
abbrev mi_la_letter : sm_MI := (⟨"HerOrdersLaw", "letter", "(I)I"⟩, method_4_code, 1, (some .int), 1)
set_option maxRecDepth 100000 in
theorem mf_la_letter : sm_MF mi_la_letter 1 := ⟨List.mem_of_getElem? (i := 826) (by decide +kernel), List.mem_of_getElem? (i := 68) (by decide +kernel), ⟨by decide, by decide⟩, by decide +kernel⟩
set_option maxRecDepth 100000 in
theorem mv_la_letter : sm_MFS mi_la_letter := List.mem_of_getElem? (i := 825) (by decide +kernel)
set_option maxRecDepth 100000 in
theorem ii_la_letter_0 : sm_D method_4_code 0 1 1 (.iload_n 0) := ⟨by decide +kernel, rfl⟩
set_option maxRecDepth 100000 in
theorem ii_la_letter_1 : sm_D method_4_code 1 3 4 (.ifCond .ne 8) := ⟨by decide +kernel, rfl⟩
set_option maxRecDepth 100000 in
theorem ii_la_letter_4 : sm_D method_4_code 4 2 6 (.bipush 118) := ⟨by decide +kernel, rfl⟩
set_option maxRecDepth 100000 in
theorem ii_la_letter_6 : sm_D method_4_code 6 3 9 (.goto 45) := ⟨by decide +kernel, rfl⟩
set_option maxRecDepth 100000 in
theorem ii_la_letter_9 : sm_D method_4_code 9 1 10 (.iload_n 0) := ⟨by decide +kernel, rfl⟩
set_option maxRecDepth 100000 in
theorem ii_la_letter_10 : sm_D method_4_code 10 1 11 (.iconst 1) := ⟨by decide +kernel, rfl⟩
set_option maxRecDepth 100000 in
theorem ii_la_letter_11 : sm_D method_4_code 11 3 14 (.if_icmp .ne 8) := ⟨by decide +kernel, rfl⟩
set_option maxRecDepth 100000 in
theorem ii_la_letter_14 : sm_D method_4_code 14 2 16 (.bipush 112) := ⟨by decide +kernel, rfl⟩
set_option maxRecDepth 100000 in
theorem ii_la_letter_16 : sm_D method_4_code 16 3 19 (.goto 35) := ⟨by decide +kernel, rfl⟩
set_option maxRecDepth 100000 in
theorem ii_la_letter_19 : sm_D method_4_code 19 1 20 (.iload_n 0) := ⟨by decide +kernel, rfl⟩
set_option maxRecDepth 100000 in
theorem ii_la_letter_20 : sm_D method_4_code 20 1 21 (.iconst 2) := ⟨by decide +kernel, rfl⟩
set_option maxRecDepth 100000 in
theorem ii_la_letter_21 : sm_D method_4_code 21 3 24 (.if_icmp .ne 8) := ⟨by decide +kernel, rfl⟩
set_option maxRecDepth 100000 in
theorem ii_la_letter_24 : sm_D method_4_code 24 2 26 (.bipush 115) := ⟨by decide +kernel, rfl⟩
set_option maxRecDepth 100000 in
theorem ii_la_letter_26 : sm_D method_4_code 26 3 29 (.goto 25) := ⟨by decide +kernel, rfl⟩
set_option maxRecDepth 100000 in
theorem ii_la_letter_29 : sm_D method_4_code 29 1 30 (.iload_n 0) := ⟨by decide +kernel, rfl⟩
set_option maxRecDepth 100000 in
theorem ii_la_letter_30 : sm_D method_4_code 30 1 31 (.iconst 3) := ⟨by decide +kernel, rfl⟩
set_option maxRecDepth 100000 in
theorem ii_la_letter_31 : sm_D method_4_code 31 3 34 (.if_icmp .ne 8) := ⟨by decide +kernel, rfl⟩
set_option maxRecDepth 100000 in
theorem ii_la_letter_34 : sm_D method_4_code 34 2 36 (.bipush 110) := ⟨by decide +kernel, rfl⟩
set_option maxRecDepth 100000 in
theorem ii_la_letter_36 : sm_D method_4_code 36 3 39 (.goto 15) := ⟨by decide +kernel, rfl⟩
set_option maxRecDepth 100000 in
theorem ii_la_letter_39 : sm_D method_4_code 39 1 40 (.iload_n 0) := ⟨by decide +kernel, rfl⟩
set_option maxRecDepth 100000 in
theorem ii_la_letter_40 : sm_D method_4_code 40 1 41 (.iconst 4) := ⟨by decide +kernel, rfl⟩
set_option maxRecDepth 100000 in
theorem ii_la_letter_41 : sm_D method_4_code 41 3 44 (.if_icmp .ne 8) := ⟨by decide +kernel, rfl⟩
set_option maxRecDepth 100000 in
theorem ii_la_letter_44 : sm_D method_4_code 44 2 46 (.bipush 109) := ⟨by decide +kernel, rfl⟩
set_option maxRecDepth 100000 in
theorem ii_la_letter_46 : sm_D method_4_code 46 3 49 (.goto 5) := ⟨by decide +kernel, rfl⟩
set_option maxRecDepth 100000 in
theorem ii_la_letter_49 : sm_D method_4_code 49 2 51 (.bipush 99) := ⟨by decide +kernel, rfl⟩
set_option maxRecDepth 100000 in
theorem ii_la_letter_51 : sm_D method_4_code 51 1 52 (.ireturn) := ⟨by decide +kernel, rfl⟩
noncomputable def ff_la_letter  (a0 : Int32) (w : sm_Mem) : sm_R := (if a0 = (0 : Int32) then (some (.int (118 : Int32), w)) else (if a0 = (1 : Int32) then (some (.int (112 : Int32), w)) else (if a0 = (2 : Int32) then (some (.int (115 : Int32), w)) else (if a0 = (3 : Int32) then (some (.int (110 : Int32), w)) else (if a0 = (4 : Int32) then (some (.int (109 : Int32), w)) else (some (.int (99 : Int32), w)))))))
set_option maxHeartbeats 4000000 in
set_option maxRecDepth 100000 in
theorem ss_la_letter_0 {E : Nat × (Nat → Int32)}  (a0 : Int32) (w : sm_Mem) : sm_Sim E (mi_la_letter) 0 [some (.int a0)] [] w (ff_la_letter  a0 w) := by
  unfold ff_la_letter
  refine sm_iload_n ii_la_letter_0 rfl ?_
  refine sm_if_ne 9 ii_la_letter_1 (by decide) ?_ ?_
  · refine sm_bipush (118 : Int32) ii_la_letter_4 (by decide) ?_
    refine sm_goto 51 ii_la_letter_6 (by decide) ?_
    exact sm_iret ii_la_letter_51 rfl
  · refine sm_iload_n ii_la_letter_9 rfl ?_
    refine sm_iconst (1 : Int32) ii_la_letter_10 (by decide) ?_
    refine sm_icmp_ne 19 ii_la_letter_11 (by decide) ?_ ?_
    · refine sm_bipush (112 : Int32) ii_la_letter_14 (by decide) ?_
      refine sm_goto 51 ii_la_letter_16 (by decide) ?_
      exact sm_iret ii_la_letter_51 rfl
    · refine sm_iload_n ii_la_letter_19 rfl ?_
      refine sm_iconst (2 : Int32) ii_la_letter_20 (by decide) ?_
      refine sm_icmp_ne 29 ii_la_letter_21 (by decide) ?_ ?_
      · refine sm_bipush (115 : Int32) ii_la_letter_24 (by decide) ?_
        refine sm_goto 51 ii_la_letter_26 (by decide) ?_
        exact sm_iret ii_la_letter_51 rfl
      · refine sm_iload_n ii_la_letter_29 rfl ?_
        refine sm_iconst (3 : Int32) ii_la_letter_30 (by decide) ?_
        refine sm_icmp_ne 39 ii_la_letter_31 (by decide) ?_ ?_
        · refine sm_bipush (110 : Int32) ii_la_letter_34 (by decide) ?_
          refine sm_goto 51 ii_la_letter_36 (by decide) ?_
          exact sm_iret ii_la_letter_51 rfl
        · refine sm_iload_n ii_la_letter_39 rfl ?_
          refine sm_iconst (4 : Int32) ii_la_letter_40 (by decide) ?_
          refine sm_icmp_ne 49 ii_la_letter_41 (by decide) ?_ ?_
          · refine sm_bipush (109 : Int32) ii_la_letter_44 (by decide) ?_
            refine sm_goto 51 ii_la_letter_46 (by decide) ?_
            exact sm_iret ii_la_letter_51 rfl
          · refine sm_bipush (99 : Int32) ii_la_letter_49 (by decide) ?_
            exact sm_iret ii_la_letter_51 rfl
set_option maxHeartbeats 4000000 in
set_option maxRecDepth 100000 in
theorem mc_la_letter {E : Nat × (Nat → Int32)} (a0 : Int32) (w : sm_Mem) : sm_MC E mi_la_letter [.int a0] w (ff_la_letter a0 w) := sm_MC_of E (by decide +kernel) rfl (Nat.le_of_ble_eq_true rfl) (ss_la_letter_0 a0 w)
abbrev mi_rw_isMissing : sm_MI := (⟨"HerOrders$Row", "isMissing", "()Z"⟩, prog_4_method_2_code, 1, (some .boolean), 1)
set_option maxRecDepth 100000 in
theorem mf_rw_isMissing : sm_MF mi_rw_isMissing 0 := ⟨List.mem_of_getElem? (i := 361) (by decide +kernel), List.mem_of_getElem? (i := 70) (by decide +kernel), ⟨by decide, by decide⟩, by decide +kernel⟩
set_option maxRecDepth 100000 in
theorem mv_rw_isMissing : sm_MFV mi_rw_isMissing := ⟨List.mem_of_getElem? (i := 360) (by decide +kernel), List.mem_of_getElem? (i := 5) (by decide +kernel)⟩
set_option maxRecDepth 100000 in
theorem ii_rw_isMissing_0 : sm_D prog_4_method_2_code 0 1 1 (.aload_n 0) := ⟨by decide +kernel, rfl⟩
set_option maxRecDepth 100000 in
theorem ii_rw_isMissing_1 : sm_D prog_4_method_2_code 1 3 4 (.getfield 21) := ⟨by decide +kernel, rfl⟩
set_option maxRecDepth 100000 in
theorem ii_rw_isMissing_4 : sm_D prog_4_method_2_code 4 3 7 (.ifCond .ge 7) := ⟨by decide +kernel, rfl⟩
set_option maxRecDepth 100000 in
theorem ii_rw_isMissing_7 : sm_D prog_4_method_2_code 7 1 8 (.iconst 1) := ⟨by decide +kernel, rfl⟩
set_option maxRecDepth 100000 in
theorem ii_rw_isMissing_8 : sm_D prog_4_method_2_code 8 3 11 (.goto 4) := ⟨by decide +kernel, rfl⟩
set_option maxRecDepth 100000 in
theorem ii_rw_isMissing_11 : sm_D prog_4_method_2_code 11 1 12 (.iconst 0) := ⟨by decide +kernel, rfl⟩
set_option maxRecDepth 100000 in
theorem ii_rw_isMissing_12 : sm_D prog_4_method_2_code 12 1 13 (.ireturn) := ⟨by decide +kernel, rfl⟩
noncomputable def ff_rw_isMissing  (a0 : Nat) (w : sm_Mem) : sm_R := (Option.bind (sm_gI w a0 2 1) fun x1 => (if (0 : Int32) ≤ x1 then (some (.int (0 : Int32), w)) else (some (.int (1 : Int32), w))))
set_option maxHeartbeats 4000000 in
set_option maxRecDepth 100000 in
theorem ss_rw_isMissing_0 {E : Nat × (Nat → Int32)}  (a0 : Nat) (w : sm_Mem) : sm_Sim E (mi_rw_isMissing) 0 [some (.ref a0)] [] w (ff_rw_isMissing  a0 w) := by
  unfold ff_rw_isMissing
  refine sm_aload_n ii_rw_isMissing_0 rfl ?_
  refine sm_getIs ii_rw_isMissing_1 fl_rw_21 (fun x1 => ?_)
  refine sm_if_ge 11 ii_rw_isMissing_4 (by decide) ?_ ?_
  · refine sm_iconst (0 : Int32) ii_rw_isMissing_11 (by decide) ?_
    exact sm_zret1 ii_rw_isMissing_12 rfl (by decide)
  · refine sm_iconst (1 : Int32) ii_rw_isMissing_7 (by decide) ?_
    refine sm_goto 12 ii_rw_isMissing_8 (by decide) ?_
    exact sm_zret1 ii_rw_isMissing_12 rfl (by decide)
set_option maxHeartbeats 4000000 in
set_option maxRecDepth 100000 in
theorem mc_rw_isMissing {E : Nat × (Nat → Int32)} (a0 : Nat) (w : sm_Mem) : sm_MC E mi_rw_isMissing [.ref a0] w (ff_rw_isMissing a0 w) := sm_MC_of E (by decide +kernel) rfl (Nat.le_of_ble_eq_true rfl) (ss_rw_isMissing_0 a0 w)
abbrev mi_ho_refusalOfMissing : sm_MI := (⟨"HerOrders", "refusalOfMissing", "([LHerOrders$Row;I)I"⟩, prog_1_method_48_code, 3, (some .int), 2)
set_option maxRecDepth 100000 in
theorem mf_ho_refusalOfMissing : sm_MF mi_ho_refusalOfMissing 2 := ⟨List.mem_of_getElem? (i := 357) (by decide +kernel), List.mem_of_getElem? (i := 69) (by decide +kernel), ⟨by decide, by decide⟩, by decide +kernel⟩
set_option maxRecDepth 100000 in
theorem mv_ho_refusalOfMissing : sm_MFV mi_ho_refusalOfMissing := ⟨List.mem_of_getElem? (i := 356) (by decide +kernel), List.mem_of_getElem? (i := 4) (by decide +kernel)⟩
set_option maxRecDepth 100000 in
theorem ii_ho_refusalOfMissing_0 : sm_D prog_1_method_48_code 0 1 1 (.iload_n 2) := ⟨by decide +kernel, rfl⟩
set_option maxRecDepth 100000 in
theorem ii_ho_refusalOfMissing_1 : sm_D prog_1_method_48_code 1 1 2 (.aload_n 1) := ⟨by decide +kernel, rfl⟩
set_option maxRecDepth 100000 in
theorem ii_ho_refusalOfMissing_2 : sm_D prog_1_method_48_code 2 1 3 (.arraylength) := ⟨by decide +kernel, rfl⟩
set_option maxRecDepth 100000 in
theorem ii_ho_refusalOfMissing_3 : sm_D prog_1_method_48_code 3 3 6 (.invokestatic 81) := ⟨by decide +kernel, rfl⟩
set_option maxRecDepth 100000 in
theorem ii_ho_refusalOfMissing_6 : sm_D prog_1_method_48_code 6 3 9 (.ifCond .ne 5) := ⟨by decide +kernel, rfl⟩
set_option maxRecDepth 100000 in
theorem ii_ho_refusalOfMissing_9 : sm_D prog_1_method_48_code 9 1 10 (.iconst (-1)) := ⟨by decide +kernel, rfl⟩
set_option maxRecDepth 100000 in
theorem ii_ho_refusalOfMissing_10 : sm_D prog_1_method_48_code 10 1 11 (.ireturn) := ⟨by decide +kernel, rfl⟩
set_option maxRecDepth 100000 in
theorem ii_ho_refusalOfMissing_11 : sm_D prog_1_method_48_code 11 1 12 (.aload_n 1) := ⟨by decide +kernel, rfl⟩
set_option maxRecDepth 100000 in
theorem ii_ho_refusalOfMissing_12 : sm_D prog_1_method_48_code 12 1 13 (.iload_n 2) := ⟨by decide +kernel, rfl⟩
set_option maxRecDepth 100000 in
theorem ii_ho_refusalOfMissing_13 : sm_D prog_1_method_48_code 13 1 14 (.aaload) := ⟨by decide +kernel, rfl⟩
set_option maxRecDepth 100000 in
theorem ii_ho_refusalOfMissing_14 : sm_D prog_1_method_48_code 14 3 17 (.invokevirtual 89) := ⟨by decide +kernel, rfl⟩
set_option maxRecDepth 100000 in
theorem ii_ho_refusalOfMissing_17 : sm_D prog_1_method_48_code 17 3 20 (.ifCond .eq 14) := ⟨by decide +kernel, rfl⟩
set_option maxRecDepth 100000 in
theorem ii_ho_refusalOfMissing_20 : sm_D prog_1_method_48_code 20 1 21 (.aload_n 0) := ⟨by decide +kernel, rfl⟩
set_option maxRecDepth 100000 in
theorem ii_ho_refusalOfMissing_21 : sm_D prog_1_method_48_code 21 3 24 (.getfield 54) := ⟨by decide +kernel, rfl⟩
set_option maxRecDepth 100000 in
theorem ii_ho_refusalOfMissing_24 : sm_D prog_1_method_48_code 24 1 25 (.iconst 1) := ⟨by decide +kernel, rfl⟩
set_option maxRecDepth 100000 in
theorem ii_ho_refusalOfMissing_25 : sm_D prog_1_method_48_code 25 3 28 (.invokevirtual 85) := ⟨by decide +kernel, rfl⟩
set_option maxRecDepth 100000 in
theorem ii_ho_refusalOfMissing_28 : sm_D prog_1_method_48_code 28 3 31 (.goto 4) := ⟨by decide +kernel, rfl⟩
set_option maxRecDepth 100000 in
theorem ii_ho_refusalOfMissing_31 : sm_D prog_1_method_48_code 31 1 32 (.iconst 0) := ⟨by decide +kernel, rfl⟩
set_option maxRecDepth 100000 in
theorem ii_ho_refusalOfMissing_32 : sm_D prog_1_method_48_code 32 1 33 (.ireturn) := ⟨by decide +kernel, rfl⟩
noncomputable def ff_ho_refusalOfMissing  (a1 : Nat) (a2 : Int32) (w : sm_Mem) : sm_R := (Option.bind (sm_al a1) fun x1 => (sm_cI (ff_ho_isWithin (a2) (x1) w) fun x2 w3 => (if x2 = (0 : Int32) then (some (.int (-1 : Int32), w3)) else (Option.bind (sm_rr a1 a2) fun r4 => (sm_cI (sm_rc r4 2 (ff_rw_isMissing (r4) w3)) fun x5 w6 => (if x5 = (0 : Int32) then (some (.int (0 : Int32), w6)) else (sm_cI (ff_td_refuse ((1 : Int32)) w6) fun x7 w8 => (some (.int x7, w8)))))))))
set_option maxHeartbeats 4000000 in
set_option maxRecDepth 100000 in
theorem ss_ho_refusalOfMissing_0 {E : Nat × (Nat → Int32)}  (a1 : Nat) (a2 : Int32) (w : sm_Mem) : sm_Sim E (mi_ho_refusalOfMissing) 0 [some (.ref 0), some (.ref a1), some (.int a2)] [] w (ff_ho_refusalOfMissing  a1 a2 w) := by
  unfold ff_ho_refusalOfMissing
  refine sm_iload_n ii_ho_refusalOfMissing_0 rfl ?_
  refine sm_aload_n ii_ho_refusalOfMissing_1 rfl ?_
  refine sm_alen ii_ho_refusalOfMissing_2 (fun x1 => ?_)
  refine sm_csI [.int a2, .int x1] [] rfl ii_ho_refusalOfMissing_3 ml_ho_81 (mf_ho_isWithin) (mv_ho_isWithin) (Nat.le_of_ble_eq_true rfl) rfl rfl rfl (mc_ho_isWithin (a2) (x1) w) (fun x2 w3 => ?_)
  refine sm_if_ne 11 ii_ho_refusalOfMissing_6 (by decide) ?_ ?_
  · refine sm_iconst (-1 : Int32) ii_ho_refusalOfMissing_9 (by decide) ?_
    exact sm_iret ii_ho_refusalOfMissing_10 rfl
  · refine sm_aload_n ii_ho_refusalOfMissing_11 rfl ?_
    refine sm_iload_n ii_ho_refusalOfMissing_12 rfl ?_
    refine sm_aald ii_ho_refusalOfMissing_13 (fun r4 => ?_)
    refine sm_dvI [] [] rfl ii_ho_refusalOfMissing_14 ml_ho_89 (mf_rw_isMissing) (mv_rw_isMissing) (Nat.le_of_ble_eq_true rfl) rfl 2 rfl rfl rfl (mc_rw_isMissing (r4) w3) (fun x5 w6 => ?_)
    refine sm_if_eq 31 ii_ho_refusalOfMissing_17 (by decide) ?_ ?_
    · refine sm_iconst (0 : Int32) ii_ho_refusalOfMissing_31 (by decide) ?_
      exact sm_iret ii_ho_refusalOfMissing_32 rfl
    · refine sm_aload_n ii_ho_refusalOfMissing_20 rfl ?_
      refine sm_getR 60 ii_ho_refusalOfMissing_21 fl_ho_54 (k := 0) rfl ?_
      refine sm_iconst (1 : Int32) ii_ho_refusalOfMissing_24 (by decide) ?_
      refine sm_cvI [.int (1 : Int32)] [] rfl ii_ho_refusalOfMissing_25 ml_ho_85 (mf_td_refuse) (mv_td_refuse) (Nat.le_of_ble_eq_true rfl) rfl 3 rfl rfl rfl rfl (mc_td_refuse ((1 : Int32)) w6) (fun x7 w8 => ?_)
      refine sm_goto 32 ii_ho_refusalOfMissing_28 (by decide) ?_
      exact sm_iret ii_ho_refusalOfMissing_32 rfl
set_option maxHeartbeats 4000000 in
set_option maxRecDepth 100000 in
theorem mc_ho_refusalOfMissing {E : Nat × (Nat → Int32)} (a1 : Nat) (a2 : Int32) (w : sm_Mem) : sm_MC E mi_ho_refusalOfMissing [.ref 0, .ref a1, .int a2] w (ff_ho_refusalOfMissing a1 a2 w) := sm_MC_of E (by decide +kernel) rfl (Nat.le_of_ble_eq_true rfl) (ss_ho_refusalOfMissing_0 a1 a2 w)
abbrev mi_ho_refusalOfPlace : sm_MI := (⟨"HerOrders", "refusalOfPlace", "([LHerOrders$Row;II)I"⟩, prog_1_method_49_code, 5, (some .int), 3)
set_option maxRecDepth 100000 in
theorem mf_ho_refusalOfPlace : sm_MF mi_ho_refusalOfPlace 3 := ⟨List.mem_of_getElem? (i := 353) (by decide +kernel), List.mem_of_getElem? (i := 69) (by decide +kernel), ⟨by decide, by decide⟩, by decide +kernel⟩
set_option maxRecDepth 100000 in
theorem mv_ho_refusalOfPlace : sm_MFV mi_ho_refusalOfPlace := ⟨List.mem_of_getElem? (i := 352) (by decide +kernel), List.mem_of_getElem? (i := 3) (by decide +kernel)⟩
set_option maxRecDepth 100000 in
theorem ii_ho_refusalOfPlace_0 : sm_D prog_1_method_49_code 0 1 1 (.aload_n 0) := ⟨by decide +kernel, rfl⟩
set_option maxRecDepth 100000 in
theorem ii_ho_refusalOfPlace_1 : sm_D prog_1_method_49_code 1 1 2 (.aload_n 1) := ⟨by decide +kernel, rfl⟩
set_option maxRecDepth 100000 in
theorem ii_ho_refusalOfPlace_2 : sm_D prog_1_method_49_code 2 1 3 (.iload_n 2) := ⟨by decide +kernel, rfl⟩
set_option maxRecDepth 100000 in
theorem ii_ho_refusalOfPlace_3 : sm_D prog_1_method_49_code 3 3 6 (.invokevirtual 74) := ⟨by decide +kernel, rfl⟩
set_option maxRecDepth 100000 in
theorem ii_ho_refusalOfPlace_6 : sm_D prog_1_method_49_code 6 2 8 (.istore 4) := ⟨by decide +kernel, rfl⟩
set_option maxRecDepth 100000 in
theorem ii_ho_refusalOfPlace_8 : sm_D prog_1_method_49_code 8 2 10 (.iload 4) := ⟨by decide +kernel, rfl⟩
set_option maxRecDepth 100000 in
theorem ii_ho_refusalOfPlace_10 : sm_D prog_1_method_49_code 10 3 13 (.ifCond .eq 6) := ⟨by decide +kernel, rfl⟩
set_option maxRecDepth 100000 in
theorem ii_ho_refusalOfPlace_13 : sm_D prog_1_method_49_code 13 2 15 (.iload 4) := ⟨by decide +kernel, rfl⟩
set_option maxRecDepth 100000 in
theorem ii_ho_refusalOfPlace_15 : sm_D prog_1_method_49_code 15 1 16 (.ireturn) := ⟨by decide +kernel, rfl⟩
set_option maxRecDepth 100000 in
theorem ii_ho_refusalOfPlace_16 : sm_D prog_1_method_49_code 16 1 17 (.iload_n 3) := ⟨by decide +kernel, rfl⟩
set_option maxRecDepth 100000 in
theorem ii_ho_refusalOfPlace_17 : sm_D prog_1_method_49_code 17 1 18 (.aload_n 1) := ⟨by decide +kernel, rfl⟩
set_option maxRecDepth 100000 in
theorem ii_ho_refusalOfPlace_18 : sm_D prog_1_method_49_code 18 1 19 (.iload_n 2) := ⟨by decide +kernel, rfl⟩
set_option maxRecDepth 100000 in
theorem ii_ho_refusalOfPlace_19 : sm_D prog_1_method_49_code 19 1 20 (.aaload) := ⟨by decide +kernel, rfl⟩
set_option maxRecDepth 100000 in
theorem ii_ho_refusalOfPlace_20 : sm_D prog_1_method_49_code 20 3 23 (.getfield 78) := ⟨by decide +kernel, rfl⟩
set_option maxRecDepth 100000 in
theorem ii_ho_refusalOfPlace_23 : sm_D prog_1_method_49_code 23 3 26 (.invokestatic 81) := ⟨by decide +kernel, rfl⟩
set_option maxRecDepth 100000 in
theorem ii_ho_refusalOfPlace_26 : sm_D prog_1_method_49_code 26 3 29 (.ifCond .eq 7) := ⟨by decide +kernel, rfl⟩
set_option maxRecDepth 100000 in
theorem ii_ho_refusalOfPlace_29 : sm_D prog_1_method_49_code 29 1 30 (.iconst 0) := ⟨by decide +kernel, rfl⟩
set_option maxRecDepth 100000 in
theorem ii_ho_refusalOfPlace_30 : sm_D prog_1_method_49_code 30 3 33 (.goto 11) := ⟨by decide +kernel, rfl⟩
set_option maxRecDepth 100000 in
theorem ii_ho_refusalOfPlace_33 : sm_D prog_1_method_49_code 33 1 34 (.aload_n 0) := ⟨by decide +kernel, rfl⟩
set_option maxRecDepth 100000 in
theorem ii_ho_refusalOfPlace_34 : sm_D prog_1_method_49_code 34 3 37 (.getfield 54) := ⟨by decide +kernel, rfl⟩
set_option maxRecDepth 100000 in
theorem ii_ho_refusalOfPlace_37 : sm_D prog_1_method_49_code 37 1 38 (.iconst 2) := ⟨by decide +kernel, rfl⟩
set_option maxRecDepth 100000 in
theorem ii_ho_refusalOfPlace_38 : sm_D prog_1_method_49_code 38 3 41 (.invokevirtual 85) := ⟨by decide +kernel, rfl⟩
set_option maxRecDepth 100000 in
theorem ii_ho_refusalOfPlace_41 : sm_D prog_1_method_49_code 41 1 42 (.ireturn) := ⟨by decide +kernel, rfl⟩
noncomputable def ff_ho_refusalOfPlace  (a1 : Nat) (a2 : Int32) (a3 : Int32) (w : sm_Mem) : sm_R := (sm_cI (ff_ho_refusalOfMissing (a1) (a2) w) fun x1 w2 => (if x1 = (0 : Int32) then (Option.bind (sm_rr a1 a2) fun r3 => (Option.bind (sm_gI w2 r3 2 1) fun x4 => (sm_cI (ff_ho_isWithin (a3) (x4) w2) fun x5 w6 => (if x5 = (0 : Int32) then (sm_cI (ff_td_refuse ((2 : Int32)) w6) fun x7 w8 => (some (.int x7, w8))) else (some (.int (0 : Int32), w6)))))) else (some (.int x1, w2))))
set_option maxHeartbeats 4000000 in
set_option maxRecDepth 100000 in
theorem ss_ho_refusalOfPlace_0 {E : Nat × (Nat → Int32)}  (a1 : Nat) (a2 : Int32) (a3 : Int32) (w : sm_Mem) : sm_Sim E (mi_ho_refusalOfPlace) 0 [some (.ref 0), some (.ref a1), some (.int a2), some (.int a3), none] [] w (ff_ho_refusalOfPlace  a1 a2 a3 w) := by
  unfold ff_ho_refusalOfPlace
  refine sm_aload_n ii_ho_refusalOfPlace_0 rfl ?_
  refine sm_aload_n ii_ho_refusalOfPlace_1 rfl ?_
  refine sm_iload_n ii_ho_refusalOfPlace_2 rfl ?_
  refine sm_cvI [.ref a1, .int a2] [] rfl ii_ho_refusalOfPlace_3 ml_ho_74 (mf_ho_refusalOfMissing) (mv_ho_refusalOfMissing) (Nat.le_of_ble_eq_true rfl) rfl 6 rfl rfl rfl rfl (mc_ho_refusalOfMissing (a1) (a2) w) (fun x1 w2 => ?_)
  refine sm_istore [some (.ref 0), some (.ref a1), some (.int a2), some (.int a3), some (.int x1)] ii_ho_refusalOfPlace_6 rfl rfl ?_
  refine sm_iload ii_ho_refusalOfPlace_8 rfl ?_
  refine sm_if_eq 16 ii_ho_refusalOfPlace_10 (by decide) ?_ ?_
  · refine sm_iload_n ii_ho_refusalOfPlace_16 rfl ?_
    refine sm_aload_n ii_ho_refusalOfPlace_17 rfl ?_
    refine sm_iload_n ii_ho_refusalOfPlace_18 rfl ?_
    refine sm_aald ii_ho_refusalOfPlace_19 (fun r3 => ?_)
    refine sm_getIs ii_ho_refusalOfPlace_20 fl_ho_78 (fun x4 => ?_)
    refine sm_csI [.int a3, .int x4] [] rfl ii_ho_refusalOfPlace_23 ml_ho_81 (mf_ho_isWithin) (mv_ho_isWithin) (Nat.le_of_ble_eq_true rfl) rfl rfl rfl (mc_ho_isWithin (a3) (x4) w2) (fun x5 w6 => ?_)
    refine sm_if_eq 33 ii_ho_refusalOfPlace_26 (by decide) ?_ ?_
    · refine sm_aload_n ii_ho_refusalOfPlace_33 rfl ?_
      refine sm_getR 60 ii_ho_refusalOfPlace_34 fl_ho_54 (k := 0) rfl ?_
      refine sm_iconst (2 : Int32) ii_ho_refusalOfPlace_37 (by decide) ?_
      refine sm_cvI [.int (2 : Int32)] [] rfl ii_ho_refusalOfPlace_38 ml_ho_85 (mf_td_refuse) (mv_td_refuse) (Nat.le_of_ble_eq_true rfl) rfl 3 rfl rfl rfl rfl (mc_td_refuse ((2 : Int32)) w6) (fun x7 w8 => ?_)
      exact sm_iret ii_ho_refusalOfPlace_41 rfl
    · refine sm_iconst (0 : Int32) ii_ho_refusalOfPlace_29 (by decide) ?_
      refine sm_goto 41 ii_ho_refusalOfPlace_30 (by decide) ?_
      exact sm_iret ii_ho_refusalOfPlace_41 rfl
  · refine sm_iload ii_ho_refusalOfPlace_13 rfl ?_
    exact sm_iret ii_ho_refusalOfPlace_15 rfl
set_option maxHeartbeats 4000000 in
set_option maxRecDepth 100000 in
theorem mc_ho_refusalOfPlace {E : Nat × (Nat → Int32)} (a1 : Nat) (a2 : Int32) (a3 : Int32) (w : sm_Mem) : sm_MC E mi_ho_refusalOfPlace [.ref 0, .ref a1, .int a2, .int a3] w (ff_ho_refusalOfPlace a1 a2 a3 w) := sm_MC_of E (by decide +kernel) rfl (Nat.le_of_ble_eq_true rfl) (ss_ho_refusalOfPlace_0 a1 a2 a3 w)
abbrev mi_ho_put : sm_MI := (⟨"HerOrders", "put", "(III)I"⟩, prog_1_method_9_code, 6, (some .int), 4)
set_option maxRecDepth 100000 in
theorem mf_ho_put : sm_MF mi_ho_put 3 := ⟨List.mem_of_getElem? (i := 830) (by decide +kernel), List.mem_of_getElem? (i := 69) (by decide +kernel), ⟨by decide, by decide⟩, by decide +kernel⟩
set_option maxRecDepth 100000 in
theorem mv_ho_put : sm_MFV mi_ho_put := ⟨List.mem_of_getElem? (i := 828) (by decide +kernel), List.mem_of_getElem? (i := 829) (by decide +kernel)⟩
set_option maxRecDepth 100000 in
theorem ii_ho_put_0 : sm_D prog_1_method_9_code 0 1 1 (.aload_n 0) := ⟨by decide +kernel, rfl⟩
set_option maxRecDepth 100000 in
theorem ii_ho_put_1 : sm_D prog_1_method_9_code 1 1 2 (.aload_n 0) := ⟨by decide +kernel, rfl⟩
set_option maxRecDepth 100000 in
theorem ii_ho_put_2 : sm_D prog_1_method_9_code 2 3 5 (.getfield 18) := ⟨by decide +kernel, rfl⟩
set_option maxRecDepth 100000 in
theorem ii_ho_put_5 : sm_D prog_1_method_9_code 5 1 6 (.iload_n 1) := ⟨by decide +kernel, rfl⟩
set_option maxRecDepth 100000 in
theorem ii_ho_put_6 : sm_D prog_1_method_9_code 6 1 7 (.iload_n 2) := ⟨by decide +kernel, rfl⟩
set_option maxRecDepth 100000 in
theorem ii_ho_put_7 : sm_D prog_1_method_9_code 7 3 10 (.invokevirtual 62) := ⟨by decide +kernel, rfl⟩
set_option maxRecDepth 100000 in
theorem ii_ho_put_10 : sm_D prog_1_method_9_code 10 2 12 (.istore 4) := ⟨by decide +kernel, rfl⟩
set_option maxRecDepth 100000 in
theorem ii_ho_put_12 : sm_D prog_1_method_9_code 12 2 14 (.iload 4) := ⟨by decide +kernel, rfl⟩
set_option maxRecDepth 100000 in
theorem ii_ho_put_14 : sm_D prog_1_method_9_code 14 3 17 (.ifCond .eq 6) := ⟨by decide +kernel, rfl⟩
set_option maxRecDepth 100000 in
theorem ii_ho_put_17 : sm_D prog_1_method_9_code 17 2 19 (.iload 4) := ⟨by decide +kernel, rfl⟩
set_option maxRecDepth 100000 in
theorem ii_ho_put_19 : sm_D prog_1_method_9_code 19 1 20 (.ireturn) := ⟨by decide +kernel, rfl⟩
set_option maxRecDepth 100000 in
theorem ii_ho_put_20 : sm_D prog_1_method_9_code 20 1 21 (.aload_n 0) := ⟨by decide +kernel, rfl⟩
set_option maxRecDepth 100000 in
theorem ii_ho_put_21 : sm_D prog_1_method_9_code 21 3 24 (.getfield 18) := ⟨by decide +kernel, rfl⟩
set_option maxRecDepth 100000 in
theorem ii_ho_put_24 : sm_D prog_1_method_9_code 24 1 25 (.iload_n 1) := ⟨by decide +kernel, rfl⟩
set_option maxRecDepth 100000 in
theorem ii_ho_put_25 : sm_D prog_1_method_9_code 25 1 26 (.aaload) := ⟨by decide +kernel, rfl⟩
set_option maxRecDepth 100000 in
theorem ii_ho_put_26 : sm_D prog_1_method_9_code 26 3 29 (.getfield 66) := ⟨by decide +kernel, rfl⟩
set_option maxRecDepth 100000 in
theorem ii_ho_put_29 : sm_D prog_1_method_9_code 29 1 30 (.iload_n 2) := ⟨by decide +kernel, rfl⟩
set_option maxRecDepth 100000 in
theorem ii_ho_put_30 : sm_D prog_1_method_9_code 30 1 31 (.iaload) := ⟨by decide +kernel, rfl⟩
set_option maxRecDepth 100000 in
theorem ii_ho_put_31 : sm_D prog_1_method_9_code 31 2 33 (.istore 5) := ⟨by decide +kernel, rfl⟩
set_option maxRecDepth 100000 in
theorem ii_ho_put_33 : sm_D prog_1_method_9_code 33 1 34 (.aload_n 0) := ⟨by decide +kernel, rfl⟩
set_option maxRecDepth 100000 in
theorem ii_ho_put_34 : sm_D prog_1_method_9_code 34 3 37 (.getfield 18) := ⟨by decide +kernel, rfl⟩
set_option maxRecDepth 100000 in
theorem ii_ho_put_37 : sm_D prog_1_method_9_code 37 1 38 (.iload_n 1) := ⟨by decide +kernel, rfl⟩
set_option maxRecDepth 100000 in
theorem ii_ho_put_38 : sm_D prog_1_method_9_code 38 1 39 (.aaload) := ⟨by decide +kernel, rfl⟩
set_option maxRecDepth 100000 in
theorem ii_ho_put_39 : sm_D prog_1_method_9_code 39 3 42 (.getfield 66) := ⟨by decide +kernel, rfl⟩
set_option maxRecDepth 100000 in
theorem ii_ho_put_42 : sm_D prog_1_method_9_code 42 1 43 (.iload_n 2) := ⟨by decide +kernel, rfl⟩
set_option maxRecDepth 100000 in
theorem ii_ho_put_43 : sm_D prog_1_method_9_code 43 1 44 (.iload_n 3) := ⟨by decide +kernel, rfl⟩
set_option maxRecDepth 100000 in
theorem ii_ho_put_44 : sm_D prog_1_method_9_code 44 1 45 (.i2b) := ⟨by decide +kernel, rfl⟩
set_option maxRecDepth 100000 in
theorem ii_ho_put_45 : sm_D prog_1_method_9_code 45 1 46 (.iastore) := ⟨by decide +kernel, rfl⟩
set_option maxRecDepth 100000 in
theorem ii_ho_put_46 : sm_D prog_1_method_9_code 46 2 48 (.iload 5) := ⟨by decide +kernel, rfl⟩
set_option maxRecDepth 100000 in
theorem ii_ho_put_48 : sm_D prog_1_method_9_code 48 3 51 (.sipush 1000) := ⟨by decide +kernel, rfl⟩
set_option maxRecDepth 100000 in
theorem ii_ho_put_51 : sm_D prog_1_method_9_code 51 1 52 (.iadd) := ⟨by decide +kernel, rfl⟩
set_option maxRecDepth 100000 in
theorem ii_ho_put_52 : sm_D prog_1_method_9_code 52 1 53 (.ireturn) := ⟨by decide +kernel, rfl⟩
noncomputable def ff_ho_put  (a1 : Int32) (a2 : Int32) (a3 : Int32) (w : sm_Mem) : sm_R := (sm_cI (ff_ho_refusalOfPlace (14) (a1) (a2) w) fun x1 w2 => (if x1 = (0 : Int32) then (Option.bind (sm_rr 14 a1) fun r3 => (Option.bind (sm_fk r3 2 0 2) fun r4 => (Option.bind (sm_rds w2 r4 a2) fun x5 => (Option.bind (sm_rr 14 a1) fun r6 => (Option.bind (sm_fk r6 2 0 2) fun r7 => (Option.bind (sm_wrs w2 r7 a2 ((Int32.toInt8 a3).toInt32)) fun w8 => (some (.int (x5 + (1000 : Int32)), w8)))))))) else (some (.int x1, w2))))
set_option maxHeartbeats 4000000 in
set_option maxRecDepth 100000 in
theorem ss_ho_put_0 {E : Nat × (Nat → Int32)}  (a1 : Int32) (a2 : Int32) (a3 : Int32) (w : sm_Mem) : sm_Sim E (mi_ho_put) 0 [some (.ref 0), some (.int a1), some (.int a2), some (.int a3), none, none] [] w (ff_ho_put  a1 a2 a3 w) := by
  unfold ff_ho_put
  refine sm_aload_n ii_ho_put_0 rfl ?_
  refine sm_aload_n ii_ho_put_1 rfl ?_
  refine sm_getR 14 ii_ho_put_2 fl_ho_18 (k := 0) rfl ?_
  refine sm_iload_n ii_ho_put_5 rfl ?_
  refine sm_iload_n ii_ho_put_6 rfl ?_
  refine sm_cvI [.ref 14, .int a1, .int a2] [] rfl ii_ho_put_7 ml_ho_62 (mf_ho_refusalOfPlace) (mv_ho_refusalOfPlace) (Nat.le_of_ble_eq_true rfl) rfl 6 rfl rfl rfl rfl (mc_ho_refusalOfPlace (14) (a1) (a2) w) (fun x1 w2 => ?_)
  refine sm_istore [some (.ref 0), some (.int a1), some (.int a2), some (.int a3), some (.int x1), none] ii_ho_put_10 rfl rfl ?_
  refine sm_iload ii_ho_put_12 rfl ?_
  refine sm_if_eq 20 ii_ho_put_14 (by decide) ?_ ?_
  · refine sm_aload_n ii_ho_put_20 rfl ?_
    refine sm_getR 14 ii_ho_put_21 fl_ho_18 (k := 0) rfl ?_
    refine sm_iload_n ii_ho_put_24 rfl ?_
    refine sm_aald ii_ho_put_25 (fun r3 => ?_)
    refine sm_getRs ii_ho_put_26 fl_ho_66 (fun r4 => ?_)
    refine sm_iload_n ii_ho_put_29 rfl ?_
    refine sm_ialds ii_ho_put_30 (fun x5 => ?_)
    refine sm_istore [some (.ref 0), some (.int a1), some (.int a2), some (.int a3), some (.int x1), some (.int x5)] ii_ho_put_31 rfl rfl ?_
    refine sm_aload_n ii_ho_put_33 rfl ?_
    refine sm_getR 14 ii_ho_put_34 fl_ho_18 (k := 0) rfl ?_
    refine sm_iload_n ii_ho_put_37 rfl ?_
    refine sm_aald ii_ho_put_38 (fun r6 => ?_)
    refine sm_getRs ii_ho_put_39 fl_ho_66 (fun r7 => ?_)
    refine sm_iload_n ii_ho_put_42 rfl ?_
    refine sm_iload_n ii_ho_put_43 rfl ?_
    refine sm_i2b ii_ho_put_44 ?_
    refine sm_iasts ii_ho_put_45 (fun w8 => ?_)
    refine sm_iload ii_ho_put_46 rfl ?_
    refine sm_sipush (1000 : Int32) ii_ho_put_48 (by decide) ?_
    refine sm_iadd ii_ho_put_51 ?_
    exact sm_iret ii_ho_put_52 rfl
  · refine sm_iload ii_ho_put_17 rfl ?_
    exact sm_iret ii_ho_put_19 rfl
set_option maxHeartbeats 4000000 in
set_option maxRecDepth 100000 in
theorem mc_ho_put {E : Nat × (Nat → Int32)} (a1 : Int32) (a2 : Int32) (a3 : Int32) (w : sm_Mem) : sm_MC E mi_ho_put [.ref 0, .int a1, .int a2, .int a3] w (ff_ho_put a1 a2 a3 w) := sm_MC_of E (by decide +kernel) rfl (Nat.le_of_ble_eq_true rfl) (ss_ho_put_0 a1 a2 a3 w)
abbrev mi_ho_kindOf : sm_MI := (⟨"HerOrders", "kindOf", "(I)I"⟩, prog_1_method_56_code, 2, (some .int), 1)
set_option maxRecDepth 100000 in
theorem mf_ho_kindOf : sm_MF mi_ho_kindOf 1 := ⟨List.mem_of_getElem? (i := 382) (by decide +kernel), List.mem_of_getElem? (i := 69) (by decide +kernel), ⟨by decide, by decide⟩, by decide +kernel⟩
set_option maxRecDepth 100000 in
theorem mv_ho_kindOf : sm_MFS mi_ho_kindOf := List.mem_of_getElem? (i := 381) (by decide +kernel)
set_option maxRecDepth 100000 in
theorem ii_ho_kindOf_0 : sm_D prog_1_method_56_code 0 1 1 (.iconst 0) := ⟨by decide +kernel, rfl⟩
set_option maxRecDepth 100000 in
theorem ii_ho_kindOf_1 : sm_D prog_1_method_56_code 1 1 2 (.istore_n 1) := ⟨by decide +kernel, rfl⟩
set_option maxRecDepth 100000 in
theorem ii_ho_kindOf_2 : sm_D prog_1_method_56_code 2 1 3 (.iload_n 1) := ⟨by decide +kernel, rfl⟩
set_option maxRecDepth 100000 in
theorem ii_ho_kindOf_3 : sm_D prog_1_method_56_code 3 2 5 (.bipush 6) := ⟨by decide +kernel, rfl⟩
set_option maxRecDepth 100000 in
theorem ii_ho_kindOf_5 : sm_D prog_1_method_56_code 5 3 8 (.if_icmp .ge 20) := ⟨by decide +kernel, rfl⟩
set_option maxRecDepth 100000 in
theorem ii_ho_kindOf_8 : sm_D prog_1_method_56_code 8 3 11 (.getstatic 345) := ⟨by decide +kernel, rfl⟩
set_option maxRecDepth 100000 in
theorem ii_ho_kindOf_11 : sm_D prog_1_method_56_code 11 1 12 (.iload_n 1) := ⟨by decide +kernel, rfl⟩
set_option maxRecDepth 100000 in
theorem ii_ho_kindOf_12 : sm_D prog_1_method_56_code 12 1 13 (.iaload) := ⟨by decide +kernel, rfl⟩
set_option maxRecDepth 100000 in
theorem ii_ho_kindOf_13 : sm_D prog_1_method_56_code 13 1 14 (.iload_n 0) := ⟨by decide +kernel, rfl⟩
set_option maxRecDepth 100000 in
theorem ii_ho_kindOf_14 : sm_D prog_1_method_56_code 14 3 17 (.if_icmp .ne 5) := ⟨by decide +kernel, rfl⟩
set_option maxRecDepth 100000 in
theorem ii_ho_kindOf_17 : sm_D prog_1_method_56_code 17 1 18 (.iload_n 1) := ⟨by decide +kernel, rfl⟩
set_option maxRecDepth 100000 in
theorem ii_ho_kindOf_18 : sm_D prog_1_method_56_code 18 1 19 (.ireturn) := ⟨by decide +kernel, rfl⟩
set_option maxRecDepth 100000 in
theorem ii_ho_kindOf_19 : sm_D prog_1_method_56_code 19 3 22 (.iinc 1 1) := ⟨by decide +kernel, rfl⟩
set_option maxRecDepth 100000 in
theorem ii_ho_kindOf_22 : sm_D prog_1_method_56_code 22 3 25 (.goto (-20)) := ⟨by decide +kernel, rfl⟩
set_option maxRecDepth 100000 in
theorem ii_ho_kindOf_25 : sm_D prog_1_method_56_code 25 2 27 (.bipush (-9)) := ⟨by decide +kernel, rfl⟩
set_option maxRecDepth 100000 in
theorem ii_ho_kindOf_27 : sm_D prog_1_method_56_code 27 1 28 (.ireturn) := ⟨by decide +kernel, rfl⟩
noncomputable def ff_ho_kindOf_2_b  (self2 : Int32 → Int32 → sm_Mem → sm_R) (a0 : Int32) (a1 : Int32) (w : sm_Mem) : sm_R := (if (6 : Int32) ≤ a1 then (some (.int (-9 : Int32), w)) else (Option.bind (sm_kd a1) fun x1 => (if x1 = a0 then (some (.int a1, w)) else self2 (a0) ((a1 + (1 : Int32))) w)))
noncomputable def ff_ho_kindOf_2_f  : Nat → Int32 → Int32 → sm_Mem → sm_R
  | 0, _, _, _ => none
  | n + 1, a0, a1, w => ff_ho_kindOf_2_b  (ff_ho_kindOf_2_f  n) a0 a1 w
noncomputable def ff_ho_kindOf_2  (a0 : Int32) (a1 : Int32) (w : sm_Mem) : sm_R := ff_ho_kindOf_2_f  sm_N a0 a1 w
set_option maxHeartbeats 4000000 in
set_option maxRecDepth 100000 in
theorem ss_ho_kindOf_2_b {E : Nat × (Nat → Int32)}  (self2 : Int32 → Int32 → sm_Mem → sm_R) (hself2 : ∀ (a0 : Int32) (a1 : Int32) (w : sm_Mem), sm_Sim E (mi_ho_kindOf) 2 [some (.int a0), some (.int a1)] [] w (self2 a0 a1 w)) (a0 : Int32) (a1 : Int32) (w : sm_Mem) : sm_Sim E (mi_ho_kindOf) 2 [some (.int a0), some (.int a1)] [] w (ff_ho_kindOf_2_b  self2 a0 a1 w) := by
  unfold ff_ho_kindOf_2_b
  refine sm_iload_n ii_ho_kindOf_2 rfl ?_
  refine sm_bipush (6 : Int32) ii_ho_kindOf_3 (by decide) ?_
  refine sm_icmp_ge 25 ii_ho_kindOf_5 (by decide) ?_ ?_
  · refine sm_bipush (-9 : Int32) ii_ho_kindOf_25 (by decide) ?_
    exact sm_iret ii_ho_kindOf_27 rfl
  · refine sm_gst ii_ho_kindOf_8 (List.mem_of_getElem? (i := 383) (by decide +kernel)) ?_
    refine sm_iload_n ii_ho_kindOf_11 rfl ?_
    refine sm_kald ii_ho_kindOf_12 (fun x1 => ?_)
    refine sm_iload_n ii_ho_kindOf_13 rfl ?_
    refine sm_icmp_ne 19 ii_ho_kindOf_14 (by decide) ?_ ?_
    · refine sm_iload_n ii_ho_kindOf_17 rfl ?_
      exact sm_iret ii_ho_kindOf_18 rfl
    · refine sm_iinc (a1 + (1 : Int32)) [some (.int a0), some (.int (a1 + (1 : Int32)))] ii_ho_kindOf_19 rfl rfl rfl rfl ?_
      refine sm_goto 2 ii_ho_kindOf_22 (by decide) ?_
      exact hself2 (a0) ((a1 + (1 : Int32))) w
set_option maxHeartbeats 4000000 in
set_option maxRecDepth 100000 in
theorem ss_ho_kindOf_2_f {E : Nat × (Nat → Int32)}  : ∀ (n : Nat) (a0 : Int32) (a1 : Int32) (w : sm_Mem), sm_Sim E (mi_ho_kindOf) 2 [some (.int a0), some (.int a1)] [] w (ff_ho_kindOf_2_f  n a0 a1 w)
  | 0, _, _, _ => fun _ _ h => by cases h
  | n + 1, a0, a1, w => ss_ho_kindOf_2_b  _ (ss_ho_kindOf_2_f  n) a0 a1 w
set_option maxHeartbeats 4000000 in
set_option maxRecDepth 100000 in
theorem ss_ho_kindOf_2 {E : Nat × (Nat → Int32)}  (a0 : Int32) (a1 : Int32) (w : sm_Mem) : sm_Sim E (mi_ho_kindOf) 2 [some (.int a0), some (.int a1)] [] w (ff_ho_kindOf_2  a0 a1 w) := ss_ho_kindOf_2_f  sm_N a0 a1 w
noncomputable def ff_ho_kindOf  (a0 : Int32) (w : sm_Mem) : sm_R := ff_ho_kindOf_2 (a0) ((0 : Int32)) w
set_option maxHeartbeats 4000000 in
set_option maxRecDepth 100000 in
theorem ss_ho_kindOf_0 {E : Nat × (Nat → Int32)}  (a0 : Int32) (w : sm_Mem) : sm_Sim E (mi_ho_kindOf) 0 [some (.int a0), none] [] w (ff_ho_kindOf  a0 w) := by
  unfold ff_ho_kindOf
  refine sm_iconst (0 : Int32) ii_ho_kindOf_0 (by decide) ?_
  refine sm_istore_n [some (.int a0), some (.int (0 : Int32))] ii_ho_kindOf_1 rfl rfl ?_
  exact ss_ho_kindOf_2 (a0) ((0 : Int32)) w
set_option maxHeartbeats 4000000 in
set_option maxRecDepth 100000 in
theorem mc_ho_kindOf {E : Nat × (Nat → Int32)} (a0 : Int32) (w : sm_Mem) : sm_MC E mi_ho_kindOf [.int a0] w (ff_ho_kindOf a0 w) := sm_MC_of E (by decide +kernel) rfl (Nat.le_of_ble_eq_true rfl) (ss_ho_kindOf_0 a0 w)
abbrev mi_ho_faultOfItem : sm_MI := (⟨"HerOrders", "faultOfItem", "(LHerOrders$Row;I)I"⟩, prog_1_method_55_code, 8, (some .int), 2)
set_option maxRecDepth 100000 in
theorem mf_ho_faultOfItem : sm_MF mi_ho_faultOfItem 2 := ⟨List.mem_of_getElem? (i := 379) (by decide +kernel), List.mem_of_getElem? (i := 69) (by decide +kernel), ⟨by decide, by decide⟩, by decide +kernel⟩
set_option maxRecDepth 100000 in
theorem mv_ho_faultOfItem : sm_MFS mi_ho_faultOfItem := List.mem_of_getElem? (i := 378) (by decide +kernel)
set_option maxRecDepth 100000 in
theorem ii_ho_faultOfItem_0 : sm_D prog_1_method_55_code 0 1 1 (.aload_n 0) := ⟨by decide +kernel, rfl⟩
set_option maxRecDepth 100000 in
theorem ii_ho_faultOfItem_1 : sm_D prog_1_method_55_code 1 3 4 (.getfield 66) := ⟨by decide +kernel, rfl⟩
set_option maxRecDepth 100000 in
theorem ii_ho_faultOfItem_4 : sm_D prog_1_method_55_code 4 1 5 (.iload_n 1) := ⟨by decide +kernel, rfl⟩
set_option maxRecDepth 100000 in
theorem ii_ho_faultOfItem_5 : sm_D prog_1_method_55_code 5 1 6 (.iaload) := ⟨by decide +kernel, rfl⟩
set_option maxRecDepth 100000 in
theorem ii_ho_faultOfItem_6 : sm_D prog_1_method_55_code 6 3 9 (.invokestatic 342) := ⟨by decide +kernel, rfl⟩
set_option maxRecDepth 100000 in
theorem ii_ho_faultOfItem_9 : sm_D prog_1_method_55_code 9 2 11 (.bipush (-9)) := ⟨by decide +kernel, rfl⟩
set_option maxRecDepth 100000 in
theorem ii_ho_faultOfItem_11 : sm_D prog_1_method_55_code 11 3 14 (.if_icmp .ne 5) := ⟨by decide +kernel, rfl⟩
set_option maxRecDepth 100000 in
theorem ii_ho_faultOfItem_14 : sm_D prog_1_method_55_code 14 1 15 (.iload_n 1) := ⟨by decide +kernel, rfl⟩
set_option maxRecDepth 100000 in
theorem ii_ho_faultOfItem_15 : sm_D prog_1_method_55_code 15 1 16 (.ireturn) := ⟨by decide +kernel, rfl⟩
set_option maxRecDepth 100000 in
theorem ii_ho_faultOfItem_16 : sm_D prog_1_method_55_code 16 1 17 (.iconst 0) := ⟨by decide +kernel, rfl⟩
set_option maxRecDepth 100000 in
theorem ii_ho_faultOfItem_17 : sm_D prog_1_method_55_code 17 1 18 (.istore_n 2) := ⟨by decide +kernel, rfl⟩
set_option maxRecDepth 100000 in
theorem ii_ho_faultOfItem_18 : sm_D prog_1_method_55_code 18 1 19 (.iconst 1) := ⟨by decide +kernel, rfl⟩
set_option maxRecDepth 100000 in
theorem ii_ho_faultOfItem_19 : sm_D prog_1_method_55_code 19 1 20 (.istore_n 3) := ⟨by decide +kernel, rfl⟩
set_option maxRecDepth 100000 in
theorem ii_ho_faultOfItem_20 : sm_D prog_1_method_55_code 20 1 21 (.iload_n 3) := ⟨by decide +kernel, rfl⟩
set_option maxRecDepth 100000 in
theorem ii_ho_faultOfItem_21 : sm_D prog_1_method_55_code 21 1 22 (.iconst 5) := ⟨by decide +kernel, rfl⟩
set_option maxRecDepth 100000 in
theorem ii_ho_faultOfItem_22 : sm_D prog_1_method_55_code 22 3 25 (.if_icmp .ge 108) := ⟨by decide +kernel, rfl⟩
set_option maxRecDepth 100000 in
theorem ii_ho_faultOfItem_25 : sm_D prog_1_method_55_code 25 1 26 (.iload_n 1) := ⟨by decide +kernel, rfl⟩
set_option maxRecDepth 100000 in
theorem ii_ho_faultOfItem_26 : sm_D prog_1_method_55_code 26 1 27 (.iload_n 3) := ⟨by decide +kernel, rfl⟩
set_option maxRecDepth 100000 in
theorem ii_ho_faultOfItem_27 : sm_D prog_1_method_55_code 27 1 28 (.iadd) := ⟨by decide +kernel, rfl⟩
set_option maxRecDepth 100000 in
theorem ii_ho_faultOfItem_28 : sm_D prog_1_method_55_code 28 2 30 (.istore 4) := ⟨by decide +kernel, rfl⟩
set_option maxRecDepth 100000 in
theorem ii_ho_faultOfItem_30 : sm_D prog_1_method_55_code 30 2 32 (.iload 4) := ⟨by decide +kernel, rfl⟩
set_option maxRecDepth 100000 in
theorem ii_ho_faultOfItem_32 : sm_D prog_1_method_55_code 32 1 33 (.aload_n 0) := ⟨by decide +kernel, rfl⟩
set_option maxRecDepth 100000 in
theorem ii_ho_faultOfItem_33 : sm_D prog_1_method_55_code 33 3 36 (.getfield 78) := ⟨by decide +kernel, rfl⟩
set_option maxRecDepth 100000 in
theorem ii_ho_faultOfItem_36 : sm_D prog_1_method_55_code 36 3 39 (.if_icmp .lt 8) := ⟨by decide +kernel, rfl⟩
set_option maxRecDepth 100000 in
theorem ii_ho_faultOfItem_39 : sm_D prog_1_method_55_code 39 1 40 (.aload_n 0) := ⟨by decide +kernel, rfl⟩
set_option maxRecDepth 100000 in
theorem ii_ho_faultOfItem_40 : sm_D prog_1_method_55_code 40 3 43 (.getfield 78) := ⟨by decide +kernel, rfl⟩
set_option maxRecDepth 100000 in
theorem ii_ho_faultOfItem_43 : sm_D prog_1_method_55_code 43 1 44 (.ireturn) := ⟨by decide +kernel, rfl⟩
set_option maxRecDepth 100000 in
theorem ii_ho_faultOfItem_44 : sm_D prog_1_method_55_code 44 1 45 (.aload_n 0) := ⟨by decide +kernel, rfl⟩
set_option maxRecDepth 100000 in
theorem ii_ho_faultOfItem_45 : sm_D prog_1_method_55_code 45 3 48 (.getfield 66) := ⟨by decide +kernel, rfl⟩
set_option maxRecDepth 100000 in
theorem ii_ho_faultOfItem_48 : sm_D prog_1_method_55_code 48 2 50 (.iload 4) := ⟨by decide +kernel, rfl⟩
set_option maxRecDepth 100000 in
theorem ii_ho_faultOfItem_50 : sm_D prog_1_method_55_code 50 1 51 (.iaload) := ⟨by decide +kernel, rfl⟩
set_option maxRecDepth 100000 in
theorem ii_ho_faultOfItem_51 : sm_D prog_1_method_55_code 51 2 53 (.istore 5) := ⟨by decide +kernel, rfl⟩
set_option maxRecDepth 100000 in
theorem ii_ho_faultOfItem_53 : sm_D prog_1_method_55_code 53 1 54 (.iload_n 3) := ⟨by decide +kernel, rfl⟩
set_option maxRecDepth 100000 in
theorem ii_ho_faultOfItem_54 : sm_D prog_1_method_55_code 54 1 55 (.iconst 4) := ⟨by decide +kernel, rfl⟩
set_option maxRecDepth 100000 in
theorem ii_ho_faultOfItem_55 : sm_D prog_1_method_55_code 55 3 58 (.if_icmp .ne 8) := ⟨by decide +kernel, rfl⟩
set_option maxRecDepth 100000 in
theorem ii_ho_faultOfItem_58 : sm_D prog_1_method_55_code 58 2 60 (.bipush 49) := ⟨by decide +kernel, rfl⟩
set_option maxRecDepth 100000 in
theorem ii_ho_faultOfItem_60 : sm_D prog_1_method_55_code 60 3 63 (.goto 5) := ⟨by decide +kernel, rfl⟩
set_option maxRecDepth 100000 in
theorem ii_ho_faultOfItem_63 : sm_D prog_1_method_55_code 63 2 65 (.bipush 48) := ⟨by decide +kernel, rfl⟩
set_option maxRecDepth 100000 in
theorem ii_ho_faultOfItem_65 : sm_D prog_1_method_55_code 65 2 67 (.istore 6) := ⟨by decide +kernel, rfl⟩
set_option maxRecDepth 100000 in
theorem ii_ho_faultOfItem_67 : sm_D prog_1_method_55_code 67 1 68 (.iload_n 3) := ⟨by decide +kernel, rfl⟩
set_option maxRecDepth 100000 in
theorem ii_ho_faultOfItem_68 : sm_D prog_1_method_55_code 68 1 69 (.iconst 3) := ⟨by decide +kernel, rfl⟩
set_option maxRecDepth 100000 in
theorem ii_ho_faultOfItem_69 : sm_D prog_1_method_55_code 69 3 72 (.if_icmp .ne 8) := ⟨by decide +kernel, rfl⟩
set_option maxRecDepth 100000 in
theorem ii_ho_faultOfItem_72 : sm_D prog_1_method_55_code 72 2 74 (.bipush 53) := ⟨by decide +kernel, rfl⟩
set_option maxRecDepth 100000 in
theorem ii_ho_faultOfItem_74 : sm_D prog_1_method_55_code 74 3 77 (.goto 5) := ⟨by decide +kernel, rfl⟩
set_option maxRecDepth 100000 in
theorem ii_ho_faultOfItem_77 : sm_D prog_1_method_55_code 77 2 79 (.bipush 57) := ⟨by decide +kernel, rfl⟩
set_option maxRecDepth 100000 in
theorem ii_ho_faultOfItem_79 : sm_D prog_1_method_55_code 79 2 81 (.istore 7) := ⟨by decide +kernel, rfl⟩
set_option maxRecDepth 100000 in
theorem ii_ho_faultOfItem_81 : sm_D prog_1_method_55_code 81 2 83 (.iload 5) := ⟨by decide +kernel, rfl⟩
set_option maxRecDepth 100000 in
theorem ii_ho_faultOfItem_83 : sm_D prog_1_method_55_code 83 2 85 (.iload 6) := ⟨by decide +kernel, rfl⟩
set_option maxRecDepth 100000 in
theorem ii_ho_faultOfItem_85 : sm_D prog_1_method_55_code 85 3 88 (.if_icmp .lt 10) := ⟨by decide +kernel, rfl⟩
set_option maxRecDepth 100000 in
theorem ii_ho_faultOfItem_88 : sm_D prog_1_method_55_code 88 2 90 (.iload 5) := ⟨by decide +kernel, rfl⟩
set_option maxRecDepth 100000 in
theorem ii_ho_faultOfItem_90 : sm_D prog_1_method_55_code 90 2 92 (.iload 7) := ⟨by decide +kernel, rfl⟩
set_option maxRecDepth 100000 in
theorem ii_ho_faultOfItem_92 : sm_D prog_1_method_55_code 92 3 95 (.if_icmp .le 6) := ⟨by decide +kernel, rfl⟩
set_option maxRecDepth 100000 in
theorem ii_ho_faultOfItem_95 : sm_D prog_1_method_55_code 95 2 97 (.iload 4) := ⟨by decide +kernel, rfl⟩
set_option maxRecDepth 100000 in
theorem ii_ho_faultOfItem_97 : sm_D prog_1_method_55_code 97 1 98 (.ireturn) := ⟨by decide +kernel, rfl⟩
set_option maxRecDepth 100000 in
theorem ii_ho_faultOfItem_98 : sm_D prog_1_method_55_code 98 2 100 (.bipush 10) := ⟨by decide +kernel, rfl⟩
set_option maxRecDepth 100000 in
theorem ii_ho_faultOfItem_100 : sm_D prog_1_method_55_code 100 1 101 (.iload_n 2) := ⟨by decide +kernel, rfl⟩
set_option maxRecDepth 100000 in
theorem ii_ho_faultOfItem_101 : sm_D prog_1_method_55_code 101 1 102 (.imul) := ⟨by decide +kernel, rfl⟩
set_option maxRecDepth 100000 in
theorem ii_ho_faultOfItem_102 : sm_D prog_1_method_55_code 102 2 104 (.iload 5) := ⟨by decide +kernel, rfl⟩
set_option maxRecDepth 100000 in
theorem ii_ho_faultOfItem_104 : sm_D prog_1_method_55_code 104 1 105 (.iadd) := ⟨by decide +kernel, rfl⟩
set_option maxRecDepth 100000 in
theorem ii_ho_faultOfItem_105 : sm_D prog_1_method_55_code 105 2 107 (.bipush 48) := ⟨by decide +kernel, rfl⟩
set_option maxRecDepth 100000 in
theorem ii_ho_faultOfItem_107 : sm_D prog_1_method_55_code 107 1 108 (.isub) := ⟨by decide +kernel, rfl⟩
set_option maxRecDepth 100000 in
theorem ii_ho_faultOfItem_108 : sm_D prog_1_method_55_code 108 1 109 (.istore_n 2) := ⟨by decide +kernel, rfl⟩
set_option maxRecDepth 100000 in
theorem ii_ho_faultOfItem_109 : sm_D prog_1_method_55_code 109 1 110 (.iload_n 3) := ⟨by decide +kernel, rfl⟩
set_option maxRecDepth 100000 in
theorem ii_ho_faultOfItem_110 : sm_D prog_1_method_55_code 110 1 111 (.iconst 2) := ⟨by decide +kernel, rfl⟩
set_option maxRecDepth 100000 in
theorem ii_ho_faultOfItem_111 : sm_D prog_1_method_55_code 111 3 114 (.if_icmp .ne 13) := ⟨by decide +kernel, rfl⟩
set_option maxRecDepth 100000 in
theorem ii_ho_faultOfItem_114 : sm_D prog_1_method_55_code 114 1 115 (.iload_n 2) := ⟨by decide +kernel, rfl⟩
set_option maxRecDepth 100000 in
theorem ii_ho_faultOfItem_115 : sm_D prog_1_method_55_code 115 2 117 (.bipush 63) := ⟨by decide +kernel, rfl⟩
set_option maxRecDepth 100000 in
theorem ii_ho_faultOfItem_117 : sm_D prog_1_method_55_code 117 3 120 (.if_icmp .le 7) := ⟨by decide +kernel, rfl⟩
set_option maxRecDepth 100000 in
theorem ii_ho_faultOfItem_120 : sm_D prog_1_method_55_code 120 1 121 (.iload_n 1) := ⟨by decide +kernel, rfl⟩
set_option maxRecDepth 100000 in
theorem ii_ho_faultOfItem_121 : sm_D prog_1_method_55_code 121 1 122 (.iconst 1) := ⟨by decide +kernel, rfl⟩
set_option maxRecDepth 100000 in
theorem ii_ho_faultOfItem_122 : sm_D prog_1_method_55_code 122 1 123 (.iadd) := ⟨by decide +kernel, rfl⟩
set_option maxRecDepth 100000 in
theorem ii_ho_faultOfItem_123 : sm_D prog_1_method_55_code 123 1 124 (.ireturn) := ⟨by decide +kernel, rfl⟩
set_option maxRecDepth 100000 in
theorem ii_ho_faultOfItem_124 : sm_D prog_1_method_55_code 124 3 127 (.iinc 3 1) := ⟨by decide +kernel, rfl⟩
set_option maxRecDepth 100000 in
theorem ii_ho_faultOfItem_127 : sm_D prog_1_method_55_code 127 3 130 (.goto (-107)) := ⟨by decide +kernel, rfl⟩
set_option maxRecDepth 100000 in
theorem ii_ho_faultOfItem_130 : sm_D prog_1_method_55_code 130 2 132 (.bipush (-9)) := ⟨by decide +kernel, rfl⟩
set_option maxRecDepth 100000 in
theorem ii_ho_faultOfItem_132 : sm_D prog_1_method_55_code 132 1 133 (.ireturn) := ⟨by decide +kernel, rfl⟩
noncomputable def ff_ho_faultOfItem_79 (self20 : Nat → Int32 → Int32 → Int32 → sm_Mem → sm_R) (a0 : Nat) (a1 : Int32) (a2 : Int32) (a3 : Int32) (a4 : Int32) (a5 : Int32) (a6 : Int32) (b0 : Int32) (w : sm_Mem) : sm_R := (if a5 < a6 then (some (.int a4, w)) else (if a5 ≤ b0 then (if a3 = (2 : Int32) then (if ((((10 : Int32) * a2) + a5) - (48 : Int32)) ≤ (63 : Int32) then self20 (a0) (a1) (((((10 : Int32) * a2) + a5) - (48 : Int32))) ((a3 + (1 : Int32))) w else (some (.int (a1 + (1 : Int32)), w))) else self20 (a0) (a1) (((((10 : Int32) * a2) + a5) - (48 : Int32))) ((a3 + (1 : Int32))) w) else (some (.int a4, w))))
set_option maxHeartbeats 4000000 in
set_option maxRecDepth 100000 in
theorem ss_ho_faultOfItem_79 {E : Nat × (Nat → Int32)} (self20 : Nat → Int32 → Int32 → Int32 → sm_Mem → sm_R) (hself20 : ∀ (a0 : Nat) (a1 : Int32) (a2 : Int32) (a3 : Int32) (w : sm_Mem), sm_Sim E (mi_ho_faultOfItem) 20 [some (.ref a0), some (.int a1), some (.int a2), some (.int a3), none, none, none, none] [] w (self20 a0 a1 a2 a3 w)) (a0 : Nat) (a1 : Int32) (a2 : Int32) (a3 : Int32) (a4 : Int32) (a5 : Int32) (a6 : Int32) (b0 : Int32) (w : sm_Mem) : sm_Sim E (mi_ho_faultOfItem) 79 [some (.ref a0), some (.int a1), some (.int a2), some (.int a3), some (.int a4), some (.int a5), some (.int a6), none] [.int b0] w (ff_ho_faultOfItem_79 self20 a0 a1 a2 a3 a4 a5 a6 b0 w) := by
  unfold ff_ho_faultOfItem_79
  refine sm_istore [some (.ref a0), some (.int a1), some (.int a2), some (.int a3), some (.int a4), some (.int a5), some (.int a6), some (.int b0)] ii_ho_faultOfItem_79 rfl rfl ?_
  refine sm_iload ii_ho_faultOfItem_81 rfl ?_
  refine sm_iload ii_ho_faultOfItem_83 rfl ?_
  refine sm_icmp_lt 95 ii_ho_faultOfItem_85 (by decide) ?_ ?_
  · refine sm_iload ii_ho_faultOfItem_95 rfl ?_
    exact sm_iret ii_ho_faultOfItem_97 rfl
  · refine sm_iload ii_ho_faultOfItem_88 rfl ?_
    refine sm_iload ii_ho_faultOfItem_90 rfl ?_
    refine sm_icmp_le 98 ii_ho_faultOfItem_92 (by decide) ?_ ?_
    · refine sm_bipush (10 : Int32) ii_ho_faultOfItem_98 (by decide) ?_
      refine sm_iload_n ii_ho_faultOfItem_100 rfl ?_
      refine sm_imul ii_ho_faultOfItem_101 ?_
      refine sm_iload ii_ho_faultOfItem_102 rfl ?_
      refine sm_iadd ii_ho_faultOfItem_104 ?_
      refine sm_bipush (48 : Int32) ii_ho_faultOfItem_105 (by decide) ?_
      refine sm_isub ii_ho_faultOfItem_107 ?_
      refine sm_istore_n [some (.ref a0), some (.int a1), some (.int ((((10 : Int32) * a2) + a5) - (48 : Int32))), some (.int a3), some (.int a4), some (.int a5), some (.int a6), some (.int b0)] ii_ho_faultOfItem_108 rfl rfl ?_
      refine sm_iload_n ii_ho_faultOfItem_109 rfl ?_
      refine sm_iconst (2 : Int32) ii_ho_faultOfItem_110 (by decide) ?_
      refine sm_icmp_ne 124 ii_ho_faultOfItem_111 (by decide) ?_ ?_
      · refine sm_iload_n ii_ho_faultOfItem_114 rfl ?_
        refine sm_bipush (63 : Int32) ii_ho_faultOfItem_115 (by decide) ?_
        refine sm_icmp_le 124 ii_ho_faultOfItem_117 (by decide) ?_ ?_
        · refine sm_iinc (a3 + (1 : Int32)) [some (.ref a0), some (.int a1), some (.int ((((10 : Int32) * a2) + a5) - (48 : Int32))), some (.int (a3 + (1 : Int32))), some (.int a4), some (.int a5), some (.int a6), some (.int b0)] ii_ho_faultOfItem_124 rfl rfl rfl rfl ?_
          refine sm_goto 20 ii_ho_faultOfItem_127 (by decide) ?_
          refine sm_msk [true, true, true, true, false, false, false, false] [some (.ref a0), some (.int a1), some (.int ((((10 : Int32) * a2) + a5) - (48 : Int32))), some (.int (a3 + (1 : Int32))), none, none, none, none] rfl ?_
          exact hself20 (a0) (a1) (((((10 : Int32) * a2) + a5) - (48 : Int32))) ((a3 + (1 : Int32))) w
        · refine sm_iload_n ii_ho_faultOfItem_120 rfl ?_
          refine sm_iconst (1 : Int32) ii_ho_faultOfItem_121 (by decide) ?_
          refine sm_iadd ii_ho_faultOfItem_122 ?_
          exact sm_iret ii_ho_faultOfItem_123 rfl
      · refine sm_iinc (a3 + (1 : Int32)) [some (.ref a0), some (.int a1), some (.int ((((10 : Int32) * a2) + a5) - (48 : Int32))), some (.int (a3 + (1 : Int32))), some (.int a4), some (.int a5), some (.int a6), some (.int b0)] ii_ho_faultOfItem_124 rfl rfl rfl rfl ?_
        refine sm_goto 20 ii_ho_faultOfItem_127 (by decide) ?_
        refine sm_msk [true, true, true, true, false, false, false, false] [some (.ref a0), some (.int a1), some (.int ((((10 : Int32) * a2) + a5) - (48 : Int32))), some (.int (a3 + (1 : Int32))), none, none, none, none] rfl ?_
        exact hself20 (a0) (a1) (((((10 : Int32) * a2) + a5) - (48 : Int32))) ((a3 + (1 : Int32))) w
    · refine sm_iload ii_ho_faultOfItem_95 rfl ?_
      exact sm_iret ii_ho_faultOfItem_97 rfl
noncomputable def ff_ho_faultOfItem_65 (self20 : Nat → Int32 → Int32 → Int32 → sm_Mem → sm_R) (a0 : Nat) (a1 : Int32) (a2 : Int32) (a3 : Int32) (a4 : Int32) (a5 : Int32) (b0 : Int32) (w : sm_Mem) : sm_R := (if a3 = (3 : Int32) then ff_ho_faultOfItem_79 self20 (a0) (a1) (a2) (a3) (a4) (a5) (b0) ((53 : Int32)) w else ff_ho_faultOfItem_79 self20 (a0) (a1) (a2) (a3) (a4) (a5) (b0) ((57 : Int32)) w)
set_option maxHeartbeats 4000000 in
set_option maxRecDepth 100000 in
theorem ss_ho_faultOfItem_65 {E : Nat × (Nat → Int32)} (self20 : Nat → Int32 → Int32 → Int32 → sm_Mem → sm_R) (hself20 : ∀ (a0 : Nat) (a1 : Int32) (a2 : Int32) (a3 : Int32) (w : sm_Mem), sm_Sim E (mi_ho_faultOfItem) 20 [some (.ref a0), some (.int a1), some (.int a2), some (.int a3), none, none, none, none] [] w (self20 a0 a1 a2 a3 w)) (a0 : Nat) (a1 : Int32) (a2 : Int32) (a3 : Int32) (a4 : Int32) (a5 : Int32) (b0 : Int32) (w : sm_Mem) : sm_Sim E (mi_ho_faultOfItem) 65 [some (.ref a0), some (.int a1), some (.int a2), some (.int a3), some (.int a4), some (.int a5), none, none] [.int b0] w (ff_ho_faultOfItem_65 self20 a0 a1 a2 a3 a4 a5 b0 w) := by
  unfold ff_ho_faultOfItem_65
  refine sm_istore [some (.ref a0), some (.int a1), some (.int a2), some (.int a3), some (.int a4), some (.int a5), some (.int b0), none] ii_ho_faultOfItem_65 rfl rfl ?_
  refine sm_iload_n ii_ho_faultOfItem_67 rfl ?_
  refine sm_iconst (3 : Int32) ii_ho_faultOfItem_68 (by decide) ?_
  refine sm_icmp_ne 77 ii_ho_faultOfItem_69 (by decide) ?_ ?_
  · refine sm_bipush (53 : Int32) ii_ho_faultOfItem_72 (by decide) ?_
    refine sm_goto 79 ii_ho_faultOfItem_74 (by decide) ?_
    exact ss_ho_faultOfItem_79 self20 hself20 (a0) (a1) (a2) (a3) (a4) (a5) (b0) ((53 : Int32)) w
  · refine sm_bipush (57 : Int32) ii_ho_faultOfItem_77 (by decide) ?_
    exact ss_ho_faultOfItem_79 self20 hself20 (a0) (a1) (a2) (a3) (a4) (a5) (b0) ((57 : Int32)) w
noncomputable def ff_ho_faultOfItem_20_b  (self20 : Nat → Int32 → Int32 → Int32 → sm_Mem → sm_R) (a0 : Nat) (a1 : Int32) (a2 : Int32) (a3 : Int32) (w : sm_Mem) : sm_R := (if (5 : Int32) ≤ a3 then (some (.int (-9 : Int32), w)) else (Option.bind (sm_gI w a0 2 1) fun x1 => (if (a1 + a3) < x1 then (Option.bind (sm_fk a0 2 0 2) fun r2 => (Option.bind (sm_rds w r2 (a1 + a3)) fun x3 => (if a3 = (4 : Int32) then ff_ho_faultOfItem_65 self20 (a0) (a1) (a2) (a3) ((a1 + a3)) (x3) ((49 : Int32)) w else ff_ho_faultOfItem_65 self20 (a0) (a1) (a2) (a3) ((a1 + a3)) (x3) ((48 : Int32)) w))) else (Option.bind (sm_gI w a0 2 1) fun x4 => (some (.int x4, w))))))
noncomputable def ff_ho_faultOfItem_20_f  : Nat → Nat → Int32 → Int32 → Int32 → sm_Mem → sm_R
  | 0, _, _, _, _, _ => none
  | n + 1, a0, a1, a2, a3, w => ff_ho_faultOfItem_20_b  (ff_ho_faultOfItem_20_f  n) a0 a1 a2 a3 w
noncomputable def ff_ho_faultOfItem_20  (a0 : Nat) (a1 : Int32) (a2 : Int32) (a3 : Int32) (w : sm_Mem) : sm_R := ff_ho_faultOfItem_20_f  sm_N a0 a1 a2 a3 w
set_option maxHeartbeats 4000000 in
set_option maxRecDepth 100000 in
theorem ss_ho_faultOfItem_20_b {E : Nat × (Nat → Int32)}  (self20 : Nat → Int32 → Int32 → Int32 → sm_Mem → sm_R) (hself20 : ∀ (a0 : Nat) (a1 : Int32) (a2 : Int32) (a3 : Int32) (w : sm_Mem), sm_Sim E (mi_ho_faultOfItem) 20 [some (.ref a0), some (.int a1), some (.int a2), some (.int a3), none, none, none, none] [] w (self20 a0 a1 a2 a3 w)) (a0 : Nat) (a1 : Int32) (a2 : Int32) (a3 : Int32) (w : sm_Mem) : sm_Sim E (mi_ho_faultOfItem) 20 [some (.ref a0), some (.int a1), some (.int a2), some (.int a3), none, none, none, none] [] w (ff_ho_faultOfItem_20_b  self20 a0 a1 a2 a3 w) := by
  unfold ff_ho_faultOfItem_20_b
  refine sm_iload_n ii_ho_faultOfItem_20 rfl ?_
  refine sm_iconst (5 : Int32) ii_ho_faultOfItem_21 (by decide) ?_
  refine sm_icmp_ge 130 ii_ho_faultOfItem_22 (by decide) ?_ ?_
  · refine sm_bipush (-9 : Int32) ii_ho_faultOfItem_130 (by decide) ?_
    exact sm_iret ii_ho_faultOfItem_132 rfl
  · refine sm_iload_n ii_ho_faultOfItem_25 rfl ?_
    refine sm_iload_n ii_ho_faultOfItem_26 rfl ?_
    refine sm_iadd ii_ho_faultOfItem_27 ?_
    refine sm_istore [some (.ref a0), some (.int a1), some (.int a2), some (.int a3), some (.int (a1 + a3)), none, none, none] ii_ho_faultOfItem_28 rfl rfl ?_
    refine sm_iload ii_ho_faultOfItem_30 rfl ?_
    refine sm_aload_n ii_ho_faultOfItem_32 rfl ?_
    refine sm_getIs ii_ho_faultOfItem_33 fl_ho_78 (fun x1 => ?_)
    refine sm_icmp_lt 44 ii_ho_faultOfItem_36 (by decide) ?_ ?_
    · refine sm_aload_n ii_ho_faultOfItem_44 rfl ?_
      refine sm_getRs ii_ho_faultOfItem_45 fl_ho_66 (fun r2 => ?_)
      refine sm_iload ii_ho_faultOfItem_48 rfl ?_
      refine sm_ialds ii_ho_faultOfItem_50 (fun x3 => ?_)
      refine sm_istore [some (.ref a0), some (.int a1), some (.int a2), some (.int a3), some (.int (a1 + a3)), some (.int x3), none, none] ii_ho_faultOfItem_51 rfl rfl ?_
      refine sm_iload_n ii_ho_faultOfItem_53 rfl ?_
      refine sm_iconst (4 : Int32) ii_ho_faultOfItem_54 (by decide) ?_
      refine sm_icmp_ne 63 ii_ho_faultOfItem_55 (by decide) ?_ ?_
      · refine sm_bipush (49 : Int32) ii_ho_faultOfItem_58 (by decide) ?_
        refine sm_goto 65 ii_ho_faultOfItem_60 (by decide) ?_
        exact ss_ho_faultOfItem_65 self20 hself20 (a0) (a1) (a2) (a3) ((a1 + a3)) (x3) ((49 : Int32)) w
      · refine sm_bipush (48 : Int32) ii_ho_faultOfItem_63 (by decide) ?_
        exact ss_ho_faultOfItem_65 self20 hself20 (a0) (a1) (a2) (a3) ((a1 + a3)) (x3) ((48 : Int32)) w
    · refine sm_aload_n ii_ho_faultOfItem_39 rfl ?_
      refine sm_getIs ii_ho_faultOfItem_40 fl_ho_78 (fun x4 => ?_)
      exact sm_iret ii_ho_faultOfItem_43 rfl
set_option maxHeartbeats 4000000 in
set_option maxRecDepth 100000 in
theorem ss_ho_faultOfItem_20_f {E : Nat × (Nat → Int32)}  : ∀ (n : Nat) (a0 : Nat) (a1 : Int32) (a2 : Int32) (a3 : Int32) (w : sm_Mem), sm_Sim E (mi_ho_faultOfItem) 20 [some (.ref a0), some (.int a1), some (.int a2), some (.int a3), none, none, none, none] [] w (ff_ho_faultOfItem_20_f  n a0 a1 a2 a3 w)
  | 0, _, _, _, _, _ => fun _ _ h => by cases h
  | n + 1, a0, a1, a2, a3, w => ss_ho_faultOfItem_20_b  _ (ss_ho_faultOfItem_20_f  n) a0 a1 a2 a3 w
set_option maxHeartbeats 4000000 in
set_option maxRecDepth 100000 in
theorem ss_ho_faultOfItem_20 {E : Nat × (Nat → Int32)}  (a0 : Nat) (a1 : Int32) (a2 : Int32) (a3 : Int32) (w : sm_Mem) : sm_Sim E (mi_ho_faultOfItem) 20 [some (.ref a0), some (.int a1), some (.int a2), some (.int a3), none, none, none, none] [] w (ff_ho_faultOfItem_20  a0 a1 a2 a3 w) := ss_ho_faultOfItem_20_f  sm_N a0 a1 a2 a3 w
noncomputable def ff_ho_faultOfItem  (a0 : Nat) (a1 : Int32) (w : sm_Mem) : sm_R := (Option.bind (sm_fk a0 2 0 2) fun r5 => (Option.bind (sm_rds w r5 a1) fun x6 => (sm_cI (ff_ho_kindOf (x6) w) fun x7 w8 => (if x7 = (-9 : Int32) then (some (.int a1, w8)) else ff_ho_faultOfItem_20 (a0) (a1) ((0 : Int32)) ((1 : Int32)) w8))))
set_option maxHeartbeats 4000000 in
set_option maxRecDepth 100000 in
theorem ss_ho_faultOfItem_0 {E : Nat × (Nat → Int32)}  (a0 : Nat) (a1 : Int32) (w : sm_Mem) : sm_Sim E (mi_ho_faultOfItem) 0 [some (.ref a0), some (.int a1), none, none, none, none, none, none] [] w (ff_ho_faultOfItem  a0 a1 w) := by
  unfold ff_ho_faultOfItem
  refine sm_aload_n ii_ho_faultOfItem_0 rfl ?_
  refine sm_getRs ii_ho_faultOfItem_1 fl_ho_66 (fun r5 => ?_)
  refine sm_iload_n ii_ho_faultOfItem_4 rfl ?_
  refine sm_ialds ii_ho_faultOfItem_5 (fun x6 => ?_)
  refine sm_csI [.int x6] [] rfl ii_ho_faultOfItem_6 ml_ho_342 (mf_ho_kindOf) (mv_ho_kindOf) (Nat.le_of_ble_eq_true rfl) rfl rfl rfl (mc_ho_kindOf (x6) w) (fun x7 w8 => ?_)
  refine sm_bipush (-9 : Int32) ii_ho_faultOfItem_9 (by decide) ?_
  refine sm_icmp_ne 16 ii_ho_faultOfItem_11 (by decide) ?_ ?_
  · refine sm_iload_n ii_ho_faultOfItem_14 rfl ?_
    exact sm_iret ii_ho_faultOfItem_15 rfl
  · refine sm_iconst (0 : Int32) ii_ho_faultOfItem_16 (by decide) ?_
    refine sm_istore_n [some (.ref a0), some (.int a1), some (.int (0 : Int32)), none, none, none, none, none] ii_ho_faultOfItem_17 rfl rfl ?_
    refine sm_iconst (1 : Int32) ii_ho_faultOfItem_18 (by decide) ?_
    refine sm_istore_n [some (.ref a0), some (.int a1), some (.int (0 : Int32)), some (.int (1 : Int32)), none, none, none, none] ii_ho_faultOfItem_19 rfl rfl ?_
    exact ss_ho_faultOfItem_20 (a0) (a1) ((0 : Int32)) ((1 : Int32)) w8
set_option maxHeartbeats 4000000 in
set_option maxRecDepth 100000 in
theorem mc_ho_faultOfItem {E : Nat × (Nat → Int32)} (a0 : Nat) (a1 : Int32) (w : sm_Mem) : sm_MC E mi_ho_faultOfItem [.ref a0, .int a1] w (ff_ho_faultOfItem a0 a1 w) := sm_MC_of E (by decide +kernel) rfl (Nat.le_of_ble_eq_true rfl) (ss_ho_faultOfItem_0 a0 a1 w)
abbrev mi_ho_faultOf : sm_MI := (⟨"HerOrders", "faultOf", "(LHerOrders$Row;)I"⟩, prog_1_method_54_code, 4, (some .int), 3)
set_option maxRecDepth 100000 in
theorem mf_ho_faultOf : sm_MF mi_ho_faultOf 1 := ⟨List.mem_of_getElem? (i := 376) (by decide +kernel), List.mem_of_getElem? (i := 69) (by decide +kernel), ⟨by decide, by decide⟩, by decide +kernel⟩
set_option maxRecDepth 100000 in
theorem mv_ho_faultOf : sm_MFS mi_ho_faultOf := List.mem_of_getElem? (i := 375) (by decide +kernel)
set_option maxRecDepth 100000 in
theorem ii_ho_faultOf_0 : sm_D prog_1_method_54_code 0 1 1 (.iconst 0) := ⟨by decide +kernel, rfl⟩
set_option maxRecDepth 100000 in
theorem ii_ho_faultOf_1 : sm_D prog_1_method_54_code 1 1 2 (.istore_n 1) := ⟨by decide +kernel, rfl⟩
set_option maxRecDepth 100000 in
theorem ii_ho_faultOf_2 : sm_D prog_1_method_54_code 2 1 3 (.iconst 0) := ⟨by decide +kernel, rfl⟩
set_option maxRecDepth 100000 in
theorem ii_ho_faultOf_3 : sm_D prog_1_method_54_code 3 1 4 (.istore_n 2) := ⟨by decide +kernel, rfl⟩
set_option maxRecDepth 100000 in
theorem ii_ho_faultOf_4 : sm_D prog_1_method_54_code 4 1 5 (.iload_n 2) := ⟨by decide +kernel, rfl⟩
set_option maxRecDepth 100000 in
theorem ii_ho_faultOf_5 : sm_D prog_1_method_54_code 5 1 6 (.aload_n 0) := ⟨by decide +kernel, rfl⟩
set_option maxRecDepth 100000 in
theorem ii_ho_faultOf_6 : sm_D prog_1_method_54_code 6 3 9 (.getfield 78) := ⟨by decide +kernel, rfl⟩
set_option maxRecDepth 100000 in
theorem ii_ho_faultOf_9 : sm_D prog_1_method_54_code 9 3 12 (.if_icmp .ge 51) := ⟨by decide +kernel, rfl⟩
set_option maxRecDepth 100000 in
theorem ii_ho_faultOf_12 : sm_D prog_1_method_54_code 12 1 13 (.aload_n 0) := ⟨by decide +kernel, rfl⟩
set_option maxRecDepth 100000 in
theorem ii_ho_faultOf_13 : sm_D prog_1_method_54_code 13 3 16 (.getfield 66) := ⟨by decide +kernel, rfl⟩
set_option maxRecDepth 100000 in
theorem ii_ho_faultOf_16 : sm_D prog_1_method_54_code 16 1 17 (.iload_n 2) := ⟨by decide +kernel, rfl⟩
set_option maxRecDepth 100000 in
theorem ii_ho_faultOf_17 : sm_D prog_1_method_54_code 17 1 18 (.iaload) := ⟨by decide +kernel, rfl⟩
set_option maxRecDepth 100000 in
theorem ii_ho_faultOf_18 : sm_D prog_1_method_54_code 18 2 20 (.bipush 32) := ⟨by decide +kernel, rfl⟩
set_option maxRecDepth 100000 in
theorem ii_ho_faultOf_20 : sm_D prog_1_method_54_code 20 3 23 (.if_icmp .ne 6) := ⟨by decide +kernel, rfl⟩
set_option maxRecDepth 100000 in
theorem ii_ho_faultOf_23 : sm_D prog_1_method_54_code 23 3 26 (.goto 31) := ⟨by decide +kernel, rfl⟩
set_option maxRecDepth 100000 in
theorem ii_ho_faultOf_26 : sm_D prog_1_method_54_code 26 1 27 (.iload_n 1) := ⟨by decide +kernel, rfl⟩
set_option maxRecDepth 100000 in
theorem ii_ho_faultOf_27 : sm_D prog_1_method_54_code 27 2 29 (.bipush 6) := ⟨by decide +kernel, rfl⟩
set_option maxRecDepth 100000 in
theorem ii_ho_faultOf_29 : sm_D prog_1_method_54_code 29 3 32 (.if_icmp .ne 5) := ⟨by decide +kernel, rfl⟩
set_option maxRecDepth 100000 in
theorem ii_ho_faultOf_32 : sm_D prog_1_method_54_code 32 1 33 (.iload_n 2) := ⟨by decide +kernel, rfl⟩
set_option maxRecDepth 100000 in
theorem ii_ho_faultOf_33 : sm_D prog_1_method_54_code 33 1 34 (.ireturn) := ⟨by decide +kernel, rfl⟩
set_option maxRecDepth 100000 in
theorem ii_ho_faultOf_34 : sm_D prog_1_method_54_code 34 1 35 (.aload_n 0) := ⟨by decide +kernel, rfl⟩
set_option maxRecDepth 100000 in
theorem ii_ho_faultOf_35 : sm_D prog_1_method_54_code 35 1 36 (.iload_n 2) := ⟨by decide +kernel, rfl⟩
set_option maxRecDepth 100000 in
theorem ii_ho_faultOf_36 : sm_D prog_1_method_54_code 36 3 39 (.invokestatic 338) := ⟨by decide +kernel, rfl⟩
set_option maxRecDepth 100000 in
theorem ii_ho_faultOf_39 : sm_D prog_1_method_54_code 39 1 40 (.istore_n 3) := ⟨by decide +kernel, rfl⟩
set_option maxRecDepth 100000 in
theorem ii_ho_faultOf_40 : sm_D prog_1_method_54_code 40 1 41 (.iload_n 3) := ⟨by decide +kernel, rfl⟩
set_option maxRecDepth 100000 in
theorem ii_ho_faultOf_41 : sm_D prog_1_method_54_code 41 2 43 (.bipush (-9)) := ⟨by decide +kernel, rfl⟩
set_option maxRecDepth 100000 in
theorem ii_ho_faultOf_43 : sm_D prog_1_method_54_code 43 3 46 (.if_icmp .eq 5) := ⟨by decide +kernel, rfl⟩
set_option maxRecDepth 100000 in
theorem ii_ho_faultOf_46 : sm_D prog_1_method_54_code 46 1 47 (.iload_n 3) := ⟨by decide +kernel, rfl⟩
set_option maxRecDepth 100000 in
theorem ii_ho_faultOf_47 : sm_D prog_1_method_54_code 47 1 48 (.ireturn) := ⟨by decide +kernel, rfl⟩
set_option maxRecDepth 100000 in
theorem ii_ho_faultOf_48 : sm_D prog_1_method_54_code 48 3 51 (.iinc 1 1) := ⟨by decide +kernel, rfl⟩
set_option maxRecDepth 100000 in
theorem ii_ho_faultOf_51 : sm_D prog_1_method_54_code 51 3 54 (.iinc 2 4) := ⟨by decide +kernel, rfl⟩
set_option maxRecDepth 100000 in
theorem ii_ho_faultOf_54 : sm_D prog_1_method_54_code 54 3 57 (.iinc 2 1) := ⟨by decide +kernel, rfl⟩
set_option maxRecDepth 100000 in
theorem ii_ho_faultOf_57 : sm_D prog_1_method_54_code 57 3 60 (.goto (-53)) := ⟨by decide +kernel, rfl⟩
set_option maxRecDepth 100000 in
theorem ii_ho_faultOf_60 : sm_D prog_1_method_54_code 60 1 61 (.iload_n 1) := ⟨by decide +kernel, rfl⟩
set_option maxRecDepth 100000 in
theorem ii_ho_faultOf_61 : sm_D prog_1_method_54_code 61 3 64 (.ifCond .ne 10) := ⟨by decide +kernel, rfl⟩
set_option maxRecDepth 100000 in
theorem ii_ho_faultOf_64 : sm_D prog_1_method_54_code 64 1 65 (.aload_n 0) := ⟨by decide +kernel, rfl⟩
set_option maxRecDepth 100000 in
theorem ii_ho_faultOf_65 : sm_D prog_1_method_54_code 65 3 68 (.getfield 78) := ⟨by decide +kernel, rfl⟩
set_option maxRecDepth 100000 in
theorem ii_ho_faultOf_68 : sm_D prog_1_method_54_code 68 3 71 (.goto 5) := ⟨by decide +kernel, rfl⟩
set_option maxRecDepth 100000 in
theorem ii_ho_faultOf_71 : sm_D prog_1_method_54_code 71 2 73 (.bipush (-9)) := ⟨by decide +kernel, rfl⟩
set_option maxRecDepth 100000 in
theorem ii_ho_faultOf_73 : sm_D prog_1_method_54_code 73 1 74 (.ireturn) := ⟨by decide +kernel, rfl⟩
noncomputable def ff_ho_faultOf_4_b  (self4 : Nat → Int32 → Int32 → sm_Mem → sm_R) (a0 : Nat) (a1 : Int32) (a2 : Int32) (w : sm_Mem) : sm_R := (Option.bind (sm_gI w a0 2 1) fun x1 => (if x1 ≤ a2 then (if a1 = (0 : Int32) then (Option.bind (sm_gI w a0 2 1) fun x2 => (some (.int x2, w))) else (some (.int (-9 : Int32), w))) else (Option.bind (sm_fk a0 2 0 2) fun r3 => (Option.bind (sm_rds w r3 a2) fun x4 => (if x4 = (32 : Int32) then self4 (a0) (a1) ((a2 + (1 : Int32))) w else (if a1 = (6 : Int32) then (some (.int a2, w)) else (sm_cI (ff_ho_faultOfItem (a0) (a2) w) fun x5 w6 => (if x5 = (-9 : Int32) then self4 (a0) ((a1 + (1 : Int32))) (((a2 + (4 : Int32)) + (1 : Int32))) w6 else (some (.int x5, w6))))))))))
noncomputable def ff_ho_faultOf_4_f  : Nat → Nat → Int32 → Int32 → sm_Mem → sm_R
  | 0, _, _, _, _ => none
  | n + 1, a0, a1, a2, w => ff_ho_faultOf_4_b  (ff_ho_faultOf_4_f  n) a0 a1 a2 w
noncomputable def ff_ho_faultOf_4  (a0 : Nat) (a1 : Int32) (a2 : Int32) (w : sm_Mem) : sm_R := ff_ho_faultOf_4_f  sm_N a0 a1 a2 w
set_option maxHeartbeats 4000000 in
set_option maxRecDepth 100000 in
theorem ss_ho_faultOf_4_b {E : Nat × (Nat → Int32)}  (self4 : Nat → Int32 → Int32 → sm_Mem → sm_R) (hself4 : ∀ (a0 : Nat) (a1 : Int32) (a2 : Int32) (w : sm_Mem), sm_Sim E (mi_ho_faultOf) 4 [some (.ref a0), some (.int a1), some (.int a2), none] [] w (self4 a0 a1 a2 w)) (a0 : Nat) (a1 : Int32) (a2 : Int32) (w : sm_Mem) : sm_Sim E (mi_ho_faultOf) 4 [some (.ref a0), some (.int a1), some (.int a2), none] [] w (ff_ho_faultOf_4_b  self4 a0 a1 a2 w) := by
  unfold ff_ho_faultOf_4_b
  refine sm_iload_n ii_ho_faultOf_4 rfl ?_
  refine sm_aload_n ii_ho_faultOf_5 rfl ?_
  refine sm_getIs ii_ho_faultOf_6 fl_ho_78 (fun x1 => ?_)
  refine sm_icmp_ge 60 ii_ho_faultOf_9 (by decide) ?_ ?_
  · refine sm_iload_n ii_ho_faultOf_60 rfl ?_
    refine sm_if_ne 71 ii_ho_faultOf_61 (by decide) ?_ ?_
    · refine sm_aload_n ii_ho_faultOf_64 rfl ?_
      refine sm_getIs ii_ho_faultOf_65 fl_ho_78 (fun x2 => ?_)
      refine sm_goto 73 ii_ho_faultOf_68 (by decide) ?_
      exact sm_iret ii_ho_faultOf_73 rfl
    · refine sm_bipush (-9 : Int32) ii_ho_faultOf_71 (by decide) ?_
      exact sm_iret ii_ho_faultOf_73 rfl
  · refine sm_aload_n ii_ho_faultOf_12 rfl ?_
    refine sm_getRs ii_ho_faultOf_13 fl_ho_66 (fun r3 => ?_)
    refine sm_iload_n ii_ho_faultOf_16 rfl ?_
    refine sm_ialds ii_ho_faultOf_17 (fun x4 => ?_)
    refine sm_bipush (32 : Int32) ii_ho_faultOf_18 (by decide) ?_
    refine sm_icmp_ne 26 ii_ho_faultOf_20 (by decide) ?_ ?_
    · refine sm_goto 54 ii_ho_faultOf_23 (by decide) ?_
      refine sm_iinc (a2 + (1 : Int32)) [some (.ref a0), some (.int a1), some (.int (a2 + (1 : Int32))), none] ii_ho_faultOf_54 rfl rfl rfl rfl ?_
      refine sm_goto 4 ii_ho_faultOf_57 (by decide) ?_
      exact hself4 (a0) (a1) ((a2 + (1 : Int32))) w
    · refine sm_iload_n ii_ho_faultOf_26 rfl ?_
      refine sm_bipush (6 : Int32) ii_ho_faultOf_27 (by decide) ?_
      refine sm_icmp_ne 34 ii_ho_faultOf_29 (by decide) ?_ ?_
      · refine sm_iload_n ii_ho_faultOf_32 rfl ?_
        exact sm_iret ii_ho_faultOf_33 rfl
      · refine sm_aload_n ii_ho_faultOf_34 rfl ?_
        refine sm_iload_n ii_ho_faultOf_35 rfl ?_
        refine sm_csI [.ref a0, .int a2] [] rfl ii_ho_faultOf_36 ml_ho_338 (mf_ho_faultOfItem) (mv_ho_faultOfItem) (Nat.le_of_ble_eq_true rfl) rfl rfl rfl (mc_ho_faultOfItem (a0) (a2) w) (fun x5 w6 => ?_)
        refine sm_istore_n [some (.ref a0), some (.int a1), some (.int a2), some (.int x5)] ii_ho_faultOf_39 rfl rfl ?_
        refine sm_iload_n ii_ho_faultOf_40 rfl ?_
        refine sm_bipush (-9 : Int32) ii_ho_faultOf_41 (by decide) ?_
        refine sm_icmp_eq 48 ii_ho_faultOf_43 (by decide) ?_ ?_
        · refine sm_iinc (a1 + (1 : Int32)) [some (.ref a0), some (.int (a1 + (1 : Int32))), some (.int a2), some (.int x5)] ii_ho_faultOf_48 rfl rfl rfl rfl ?_
          refine sm_iinc (a2 + (4 : Int32)) [some (.ref a0), some (.int (a1 + (1 : Int32))), some (.int (a2 + (4 : Int32))), some (.int x5)] ii_ho_faultOf_51 rfl rfl rfl rfl ?_
          refine sm_iinc ((a2 + (4 : Int32)) + (1 : Int32)) [some (.ref a0), some (.int (a1 + (1 : Int32))), some (.int ((a2 + (4 : Int32)) + (1 : Int32))), some (.int x5)] ii_ho_faultOf_54 rfl rfl rfl rfl ?_
          refine sm_goto 4 ii_ho_faultOf_57 (by decide) ?_
          refine sm_msk [true, true, true, false] [some (.ref a0), some (.int (a1 + (1 : Int32))), some (.int ((a2 + (4 : Int32)) + (1 : Int32))), none] rfl ?_
          exact hself4 (a0) ((a1 + (1 : Int32))) (((a2 + (4 : Int32)) + (1 : Int32))) w6
        · refine sm_iload_n ii_ho_faultOf_46 rfl ?_
          exact sm_iret ii_ho_faultOf_47 rfl
set_option maxHeartbeats 4000000 in
set_option maxRecDepth 100000 in
theorem ss_ho_faultOf_4_f {E : Nat × (Nat → Int32)}  : ∀ (n : Nat) (a0 : Nat) (a1 : Int32) (a2 : Int32) (w : sm_Mem), sm_Sim E (mi_ho_faultOf) 4 [some (.ref a0), some (.int a1), some (.int a2), none] [] w (ff_ho_faultOf_4_f  n a0 a1 a2 w)
  | 0, _, _, _, _ => fun _ _ h => by cases h
  | n + 1, a0, a1, a2, w => ss_ho_faultOf_4_b  _ (ss_ho_faultOf_4_f  n) a0 a1 a2 w
set_option maxHeartbeats 4000000 in
set_option maxRecDepth 100000 in
theorem ss_ho_faultOf_4 {E : Nat × (Nat → Int32)}  (a0 : Nat) (a1 : Int32) (a2 : Int32) (w : sm_Mem) : sm_Sim E (mi_ho_faultOf) 4 [some (.ref a0), some (.int a1), some (.int a2), none] [] w (ff_ho_faultOf_4  a0 a1 a2 w) := ss_ho_faultOf_4_f  sm_N a0 a1 a2 w
noncomputable def ff_ho_faultOf  (a0 : Nat) (w : sm_Mem) : sm_R := ff_ho_faultOf_4 (a0) ((0 : Int32)) ((0 : Int32)) w
set_option maxHeartbeats 4000000 in
set_option maxRecDepth 100000 in
theorem ss_ho_faultOf_0 {E : Nat × (Nat → Int32)}  (a0 : Nat) (w : sm_Mem) : sm_Sim E (mi_ho_faultOf) 0 [some (.ref a0), none, none, none] [] w (ff_ho_faultOf  a0 w) := by
  unfold ff_ho_faultOf
  refine sm_iconst (0 : Int32) ii_ho_faultOf_0 (by decide) ?_
  refine sm_istore_n [some (.ref a0), some (.int (0 : Int32)), none, none] ii_ho_faultOf_1 rfl rfl ?_
  refine sm_iconst (0 : Int32) ii_ho_faultOf_2 (by decide) ?_
  refine sm_istore_n [some (.ref a0), some (.int (0 : Int32)), some (.int (0 : Int32)), none] ii_ho_faultOf_3 rfl rfl ?_
  exact ss_ho_faultOf_4 (a0) ((0 : Int32)) ((0 : Int32)) w
set_option maxHeartbeats 4000000 in
set_option maxRecDepth 100000 in
theorem mc_ho_faultOf {E : Nat × (Nat → Int32)} (a0 : Nat) (w : sm_Mem) : sm_MC E mi_ho_faultOf [.ref a0] w (ff_ho_faultOf a0 w) := sm_MC_of E (by decide +kernel) rfl (Nat.le_of_ble_eq_true rfl) (ss_ho_faultOf_0 a0 w)
abbrev mi_ho_fault : sm_MI := (⟨"HerOrders", "fault", "(I)I"⟩, prog_1_method_10_code, 3, (some .int), 4)
set_option maxRecDepth 100000 in
theorem mf_ho_fault : sm_MF mi_ho_fault 1 := ⟨List.mem_of_getElem? (i := 834) (by decide +kernel), List.mem_of_getElem? (i := 69) (by decide +kernel), ⟨by decide, by decide⟩, by decide +kernel⟩
set_option maxRecDepth 100000 in
theorem mv_ho_fault : sm_MFV mi_ho_fault := ⟨List.mem_of_getElem? (i := 832) (by decide +kernel), List.mem_of_getElem? (i := 833) (by decide +kernel)⟩
set_option maxRecDepth 100000 in
theorem ii_ho_fault_0 : sm_D prog_1_method_10_code 0 1 1 (.aload_n 0) := ⟨by decide +kernel, rfl⟩
set_option maxRecDepth 100000 in
theorem ii_ho_fault_1 : sm_D prog_1_method_10_code 1 1 2 (.aload_n 0) := ⟨by decide +kernel, rfl⟩
set_option maxRecDepth 100000 in
theorem ii_ho_fault_2 : sm_D prog_1_method_10_code 2 3 5 (.getfield 18) := ⟨by decide +kernel, rfl⟩
set_option maxRecDepth 100000 in
theorem ii_ho_fault_5 : sm_D prog_1_method_10_code 5 1 6 (.iload_n 1) := ⟨by decide +kernel, rfl⟩
set_option maxRecDepth 100000 in
theorem ii_ho_fault_6 : sm_D prog_1_method_10_code 6 3 9 (.invokevirtual 74) := ⟨by decide +kernel, rfl⟩
set_option maxRecDepth 100000 in
theorem ii_ho_fault_9 : sm_D prog_1_method_10_code 9 1 10 (.istore_n 2) := ⟨by decide +kernel, rfl⟩
set_option maxRecDepth 100000 in
theorem ii_ho_fault_10 : sm_D prog_1_method_10_code 10 1 11 (.iload_n 2) := ⟨by decide +kernel, rfl⟩
set_option maxRecDepth 100000 in
theorem ii_ho_fault_11 : sm_D prog_1_method_10_code 11 3 14 (.ifCond .eq 5) := ⟨by decide +kernel, rfl⟩
set_option maxRecDepth 100000 in
theorem ii_ho_fault_14 : sm_D prog_1_method_10_code 14 1 15 (.iload_n 2) := ⟨by decide +kernel, rfl⟩
set_option maxRecDepth 100000 in
theorem ii_ho_fault_15 : sm_D prog_1_method_10_code 15 1 16 (.ireturn) := ⟨by decide +kernel, rfl⟩
set_option maxRecDepth 100000 in
theorem ii_ho_fault_16 : sm_D prog_1_method_10_code 16 1 17 (.aload_n 0) := ⟨by decide +kernel, rfl⟩
set_option maxRecDepth 100000 in
theorem ii_ho_fault_17 : sm_D prog_1_method_10_code 17 3 20 (.getfield 18) := ⟨by decide +kernel, rfl⟩
set_option maxRecDepth 100000 in
theorem ii_ho_fault_20 : sm_D prog_1_method_10_code 20 1 21 (.iload_n 1) := ⟨by decide +kernel, rfl⟩
set_option maxRecDepth 100000 in
theorem ii_ho_fault_21 : sm_D prog_1_method_10_code 21 1 22 (.aaload) := ⟨by decide +kernel, rfl⟩
set_option maxRecDepth 100000 in
theorem ii_ho_fault_22 : sm_D prog_1_method_10_code 22 3 25 (.invokestatic 106) := ⟨by decide +kernel, rfl⟩
set_option maxRecDepth 100000 in
theorem ii_ho_fault_25 : sm_D prog_1_method_10_code 25 1 26 (.ireturn) := ⟨by decide +kernel, rfl⟩
noncomputable def ff_ho_fault  (a1 : Int32) (w : sm_Mem) : sm_R := (sm_cI (ff_ho_refusalOfMissing (14) (a1) w) fun x1 w2 => (if x1 = (0 : Int32) then (Option.bind (sm_rr 14 a1) fun r3 => (sm_cI (ff_ho_faultOf (r3) w2) fun x4 w5 => (some (.int x4, w5)))) else (some (.int x1, w2))))
set_option maxHeartbeats 4000000 in
set_option maxRecDepth 100000 in
theorem ss_ho_fault_0 {E : Nat × (Nat → Int32)}  (a1 : Int32) (w : sm_Mem) : sm_Sim E (mi_ho_fault) 0 [some (.ref 0), some (.int a1), none] [] w (ff_ho_fault  a1 w) := by
  unfold ff_ho_fault
  refine sm_aload_n ii_ho_fault_0 rfl ?_
  refine sm_aload_n ii_ho_fault_1 rfl ?_
  refine sm_getR 14 ii_ho_fault_2 fl_ho_18 (k := 0) rfl ?_
  refine sm_iload_n ii_ho_fault_5 rfl ?_
  refine sm_cvI [.ref 14, .int a1] [] rfl ii_ho_fault_6 ml_ho_74 (mf_ho_refusalOfMissing) (mv_ho_refusalOfMissing) (Nat.le_of_ble_eq_true rfl) rfl 6 rfl rfl rfl rfl (mc_ho_refusalOfMissing (14) (a1) w) (fun x1 w2 => ?_)
  refine sm_istore_n [some (.ref 0), some (.int a1), some (.int x1)] ii_ho_fault_9 rfl rfl ?_
  refine sm_iload_n ii_ho_fault_10 rfl ?_
  refine sm_if_eq 16 ii_ho_fault_11 (by decide) ?_ ?_
  · refine sm_aload_n ii_ho_fault_16 rfl ?_
    refine sm_getR 14 ii_ho_fault_17 fl_ho_18 (k := 0) rfl ?_
    refine sm_iload_n ii_ho_fault_20 rfl ?_
    refine sm_aald ii_ho_fault_21 (fun r3 => ?_)
    refine sm_csI [.ref r3] [] rfl ii_ho_fault_22 ml_ho_106 (mf_ho_faultOf) (mv_ho_faultOf) (Nat.le_of_ble_eq_true rfl) rfl rfl rfl (mc_ho_faultOf (r3) w2) (fun x4 w5 => ?_)
    exact sm_iret ii_ho_fault_25 rfl
  · refine sm_iload_n ii_ho_fault_14 rfl ?_
    exact sm_iret ii_ho_fault_15 rfl
set_option maxHeartbeats 4000000 in
set_option maxRecDepth 100000 in
theorem mc_ho_fault {E : Nat × (Nat → Int32)} (a1 : Int32) (w : sm_Mem) : sm_MC E mi_ho_fault [.ref 0, .int a1] w (ff_ho_fault a1 w) := sm_MC_of E (by decide +kernel) rfl (Nat.le_of_ble_eq_true rfl) (ss_ho_fault_0 a1 w)
abbrev mi_hs_figure : sm_MI := (⟨"HerOrders$House", "figure", "(LHerOrders$Row;I)I"⟩, prog_3_method_3_code, 2, (some .int), 1)
set_option maxRecDepth 100000 in
theorem mf_hs_figure : sm_MF mi_hs_figure 2 := ⟨List.mem_of_getElem? (i := 392) (by decide +kernel), List.mem_of_getElem? (i := 73) (by decide +kernel), ⟨by decide, by decide⟩, by decide +kernel⟩
set_option maxRecDepth 100000 in
theorem mv_hs_figure : sm_MFS mi_hs_figure := List.mem_of_getElem? (i := 391) (by decide +kernel)
set_option maxRecDepth 100000 in
theorem ii_hs_figure_0 : sm_D prog_3_method_3_code 0 1 1 (.aload_n 0) := ⟨by decide +kernel, rfl⟩
set_option maxRecDepth 100000 in
theorem ii_hs_figure_1 : sm_D prog_3_method_3_code 1 3 4 (.getfield 54) := ⟨by decide +kernel, rfl⟩
set_option maxRecDepth 100000 in
theorem ii_hs_figure_4 : sm_D prog_3_method_3_code 4 1 5 (.iload_n 1) := ⟨by decide +kernel, rfl⟩
set_option maxRecDepth 100000 in
theorem ii_hs_figure_5 : sm_D prog_3_method_3_code 5 1 6 (.iaload) := ⟨by decide +kernel, rfl⟩
set_option maxRecDepth 100000 in
theorem ii_hs_figure_6 : sm_D prog_3_method_3_code 6 2 8 (.bipush 48) := ⟨by decide +kernel, rfl⟩
set_option maxRecDepth 100000 in
theorem ii_hs_figure_8 : sm_D prog_3_method_3_code 8 1 9 (.isub) := ⟨by decide +kernel, rfl⟩
set_option maxRecDepth 100000 in
theorem ii_hs_figure_9 : sm_D prog_3_method_3_code 9 1 10 (.ireturn) := ⟨by decide +kernel, rfl⟩
noncomputable def ff_hs_figure  (a0 : Nat) (a1 : Int32) (w : sm_Mem) : sm_R := (Option.bind (sm_fk a0 2 0 2) fun r1 => (Option.bind (sm_rds w r1 a1) fun x2 => (some (.int (x2 - (48 : Int32)), w))))
set_option maxHeartbeats 4000000 in
set_option maxRecDepth 100000 in
theorem ss_hs_figure_0 {E : Nat × (Nat → Int32)}  (a0 : Nat) (a1 : Int32) (w : sm_Mem) : sm_Sim E (mi_hs_figure) 0 [some (.ref a0), some (.int a1)] [] w (ff_hs_figure  a0 a1 w) := by
  unfold ff_hs_figure
  refine sm_aload_n ii_hs_figure_0 rfl ?_
  refine sm_getRs ii_hs_figure_1 fl_hs_54 (fun r1 => ?_)
  refine sm_iload_n ii_hs_figure_4 rfl ?_
  refine sm_ialds ii_hs_figure_5 (fun x2 => ?_)
  refine sm_bipush (48 : Int32) ii_hs_figure_6 (by decide) ?_
  refine sm_isub ii_hs_figure_8 ?_
  exact sm_iret ii_hs_figure_9 rfl
set_option maxHeartbeats 4000000 in
set_option maxRecDepth 100000 in
theorem mc_hs_figure {E : Nat × (Nat → Int32)} (a0 : Nat) (a1 : Int32) (w : sm_Mem) : sm_MC E mi_hs_figure [.ref a0, .int a1] w (ff_hs_figure a0 a1 w) := sm_MC_of E (by decide +kernel) rfl (Nat.le_of_ble_eq_true rfl) (ss_hs_figure_0 a0 a1 w)
abbrev mi_hs_push : sm_MI := (⟨"HerOrders$House", "push", "(II)V"⟩, prog_3_method_9_code, 3, none, 1)
set_option maxRecDepth 100000 in
theorem mf_hs_push : sm_MF mi_hs_push 2 := ⟨List.mem_of_getElem? (i := 404) (by decide +kernel), List.mem_of_getElem? (i := 73) (by decide +kernel), ⟨by decide, by decide⟩, by decide +kernel⟩
set_option maxRecDepth 100000 in
theorem mv_hs_push : sm_MFV mi_hs_push := ⟨List.mem_of_getElem? (i := 403) (by decide +kernel), List.mem_of_getElem? (i := 9) (by decide +kernel)⟩
set_option maxRecDepth 100000 in
theorem ii_hs_push_0 : sm_D prog_3_method_9_code 0 1 1 (.aload_n 0) := ⟨by decide +kernel, rfl⟩
set_option maxRecDepth 100000 in
theorem ii_hs_push_1 : sm_D prog_3_method_9_code 1 3 4 (.getfield 89) := ⟨by decide +kernel, rfl⟩
set_option maxRecDepth 100000 in
theorem ii_hs_push_4 : sm_D prog_3_method_9_code 4 2 6 (.bipush 8) := ⟨by decide +kernel, rfl⟩
set_option maxRecDepth 100000 in
theorem ii_hs_push_6 : sm_D prog_3_method_9_code 6 3 9 (.if_icmp .lt 4) := ⟨by decide +kernel, rfl⟩
set_option maxRecDepth 100000 in
theorem ii_hs_push_9 : sm_D prog_3_method_9_code 9 1 10 (.return_) := ⟨by decide +kernel, rfl⟩
set_option maxRecDepth 100000 in
theorem ii_hs_push_10 : sm_D prog_3_method_9_code 10 1 11 (.aload_n 0) := ⟨by decide +kernel, rfl⟩
set_option maxRecDepth 100000 in
theorem ii_hs_push_11 : sm_D prog_3_method_9_code 11 3 14 (.getfield 30) := ⟨by decide +kernel, rfl⟩
set_option maxRecDepth 100000 in
theorem ii_hs_push_14 : sm_D prog_3_method_9_code 14 1 15 (.aload_n 0) := ⟨by decide +kernel, rfl⟩
set_option maxRecDepth 100000 in
theorem ii_hs_push_15 : sm_D prog_3_method_9_code 15 3 18 (.getfield 89) := ⟨by decide +kernel, rfl⟩
set_option maxRecDepth 100000 in
theorem ii_hs_push_18 : sm_D prog_3_method_9_code 18 1 19 (.iload_n 2) := ⟨by decide +kernel, rfl⟩
set_option maxRecDepth 100000 in
theorem ii_hs_push_19 : sm_D prog_3_method_9_code 19 1 20 (.iastore) := ⟨by decide +kernel, rfl⟩
set_option maxRecDepth 100000 in
theorem ii_hs_push_20 : sm_D prog_3_method_9_code 20 1 21 (.aload_n 0) := ⟨by decide +kernel, rfl⟩
set_option maxRecDepth 100000 in
theorem ii_hs_push_21 : sm_D prog_3_method_9_code 21 3 24 (.getfield 33) := ⟨by decide +kernel, rfl⟩
set_option maxRecDepth 100000 in
theorem ii_hs_push_24 : sm_D prog_3_method_9_code 24 1 25 (.aload_n 0) := ⟨by decide +kernel, rfl⟩
set_option maxRecDepth 100000 in
theorem ii_hs_push_25 : sm_D prog_3_method_9_code 25 3 28 (.getfield 89) := ⟨by decide +kernel, rfl⟩
set_option maxRecDepth 100000 in
theorem ii_hs_push_28 : sm_D prog_3_method_9_code 28 1 29 (.iload_n 1) := ⟨by decide +kernel, rfl⟩
set_option maxRecDepth 100000 in
theorem ii_hs_push_29 : sm_D prog_3_method_9_code 29 1 30 (.iastore) := ⟨by decide +kernel, rfl⟩
set_option maxRecDepth 100000 in
theorem ii_hs_push_30 : sm_D prog_3_method_9_code 30 1 31 (.aload_n 0) := ⟨by decide +kernel, rfl⟩
set_option maxRecDepth 100000 in
theorem ii_hs_push_31 : sm_D prog_3_method_9_code 31 1 32 (.dup) := ⟨by decide +kernel, rfl⟩
set_option maxRecDepth 100000 in
theorem ii_hs_push_32 : sm_D prog_3_method_9_code 32 3 35 (.getfield 89) := ⟨by decide +kernel, rfl⟩
set_option maxRecDepth 100000 in
theorem ii_hs_push_35 : sm_D prog_3_method_9_code 35 1 36 (.iconst 1) := ⟨by decide +kernel, rfl⟩
set_option maxRecDepth 100000 in
theorem ii_hs_push_36 : sm_D prog_3_method_9_code 36 1 37 (.iadd) := ⟨by decide +kernel, rfl⟩
set_option maxRecDepth 100000 in
theorem ii_hs_push_37 : sm_D prog_3_method_9_code 37 3 40 (.putfield 89) := ⟨by decide +kernel, rfl⟩
set_option maxRecDepth 100000 in
theorem ii_hs_push_40 : sm_D prog_3_method_9_code 40 1 41 (.aload_n 0) := ⟨by decide +kernel, rfl⟩
set_option maxRecDepth 100000 in
theorem ii_hs_push_41 : sm_D prog_3_method_9_code 41 3 44 (.getfield 27) := ⟨by decide +kernel, rfl⟩
set_option maxRecDepth 100000 in
theorem ii_hs_push_44 : sm_D prog_3_method_9_code 44 1 45 (.iload_n 1) := ⟨by decide +kernel, rfl⟩
set_option maxRecDepth 100000 in
theorem ii_hs_push_45 : sm_D prog_3_method_9_code 45 1 46 (.dup2) := ⟨by decide +kernel, rfl⟩
set_option maxRecDepth 100000 in
theorem ii_hs_push_46 : sm_D prog_3_method_9_code 46 1 47 (.iaload) := ⟨by decide +kernel, rfl⟩
set_option maxRecDepth 100000 in
theorem ii_hs_push_47 : sm_D prog_3_method_9_code 47 1 48 (.iconst 1) := ⟨by decide +kernel, rfl⟩
set_option maxRecDepth 100000 in
theorem ii_hs_push_48 : sm_D prog_3_method_9_code 48 1 49 (.isub) := ⟨by decide +kernel, rfl⟩
set_option maxRecDepth 100000 in
theorem ii_hs_push_49 : sm_D prog_3_method_9_code 49 1 50 (.iastore) := ⟨by decide +kernel, rfl⟩
set_option maxRecDepth 100000 in
theorem ii_hs_push_50 : sm_D prog_3_method_9_code 50 1 51 (.return_) := ⟨by decide +kernel, rfl⟩
noncomputable def ff_hs_push  (a1 : Int32) (a2 : Int32) (w : sm_Mem) : sm_R := (if (w.1 36 11) < (8 : Int32) then (Option.bind (sm_wr w 43 8 (w.1 36 11) a2) fun w1 => (Option.bind (sm_wr w1 44 8 (w1.1 36 11) a1) fun w2 => (sm_let (sm_wI w2 36 11 ((w2.1 36 11) + (1 : Int32))) fun w3 => (Option.bind (sm_rd w3 42 6 a1) fun x4 => (Option.bind (sm_wr w3 42 6 a1 (x4 - (1 : Int32))) fun w5 => (some (.null, w5))))))) else (some (.null, w)))
set_option maxHeartbeats 4000000 in
set_option maxRecDepth 100000 in
theorem ss_hs_push_0 {E : Nat × (Nat → Int32)}  (a1 : Int32) (a2 : Int32) (w : sm_Mem) : sm_Sim E (mi_hs_push) 0 [some (.ref 36), some (.int a1), some (.int a2)] [] w (ff_hs_push  a1 a2 w) := by
  unfold ff_hs_push
  refine sm_aload_n ii_hs_push_0 rfl ?_
  refine sm_getI ii_hs_push_1 fl_hs_89 (k := 36) rfl ?_
  refine sm_bipush (8 : Int32) ii_hs_push_4 (by decide) ?_
  refine sm_icmp_lt 10 ii_hs_push_6 (by decide) ?_ ?_
  · refine sm_aload_n ii_hs_push_10 rfl ?_
    refine sm_getR 43 ii_hs_push_11 fl_hs_30 (k := 36) rfl ?_
    refine sm_aload_n ii_hs_push_14 rfl ?_
    refine sm_getI ii_hs_push_15 fl_hs_89 (k := 36) rfl ?_
    refine sm_iload_n ii_hs_push_18 rfl ?_
    refine sm_iast ii_hs_push_19 (k := 43) rfl (fun w1 => ?_)
    refine sm_aload_n ii_hs_push_20 rfl ?_
    refine sm_getR 44 ii_hs_push_21 fl_hs_33 (k := 36) rfl ?_
    refine sm_aload_n ii_hs_push_24 rfl ?_
    refine sm_getI ii_hs_push_25 fl_hs_89 (k := 36) rfl ?_
    refine sm_iload_n ii_hs_push_28 rfl ?_
    refine sm_iast ii_hs_push_29 (k := 44) rfl (fun w2 => ?_)
    refine sm_aload_n ii_hs_push_30 rfl ?_
    refine sm_dupR ii_hs_push_31 ?_
    refine sm_getI ii_hs_push_32 fl_hs_89 (k := 36) rfl ?_
    refine sm_iconst (1 : Int32) ii_hs_push_35 (by decide) ?_
    refine sm_iadd ii_hs_push_36 ?_
    refine sm_putI ii_hs_push_37 fp_hs_89 (k := 36) rfl (fun w3 => ?_)
    refine sm_aload_n ii_hs_push_40 rfl ?_
    refine sm_getR 42 ii_hs_push_41 fl_hs_27 (k := 36) rfl ?_
    refine sm_iload_n ii_hs_push_44 rfl ?_
    refine sm_dup2 ii_hs_push_45 ?_
    refine sm_iald ii_hs_push_46 (k := 42) rfl (fun x4 => ?_)
    refine sm_iconst (1 : Int32) ii_hs_push_47 (by decide) ?_
    refine sm_isub ii_hs_push_48 ?_
    refine sm_iast ii_hs_push_49 (k := 42) rfl (fun w5 => ?_)
    exact sm_vret ii_hs_push_50 rfl
  · exact sm_vret ii_hs_push_9 rfl
set_option maxHeartbeats 4000000 in
set_option maxRecDepth 100000 in
theorem mc_hs_push {E : Nat × (Nat → Int32)} (a1 : Int32) (a2 : Int32) (w : sm_Mem) : sm_MC E mi_hs_push [.ref 36, .int a1, .int a2] w (ff_hs_push a1 a2 w) := sm_MC_of E (by decide +kernel) rfl (Nat.le_of_ble_eq_true rfl) (ss_hs_push_0 a1 a2 w)
abbrev mi_hs_perform : sm_MI := (⟨"HerOrders$House", "perform", "(III)V"⟩, prog_3_method_7_code, 5, none, 2)
set_option maxRecDepth 100000 in
theorem mf_hs_perform : sm_MF mi_hs_perform 3 := ⟨List.mem_of_getElem? (i := 400) (by decide +kernel), List.mem_of_getElem? (i := 73) (by decide +kernel), ⟨by decide, by decide⟩, by decide +kernel⟩
set_option maxRecDepth 100000 in
theorem mv_hs_perform : sm_MFV mi_hs_perform := ⟨List.mem_of_getElem? (i := 399) (by decide +kernel), List.mem_of_getElem? (i := 8) (by decide +kernel)⟩
set_option maxRecDepth 100000 in
theorem ii_hs_perform_0 : sm_D prog_3_method_7_code 0 1 1 (.iload_n 1) := ⟨by decide +kernel, rfl⟩
set_option maxRecDepth 100000 in
theorem ii_hs_perform_1 : sm_D prog_3_method_7_code 1 27 28 (.tableswitch 99 0 2 #[27, 36, 54]) := ⟨by decide +kernel, rfl⟩
set_option maxRecDepth 100000 in
theorem ii_hs_perform_28 : sm_D prog_3_method_7_code 28 1 29 (.aload_n 0) := ⟨by decide +kernel, rfl⟩
set_option maxRecDepth 100000 in
theorem ii_hs_perform_29 : sm_D prog_3_method_7_code 29 1 30 (.iload_n 2) := ⟨by decide +kernel, rfl⟩
set_option maxRecDepth 100000 in
theorem ii_hs_perform_30 : sm_D prog_3_method_7_code 30 1 31 (.iload_n 3) := ⟨by decide +kernel, rfl⟩
set_option maxRecDepth 100000 in
theorem ii_hs_perform_31 : sm_D prog_3_method_7_code 31 3 34 (.invokevirtual 90) := ⟨by decide +kernel, rfl⟩
set_option maxRecDepth 100000 in
theorem ii_hs_perform_34 : sm_D prog_3_method_7_code 34 3 37 (.goto 73) := ⟨by decide +kernel, rfl⟩
set_option maxRecDepth 100000 in
theorem ii_hs_perform_37 : sm_D prog_3_method_7_code 37 1 38 (.aload_n 0) := ⟨by decide +kernel, rfl⟩
set_option maxRecDepth 100000 in
theorem ii_hs_perform_38 : sm_D prog_3_method_7_code 38 1 39 (.iconst 0) := ⟨by decide +kernel, rfl⟩
set_option maxRecDepth 100000 in
theorem ii_hs_perform_39 : sm_D prog_3_method_7_code 39 3 42 (.putfield 89) := ⟨by decide +kernel, rfl⟩
set_option maxRecDepth 100000 in
theorem ii_hs_perform_42 : sm_D prog_3_method_7_code 42 1 43 (.aload_n 0) := ⟨by decide +kernel, rfl⟩
set_option maxRecDepth 100000 in
theorem ii_hs_perform_43 : sm_D prog_3_method_7_code 43 1 44 (.dup) := ⟨by decide +kernel, rfl⟩
set_option maxRecDepth 100000 in
theorem ii_hs_perform_44 : sm_D prog_3_method_7_code 44 3 47 (.getfield 94) := ⟨by decide +kernel, rfl⟩
set_option maxRecDepth 100000 in
theorem ii_hs_perform_47 : sm_D prog_3_method_7_code 47 1 48 (.iconst 1) := ⟨by decide +kernel, rfl⟩
set_option maxRecDepth 100000 in
theorem ii_hs_perform_48 : sm_D prog_3_method_7_code 48 1 49 (.iadd) := ⟨by decide +kernel, rfl⟩
set_option maxRecDepth 100000 in
theorem ii_hs_perform_49 : sm_D prog_3_method_7_code 49 3 52 (.putfield 94) := ⟨by decide +kernel, rfl⟩
set_option maxRecDepth 100000 in
theorem ii_hs_perform_52 : sm_D prog_3_method_7_code 52 3 55 (.goto 55) := ⟨by decide +kernel, rfl⟩
set_option maxRecDepth 100000 in
theorem ii_hs_perform_55 : sm_D prog_3_method_7_code 55 1 56 (.aload_n 0) := ⟨by decide +kernel, rfl⟩
set_option maxRecDepth 100000 in
theorem ii_hs_perform_56 : sm_D prog_3_method_7_code 56 1 57 (.dup) := ⟨by decide +kernel, rfl⟩
set_option maxRecDepth 100000 in
theorem ii_hs_perform_57 : sm_D prog_3_method_7_code 57 3 60 (.getfield 97) := ⟨by decide +kernel, rfl⟩
set_option maxRecDepth 100000 in
theorem ii_hs_perform_60 : sm_D prog_3_method_7_code 60 1 61 (.iconst 1) := ⟨by decide +kernel, rfl⟩
set_option maxRecDepth 100000 in
theorem ii_hs_perform_61 : sm_D prog_3_method_7_code 61 1 62 (.iadd) := ⟨by decide +kernel, rfl⟩
set_option maxRecDepth 100000 in
theorem ii_hs_perform_62 : sm_D prog_3_method_7_code 62 3 65 (.putfield 97) := ⟨by decide +kernel, rfl⟩
set_option maxRecDepth 100000 in
theorem ii_hs_perform_65 : sm_D prog_3_method_7_code 65 1 66 (.iconst 0) := ⟨by decide +kernel, rfl⟩
set_option maxRecDepth 100000 in
theorem ii_hs_perform_66 : sm_D prog_3_method_7_code 66 2 68 (.istore 4) := ⟨by decide +kernel, rfl⟩
set_option maxRecDepth 100000 in
theorem ii_hs_perform_68 : sm_D prog_3_method_7_code 68 2 70 (.iload 4) := ⟨by decide +kernel, rfl⟩
set_option maxRecDepth 100000 in
theorem ii_hs_perform_70 : sm_D prog_3_method_7_code 70 1 71 (.aload_n 0) := ⟨by decide +kernel, rfl⟩
set_option maxRecDepth 100000 in
theorem ii_hs_perform_71 : sm_D prog_3_method_7_code 71 3 74 (.getfield 45) := ⟨by decide +kernel, rfl⟩
set_option maxRecDepth 100000 in
theorem ii_hs_perform_74 : sm_D prog_3_method_7_code 74 3 77 (.if_icmp .ge 23) := ⟨by decide +kernel, rfl⟩
set_option maxRecDepth 100000 in
theorem ii_hs_perform_77 : sm_D prog_3_method_7_code 77 1 78 (.aload_n 0) := ⟨by decide +kernel, rfl⟩
set_option maxRecDepth 100000 in
theorem ii_hs_perform_78 : sm_D prog_3_method_7_code 78 3 81 (.getfield 27) := ⟨by decide +kernel, rfl⟩
set_option maxRecDepth 100000 in
theorem ii_hs_perform_81 : sm_D prog_3_method_7_code 81 2 83 (.iload 4) := ⟨by decide +kernel, rfl⟩
set_option maxRecDepth 100000 in
theorem ii_hs_perform_83 : sm_D prog_3_method_7_code 83 1 84 (.aload_n 0) := ⟨by decide +kernel, rfl⟩
set_option maxRecDepth 100000 in
theorem ii_hs_perform_84 : sm_D prog_3_method_7_code 84 3 87 (.getfield 21) := ⟨by decide +kernel, rfl⟩
set_option maxRecDepth 100000 in
theorem ii_hs_perform_87 : sm_D prog_3_method_7_code 87 2 89 (.iload 4) := ⟨by decide +kernel, rfl⟩
set_option maxRecDepth 100000 in
theorem ii_hs_perform_89 : sm_D prog_3_method_7_code 89 1 90 (.iaload) := ⟨by decide +kernel, rfl⟩
set_option maxRecDepth 100000 in
theorem ii_hs_perform_90 : sm_D prog_3_method_7_code 90 1 91 (.iastore) := ⟨by decide +kernel, rfl⟩
set_option maxRecDepth 100000 in
theorem ii_hs_perform_91 : sm_D prog_3_method_7_code 91 3 94 (.iinc 4 1) := ⟨by decide +kernel, rfl⟩
set_option maxRecDepth 100000 in
theorem ii_hs_perform_94 : sm_D prog_3_method_7_code 94 3 97 (.goto (-26)) := ⟨by decide +kernel, rfl⟩
set_option maxRecDepth 100000 in
theorem ii_hs_perform_97 : sm_D prog_3_method_7_code 97 3 100 (.goto 10) := ⟨by decide +kernel, rfl⟩
set_option maxRecDepth 100000 in
theorem ii_hs_perform_100 : sm_D prog_3_method_7_code 100 1 101 (.aload_n 0) := ⟨by decide +kernel, rfl⟩
set_option maxRecDepth 100000 in
theorem ii_hs_perform_101 : sm_D prog_3_method_7_code 101 3 104 (.getfield 24) := ⟨by decide +kernel, rfl⟩
set_option maxRecDepth 100000 in
theorem ii_hs_perform_104 : sm_D prog_3_method_7_code 104 1 105 (.iload_n 2) := ⟨by decide +kernel, rfl⟩
set_option maxRecDepth 100000 in
theorem ii_hs_perform_105 : sm_D prog_3_method_7_code 105 1 106 (.iload_n 3) := ⟨by decide +kernel, rfl⟩
set_option maxRecDepth 100000 in
theorem ii_hs_perform_106 : sm_D prog_3_method_7_code 106 1 107 (.iastore) := ⟨by decide +kernel, rfl⟩
set_option maxRecDepth 100000 in
theorem ii_hs_perform_107 : sm_D prog_3_method_7_code 107 1 108 (.return_) := ⟨by decide +kernel, rfl⟩
noncomputable def ff_hs_perform_68_b  (self68 : Int32 → sm_Mem → sm_R) (a4 : Int32) (w : sm_Mem) : sm_R := (if (w.1 36 0) ≤ a4 then (some (.null, w)) else (Option.bind (sm_rd w 40 6 a4) fun x1 => (Option.bind (sm_wr w 42 6 a4 x1) fun w2 => self68 ((a4 + (1 : Int32))) w2)))
noncomputable def ff_hs_perform_68_f  : Nat → Int32 → sm_Mem → sm_R
  | 0, _, _ => none
  | n + 1, a4, w => ff_hs_perform_68_b  (ff_hs_perform_68_f  n) a4 w
noncomputable def ff_hs_perform_68  (a4 : Int32) (w : sm_Mem) : sm_R := ff_hs_perform_68_f  sm_N a4 w
set_option maxHeartbeats 4000000 in
set_option maxRecDepth 100000 in
theorem ss_hs_perform_68_b {E : Nat × (Nat → Int32)}  (self68 : Int32 → sm_Mem → sm_R) (hself68 : ∀ (a4 : Int32) (w : sm_Mem), sm_Sim E (mi_hs_perform) 68 [some (.ref 36), none, none, none, some (.int a4)] [] w (self68 a4 w)) (a4 : Int32) (w : sm_Mem) : sm_Sim E (mi_hs_perform) 68 [some (.ref 36), none, none, none, some (.int a4)] [] w (ff_hs_perform_68_b  self68 a4 w) := by
  unfold ff_hs_perform_68_b
  refine sm_iload ii_hs_perform_68 rfl ?_
  refine sm_aload_n ii_hs_perform_70 rfl ?_
  refine sm_getI ii_hs_perform_71 fl_hs_45 (k := 36) rfl ?_
  refine sm_icmp_ge 97 ii_hs_perform_74 (by decide) ?_ ?_
  · refine sm_goto 107 ii_hs_perform_97 (by decide) ?_
    exact sm_vret ii_hs_perform_107 rfl
  · refine sm_aload_n ii_hs_perform_77 rfl ?_
    refine sm_getR 42 ii_hs_perform_78 fl_hs_27 (k := 36) rfl ?_
    refine sm_iload ii_hs_perform_81 rfl ?_
    refine sm_aload_n ii_hs_perform_83 rfl ?_
    refine sm_getR 40 ii_hs_perform_84 fl_hs_21 (k := 36) rfl ?_
    refine sm_iload ii_hs_perform_87 rfl ?_
    refine sm_iald ii_hs_perform_89 (k := 40) rfl (fun x1 => ?_)
    refine sm_iast ii_hs_perform_90 (k := 42) rfl (fun w2 => ?_)
    refine sm_iinc (a4 + (1 : Int32)) [some (.ref 36), none, none, none, some (.int (a4 + (1 : Int32)))] ii_hs_perform_91 rfl rfl rfl rfl ?_
    refine sm_goto 68 ii_hs_perform_94 (by decide) ?_
    exact hself68 ((a4 + (1 : Int32))) w2
set_option maxHeartbeats 4000000 in
set_option maxRecDepth 100000 in
theorem ss_hs_perform_68_f {E : Nat × (Nat → Int32)}  : ∀ (n : Nat) (a4 : Int32) (w : sm_Mem), sm_Sim E (mi_hs_perform) 68 [some (.ref 36), none, none, none, some (.int a4)] [] w (ff_hs_perform_68_f  n a4 w)
  | 0, _, _ => fun _ _ h => by cases h
  | n + 1, a4, w => ss_hs_perform_68_b  _ (ss_hs_perform_68_f  n) a4 w
set_option maxHeartbeats 4000000 in
set_option maxRecDepth 100000 in
theorem ss_hs_perform_68 {E : Nat × (Nat → Int32)}  (a4 : Int32) (w : sm_Mem) : sm_Sim E (mi_hs_perform) 68 [some (.ref 36), none, none, none, some (.int a4)] [] w (ff_hs_perform_68  a4 w) := ss_hs_perform_68_f  sm_N a4 w
noncomputable def ff_hs_perform  (a1 : Int32) (a2 : Int32) (a3 : Int32) (w : sm_Mem) : sm_R := (sm_sw a1 (0) [((sm_cV (ff_hs_push (a2) (a3) w) fun w4 => (some (.null, w4)))), ((sm_let (sm_wI w 36 11 (0 : Int32)) fun w5 => (sm_let (sm_wI w5 36 8 ((w5.1 36 8) + (1 : Int32))) fun w6 => (some (.null, w6))))), ((sm_let (sm_wI w 36 7 ((w.1 36 7) + (1 : Int32))) fun w7 => ff_hs_perform_68 ((0 : Int32)) w7))] ((Option.bind (sm_wr w 41 6 a2 a3) fun w8 => (some (.null, w8)))))
set_option maxHeartbeats 4000000 in
set_option maxRecDepth 100000 in
theorem ss_hs_perform_0 {E : Nat × (Nat → Int32)}  (a1 : Int32) (a2 : Int32) (a3 : Int32) (w : sm_Mem) : sm_Sim E (mi_hs_perform) 0 [some (.ref 36), some (.int a1), some (.int a2), some (.int a3), none] [] w (ff_hs_perform  a1 a2 a3 w) := by
  unfold ff_hs_perform
  refine sm_iload_n ii_hs_perform_0 rfl ?_
  refine sm_table [28, 37, 55] 100 ii_hs_perform_1 rfl rfl rfl ⟨?_, ?_, ?_, trivial⟩ ?_
  · refine sm_aload_n ii_hs_perform_28 rfl ?_
    refine sm_iload_n ii_hs_perform_29 rfl ?_
    refine sm_iload_n ii_hs_perform_30 rfl ?_
    refine sm_cvV [.int a2, .int a3] [] rfl ii_hs_perform_31 ml_hs_90 (mf_hs_push) (mv_hs_push) (Nat.le_of_ble_eq_true rfl) rfl 1 rfl rfl rfl rfl (mc_hs_push (a2) (a3) w) (fun w4 => ?_)
    refine sm_goto 107 ii_hs_perform_34 (by decide) ?_
    exact sm_vret ii_hs_perform_107 rfl
  · refine sm_aload_n ii_hs_perform_37 rfl ?_
    refine sm_iconst (0 : Int32) ii_hs_perform_38 (by decide) ?_
    refine sm_putI ii_hs_perform_39 fp_hs_89 (k := 36) rfl (fun w5 => ?_)
    refine sm_aload_n ii_hs_perform_42 rfl ?_
    refine sm_dupR ii_hs_perform_43 ?_
    refine sm_getI ii_hs_perform_44 fl_hs_94 (k := 36) rfl ?_
    refine sm_iconst (1 : Int32) ii_hs_perform_47 (by decide) ?_
    refine sm_iadd ii_hs_perform_48 ?_
    refine sm_putI ii_hs_perform_49 fp_hs_94 (k := 36) rfl (fun w6 => ?_)
    refine sm_goto 107 ii_hs_perform_52 (by decide) ?_
    exact sm_vret ii_hs_perform_107 rfl
  · refine sm_aload_n ii_hs_perform_55 rfl ?_
    refine sm_dupR ii_hs_perform_56 ?_
    refine sm_getI ii_hs_perform_57 fl_hs_97 (k := 36) rfl ?_
    refine sm_iconst (1 : Int32) ii_hs_perform_60 (by decide) ?_
    refine sm_iadd ii_hs_perform_61 ?_
    refine sm_putI ii_hs_perform_62 fp_hs_97 (k := 36) rfl (fun w7 => ?_)
    refine sm_iconst (0 : Int32) ii_hs_perform_65 (by decide) ?_
    refine sm_istore [some (.ref 36), some (.int a1), some (.int a2), some (.int a3), some (.int (0 : Int32))] ii_hs_perform_66 rfl rfl ?_
    refine sm_msk [true, false, false, false, true] [some (.ref 36), none, none, none, some (.int (0 : Int32))] rfl ?_
    exact ss_hs_perform_68 ((0 : Int32)) w7
  · refine sm_aload_n ii_hs_perform_100 rfl ?_
    refine sm_getR 41 ii_hs_perform_101 fl_hs_24 (k := 36) rfl ?_
    refine sm_iload_n ii_hs_perform_104 rfl ?_
    refine sm_iload_n ii_hs_perform_105 rfl ?_
    refine sm_iast ii_hs_perform_106 (k := 41) rfl (fun w8 => ?_)
    exact sm_vret ii_hs_perform_107 rfl
set_option maxHeartbeats 4000000 in
set_option maxRecDepth 100000 in
theorem mc_hs_perform {E : Nat × (Nat → Int32)} (a1 : Int32) (a2 : Int32) (a3 : Int32) (w : sm_Mem) : sm_MC E mi_hs_perform [.ref 36, .int a1, .int a2, .int a3] w (ff_hs_perform a1 a2 a3 w) := sm_MC_of E (by decide +kernel) rfl (Nat.le_of_ble_eq_true rfl) (ss_hs_perform_0 a1 a2 a3 w)
abbrev mi_hs_goBackTo : sm_MI := (⟨"HerOrders$House", "goBackTo", "(I)V"⟩, prog_3_method_8_code, 3, none, 3)
set_option maxRecDepth 100000 in
theorem mf_hs_goBackTo : sm_MF mi_hs_goBackTo 1 := ⟨List.mem_of_getElem? (i := 396) (by decide +kernel), List.mem_of_getElem? (i := 73) (by decide +kernel), ⟨by decide, by decide⟩, by decide +kernel⟩
set_option maxRecDepth 100000 in
theorem mv_hs_goBackTo : sm_MFV mi_hs_goBackTo := ⟨List.mem_of_getElem? (i := 395) (by decide +kernel), List.mem_of_getElem? (i := 7) (by decide +kernel)⟩
set_option maxRecDepth 100000 in
theorem ii_hs_goBackTo_0 : sm_D prog_3_method_8_code 0 1 1 (.aload_n 0) := ⟨by decide +kernel, rfl⟩
set_option maxRecDepth 100000 in
theorem ii_hs_goBackTo_1 : sm_D prog_3_method_8_code 1 1 2 (.iconst 0) := ⟨by decide +kernel, rfl⟩
set_option maxRecDepth 100000 in
theorem ii_hs_goBackTo_2 : sm_D prog_3_method_8_code 2 3 5 (.putfield 97) := ⟨by decide +kernel, rfl⟩
set_option maxRecDepth 100000 in
theorem ii_hs_goBackTo_5 : sm_D prog_3_method_8_code 5 1 6 (.aload_n 0) := ⟨by decide +kernel, rfl⟩
set_option maxRecDepth 100000 in
theorem ii_hs_goBackTo_6 : sm_D prog_3_method_8_code 6 1 7 (.iconst 0) := ⟨by decide +kernel, rfl⟩
set_option maxRecDepth 100000 in
theorem ii_hs_goBackTo_7 : sm_D prog_3_method_8_code 7 3 10 (.putfield 94) := ⟨by decide +kernel, rfl⟩
set_option maxRecDepth 100000 in
theorem ii_hs_goBackTo_10 : sm_D prog_3_method_8_code 10 1 11 (.aload_n 0) := ⟨by decide +kernel, rfl⟩
set_option maxRecDepth 100000 in
theorem ii_hs_goBackTo_11 : sm_D prog_3_method_8_code 11 1 12 (.iconst 0) := ⟨by decide +kernel, rfl⟩
set_option maxRecDepth 100000 in
theorem ii_hs_goBackTo_12 : sm_D prog_3_method_8_code 12 3 15 (.putfield 89) := ⟨by decide +kernel, rfl⟩
set_option maxRecDepth 100000 in
theorem ii_hs_goBackTo_15 : sm_D prog_3_method_8_code 15 1 16 (.iconst 0) := ⟨by decide +kernel, rfl⟩
set_option maxRecDepth 100000 in
theorem ii_hs_goBackTo_16 : sm_D prog_3_method_8_code 16 1 17 (.istore_n 2) := ⟨by decide +kernel, rfl⟩
set_option maxRecDepth 100000 in
theorem ii_hs_goBackTo_17 : sm_D prog_3_method_8_code 17 1 18 (.iload_n 2) := ⟨by decide +kernel, rfl⟩
set_option maxRecDepth 100000 in
theorem ii_hs_goBackTo_18 : sm_D prog_3_method_8_code 18 1 19 (.aload_n 0) := ⟨by decide +kernel, rfl⟩
set_option maxRecDepth 100000 in
theorem ii_hs_goBackTo_19 : sm_D prog_3_method_8_code 19 3 22 (.getfield 45) := ⟨by decide +kernel, rfl⟩
set_option maxRecDepth 100000 in
theorem ii_hs_goBackTo_22 : sm_D prog_3_method_8_code 22 3 25 (.if_icmp .ge 33) := ⟨by decide +kernel, rfl⟩
set_option maxRecDepth 100000 in
theorem ii_hs_goBackTo_25 : sm_D prog_3_method_8_code 25 1 26 (.aload_n 0) := ⟨by decide +kernel, rfl⟩
set_option maxRecDepth 100000 in
theorem ii_hs_goBackTo_26 : sm_D prog_3_method_8_code 26 3 29 (.getfield 24) := ⟨by decide +kernel, rfl⟩
set_option maxRecDepth 100000 in
theorem ii_hs_goBackTo_29 : sm_D prog_3_method_8_code 29 1 30 (.iload_n 2) := ⟨by decide +kernel, rfl⟩
set_option maxRecDepth 100000 in
theorem ii_hs_goBackTo_30 : sm_D prog_3_method_8_code 30 1 31 (.aload_n 0) := ⟨by decide +kernel, rfl⟩
set_option maxRecDepth 100000 in
theorem ii_hs_goBackTo_31 : sm_D prog_3_method_8_code 31 3 34 (.getfield 18) := ⟨by decide +kernel, rfl⟩
set_option maxRecDepth 100000 in
theorem ii_hs_goBackTo_34 : sm_D prog_3_method_8_code 34 1 35 (.iload_n 2) := ⟨by decide +kernel, rfl⟩
set_option maxRecDepth 100000 in
theorem ii_hs_goBackTo_35 : sm_D prog_3_method_8_code 35 1 36 (.iaload) := ⟨by decide +kernel, rfl⟩
set_option maxRecDepth 100000 in
theorem ii_hs_goBackTo_36 : sm_D prog_3_method_8_code 36 1 37 (.iastore) := ⟨by decide +kernel, rfl⟩
set_option maxRecDepth 100000 in
theorem ii_hs_goBackTo_37 : sm_D prog_3_method_8_code 37 1 38 (.aload_n 0) := ⟨by decide +kernel, rfl⟩
set_option maxRecDepth 100000 in
theorem ii_hs_goBackTo_38 : sm_D prog_3_method_8_code 38 3 41 (.getfield 27) := ⟨by decide +kernel, rfl⟩
set_option maxRecDepth 100000 in
theorem ii_hs_goBackTo_41 : sm_D prog_3_method_8_code 41 1 42 (.iload_n 2) := ⟨by decide +kernel, rfl⟩
set_option maxRecDepth 100000 in
theorem ii_hs_goBackTo_42 : sm_D prog_3_method_8_code 42 1 43 (.aload_n 0) := ⟨by decide +kernel, rfl⟩
set_option maxRecDepth 100000 in
theorem ii_hs_goBackTo_43 : sm_D prog_3_method_8_code 43 3 46 (.getfield 21) := ⟨by decide +kernel, rfl⟩
set_option maxRecDepth 100000 in
theorem ii_hs_goBackTo_46 : sm_D prog_3_method_8_code 46 1 47 (.iload_n 2) := ⟨by decide +kernel, rfl⟩
set_option maxRecDepth 100000 in
theorem ii_hs_goBackTo_47 : sm_D prog_3_method_8_code 47 1 48 (.iaload) := ⟨by decide +kernel, rfl⟩
set_option maxRecDepth 100000 in
theorem ii_hs_goBackTo_48 : sm_D prog_3_method_8_code 48 1 49 (.iastore) := ⟨by decide +kernel, rfl⟩
set_option maxRecDepth 100000 in
theorem ii_hs_goBackTo_49 : sm_D prog_3_method_8_code 49 3 52 (.iinc 2 1) := ⟨by decide +kernel, rfl⟩
set_option maxRecDepth 100000 in
theorem ii_hs_goBackTo_52 : sm_D prog_3_method_8_code 52 3 55 (.goto (-35)) := ⟨by decide +kernel, rfl⟩
set_option maxRecDepth 100000 in
theorem ii_hs_goBackTo_55 : sm_D prog_3_method_8_code 55 1 56 (.aload_n 0) := ⟨by decide +kernel, rfl⟩
set_option maxRecDepth 100000 in
theorem ii_hs_goBackTo_56 : sm_D prog_3_method_8_code 56 3 59 (.getfield 41) := ⟨by decide +kernel, rfl⟩
set_option maxRecDepth 100000 in
theorem ii_hs_goBackTo_59 : sm_D prog_3_method_8_code 59 1 60 (.iload_n 1) := ⟨by decide +kernel, rfl⟩
set_option maxRecDepth 100000 in
theorem ii_hs_goBackTo_60 : sm_D prog_3_method_8_code 60 3 63 (.putfield 68) := ⟨by decide +kernel, rfl⟩
set_option maxRecDepth 100000 in
theorem ii_hs_goBackTo_63 : sm_D prog_3_method_8_code 63 1 64 (.iconst 0) := ⟨by decide +kernel, rfl⟩
set_option maxRecDepth 100000 in
theorem ii_hs_goBackTo_64 : sm_D prog_3_method_8_code 64 1 65 (.istore_n 2) := ⟨by decide +kernel, rfl⟩
set_option maxRecDepth 100000 in
theorem ii_hs_goBackTo_65 : sm_D prog_3_method_8_code 65 1 66 (.iload_n 2) := ⟨by decide +kernel, rfl⟩
set_option maxRecDepth 100000 in
theorem ii_hs_goBackTo_66 : sm_D prog_3_method_8_code 66 1 67 (.iload_n 1) := ⟨by decide +kernel, rfl⟩
set_option maxRecDepth 100000 in
theorem ii_hs_goBackTo_67 : sm_D prog_3_method_8_code 67 3 70 (.if_icmp .ge 40) := ⟨by decide +kernel, rfl⟩
set_option maxRecDepth 100000 in
theorem ii_hs_goBackTo_70 : sm_D prog_3_method_8_code 70 1 71 (.aload_n 0) := ⟨by decide +kernel, rfl⟩
set_option maxRecDepth 100000 in
theorem ii_hs_goBackTo_71 : sm_D prog_3_method_8_code 71 1 72 (.aload_n 0) := ⟨by decide +kernel, rfl⟩
set_option maxRecDepth 100000 in
theorem ii_hs_goBackTo_72 : sm_D prog_3_method_8_code 72 3 75 (.getfield 41) := ⟨by decide +kernel, rfl⟩
set_option maxRecDepth 100000 in
theorem ii_hs_goBackTo_75 : sm_D prog_3_method_8_code 75 3 78 (.getfield 100) := ⟨by decide +kernel, rfl⟩
set_option maxRecDepth 100000 in
theorem ii_hs_goBackTo_78 : sm_D prog_3_method_8_code 78 1 79 (.iload_n 2) := ⟨by decide +kernel, rfl⟩
set_option maxRecDepth 100000 in
theorem ii_hs_goBackTo_79 : sm_D prog_3_method_8_code 79 1 80 (.iaload) := ⟨by decide +kernel, rfl⟩
set_option maxRecDepth 100000 in
theorem ii_hs_goBackTo_80 : sm_D prog_3_method_8_code 80 1 81 (.aload_n 0) := ⟨by decide +kernel, rfl⟩
set_option maxRecDepth 100000 in
theorem ii_hs_goBackTo_81 : sm_D prog_3_method_8_code 81 3 84 (.getfield 41) := ⟨by decide +kernel, rfl⟩
set_option maxRecDepth 100000 in
theorem ii_hs_goBackTo_84 : sm_D prog_3_method_8_code 84 3 87 (.getfield 103) := ⟨by decide +kernel, rfl⟩
set_option maxRecDepth 100000 in
theorem ii_hs_goBackTo_87 : sm_D prog_3_method_8_code 87 1 88 (.iload_n 2) := ⟨by decide +kernel, rfl⟩
set_option maxRecDepth 100000 in
theorem ii_hs_goBackTo_88 : sm_D prog_3_method_8_code 88 1 89 (.iaload) := ⟨by decide +kernel, rfl⟩
set_option maxRecDepth 100000 in
theorem ii_hs_goBackTo_89 : sm_D prog_3_method_8_code 89 1 90 (.aload_n 0) := ⟨by decide +kernel, rfl⟩
set_option maxRecDepth 100000 in
theorem ii_hs_goBackTo_90 : sm_D prog_3_method_8_code 90 3 93 (.getfield 41) := ⟨by decide +kernel, rfl⟩
set_option maxRecDepth 100000 in
theorem ii_hs_goBackTo_93 : sm_D prog_3_method_8_code 93 3 96 (.getfield 106) := ⟨by decide +kernel, rfl⟩
set_option maxRecDepth 100000 in
theorem ii_hs_goBackTo_96 : sm_D prog_3_method_8_code 96 1 97 (.iload_n 2) := ⟨by decide +kernel, rfl⟩
set_option maxRecDepth 100000 in
theorem ii_hs_goBackTo_97 : sm_D prog_3_method_8_code 97 1 98 (.iaload) := ⟨by decide +kernel, rfl⟩
set_option maxRecDepth 100000 in
theorem ii_hs_goBackTo_98 : sm_D prog_3_method_8_code 98 3 101 (.invokevirtual 73) := ⟨by decide +kernel, rfl⟩
set_option maxRecDepth 100000 in
theorem ii_hs_goBackTo_101 : sm_D prog_3_method_8_code 101 3 104 (.iinc 2 1) := ⟨by decide +kernel, rfl⟩
set_option maxRecDepth 100000 in
theorem ii_hs_goBackTo_104 : sm_D prog_3_method_8_code 104 3 107 (.goto (-39)) := ⟨by decide +kernel, rfl⟩
set_option maxRecDepth 100000 in
theorem ii_hs_goBackTo_107 : sm_D prog_3_method_8_code 107 1 108 (.return_) := ⟨by decide +kernel, rfl⟩
noncomputable def ff_hs_goBackTo_65_b  (self65 : Int32 → Int32 → sm_Mem → sm_R) (a1 : Int32) (a2 : Int32) (w : sm_Mem) : sm_R := (if a1 ≤ a2 then (some (.null, w)) else (Option.bind (sm_rd w 46 40 a2) fun x1 => (Option.bind (sm_rd w 47 40 a2) fun x2 => (Option.bind (sm_rd w 48 40 a2) fun x3 => (sm_cV (ff_hs_perform (x1) (x2) (x3) w) fun w5 => self65 (a1) ((a2 + (1 : Int32))) w5)))))
noncomputable def ff_hs_goBackTo_65_f  : Nat → Int32 → Int32 → sm_Mem → sm_R
  | 0, _, _, _ => none
  | n + 1, a1, a2, w => ff_hs_goBackTo_65_b  (ff_hs_goBackTo_65_f  n) a1 a2 w
noncomputable def ff_hs_goBackTo_65  (a1 : Int32) (a2 : Int32) (w : sm_Mem) : sm_R := ff_hs_goBackTo_65_f  sm_N a1 a2 w
set_option maxHeartbeats 4000000 in
set_option maxRecDepth 100000 in
theorem ss_hs_goBackTo_65_b {E : Nat × (Nat → Int32)}  (self65 : Int32 → Int32 → sm_Mem → sm_R) (hself65 : ∀ (a1 : Int32) (a2 : Int32) (w : sm_Mem), sm_Sim E (mi_hs_goBackTo) 65 [some (.ref 36), some (.int a1), some (.int a2)] [] w (self65 a1 a2 w)) (a1 : Int32) (a2 : Int32) (w : sm_Mem) : sm_Sim E (mi_hs_goBackTo) 65 [some (.ref 36), some (.int a1), some (.int a2)] [] w (ff_hs_goBackTo_65_b  self65 a1 a2 w) := by
  unfold ff_hs_goBackTo_65_b
  refine sm_iload_n ii_hs_goBackTo_65 rfl ?_
  refine sm_iload_n ii_hs_goBackTo_66 rfl ?_
  refine sm_icmp_ge 107 ii_hs_goBackTo_67 (by decide) ?_ ?_
  · exact sm_vret ii_hs_goBackTo_107 rfl
  · refine sm_aload_n ii_hs_goBackTo_70 rfl ?_
    refine sm_aload_n ii_hs_goBackTo_71 rfl ?_
    refine sm_getR 45 ii_hs_goBackTo_72 fl_hs_41 (k := 36) rfl ?_
    refine sm_getR 46 ii_hs_goBackTo_75 fl_hs_100 (k := 45) rfl ?_
    refine sm_iload_n ii_hs_goBackTo_78 rfl ?_
    refine sm_iald ii_hs_goBackTo_79 (k := 46) rfl (fun x1 => ?_)
    refine sm_aload_n ii_hs_goBackTo_80 rfl ?_
    refine sm_getR 45 ii_hs_goBackTo_81 fl_hs_41 (k := 36) rfl ?_
    refine sm_getR 47 ii_hs_goBackTo_84 fl_hs_103 (k := 45) rfl ?_
    refine sm_iload_n ii_hs_goBackTo_87 rfl ?_
    refine sm_iald ii_hs_goBackTo_88 (k := 47) rfl (fun x2 => ?_)
    refine sm_aload_n ii_hs_goBackTo_89 rfl ?_
    refine sm_getR 45 ii_hs_goBackTo_90 fl_hs_41 (k := 36) rfl ?_
    refine sm_getR 48 ii_hs_goBackTo_93 fl_hs_106 (k := 45) rfl ?_
    refine sm_iload_n ii_hs_goBackTo_96 rfl ?_
    refine sm_iald ii_hs_goBackTo_97 (k := 48) rfl (fun x3 => ?_)
    refine sm_cvV [.int x1, .int x2, .int x3] [] rfl ii_hs_goBackTo_98 ml_hs_73 (mf_hs_perform) (mv_hs_perform) (Nat.le_of_ble_eq_true rfl) rfl 1 rfl rfl rfl rfl (mc_hs_perform (x1) (x2) (x3) w) (fun w5 => ?_)
    refine sm_iinc (a2 + (1 : Int32)) [some (.ref 36), some (.int a1), some (.int (a2 + (1 : Int32)))] ii_hs_goBackTo_101 rfl rfl rfl rfl ?_
    refine sm_goto 65 ii_hs_goBackTo_104 (by decide) ?_
    exact hself65 (a1) ((a2 + (1 : Int32))) w5
set_option maxHeartbeats 4000000 in
set_option maxRecDepth 100000 in
theorem ss_hs_goBackTo_65_f {E : Nat × (Nat → Int32)}  : ∀ (n : Nat) (a1 : Int32) (a2 : Int32) (w : sm_Mem), sm_Sim E (mi_hs_goBackTo) 65 [some (.ref 36), some (.int a1), some (.int a2)] [] w (ff_hs_goBackTo_65_f  n a1 a2 w)
  | 0, _, _, _ => fun _ _ h => by cases h
  | n + 1, a1, a2, w => ss_hs_goBackTo_65_b  _ (ss_hs_goBackTo_65_f  n) a1 a2 w
set_option maxHeartbeats 4000000 in
set_option maxRecDepth 100000 in
theorem ss_hs_goBackTo_65 {E : Nat × (Nat → Int32)}  (a1 : Int32) (a2 : Int32) (w : sm_Mem) : sm_Sim E (mi_hs_goBackTo) 65 [some (.ref 36), some (.int a1), some (.int a2)] [] w (ff_hs_goBackTo_65  a1 a2 w) := ss_hs_goBackTo_65_f  sm_N a1 a2 w
noncomputable def ff_hs_goBackTo_17_b  (self17 : Int32 → Int32 → sm_Mem → sm_R) (a1 : Int32) (a2 : Int32) (w : sm_Mem) : sm_R := (if (w.1 36 0) ≤ a2 then (sm_let (sm_wI w 45 3 a1) fun w6 => ff_hs_goBackTo_65 (a1) ((0 : Int32)) w6) else (Option.bind (sm_rd w 39 6 a2) fun x7 => (Option.bind (sm_wr w 41 6 a2 x7) fun w8 => (Option.bind (sm_rd w8 40 6 a2) fun x9 => (Option.bind (sm_wr w8 42 6 a2 x9) fun w10 => self17 (a1) ((a2 + (1 : Int32))) w10)))))
noncomputable def ff_hs_goBackTo_17_f  : Nat → Int32 → Int32 → sm_Mem → sm_R
  | 0, _, _, _ => none
  | n + 1, a1, a2, w => ff_hs_goBackTo_17_b  (ff_hs_goBackTo_17_f  n) a1 a2 w
noncomputable def ff_hs_goBackTo_17  (a1 : Int32) (a2 : Int32) (w : sm_Mem) : sm_R := ff_hs_goBackTo_17_f  sm_N a1 a2 w
set_option maxHeartbeats 4000000 in
set_option maxRecDepth 100000 in
theorem ss_hs_goBackTo_17_b {E : Nat × (Nat → Int32)}  (self17 : Int32 → Int32 → sm_Mem → sm_R) (hself17 : ∀ (a1 : Int32) (a2 : Int32) (w : sm_Mem), sm_Sim E (mi_hs_goBackTo) 17 [some (.ref 36), some (.int a1), some (.int a2)] [] w (self17 a1 a2 w)) (a1 : Int32) (a2 : Int32) (w : sm_Mem) : sm_Sim E (mi_hs_goBackTo) 17 [some (.ref 36), some (.int a1), some (.int a2)] [] w (ff_hs_goBackTo_17_b  self17 a1 a2 w) := by
  unfold ff_hs_goBackTo_17_b
  refine sm_iload_n ii_hs_goBackTo_17 rfl ?_
  refine sm_aload_n ii_hs_goBackTo_18 rfl ?_
  refine sm_getI ii_hs_goBackTo_19 fl_hs_45 (k := 36) rfl ?_
  refine sm_icmp_ge 55 ii_hs_goBackTo_22 (by decide) ?_ ?_
  · refine sm_aload_n ii_hs_goBackTo_55 rfl ?_
    refine sm_getR 45 ii_hs_goBackTo_56 fl_hs_41 (k := 36) rfl ?_
    refine sm_iload_n ii_hs_goBackTo_59 rfl ?_
    refine sm_putI ii_hs_goBackTo_60 fp_hs_68 (k := 45) rfl (fun w6 => ?_)
    refine sm_iconst (0 : Int32) ii_hs_goBackTo_63 (by decide) ?_
    refine sm_istore_n [some (.ref 36), some (.int a1), some (.int (0 : Int32))] ii_hs_goBackTo_64 rfl rfl ?_
    exact ss_hs_goBackTo_65 (a1) ((0 : Int32)) w6
  · refine sm_aload_n ii_hs_goBackTo_25 rfl ?_
    refine sm_getR 41 ii_hs_goBackTo_26 fl_hs_24 (k := 36) rfl ?_
    refine sm_iload_n ii_hs_goBackTo_29 rfl ?_
    refine sm_aload_n ii_hs_goBackTo_30 rfl ?_
    refine sm_getR 39 ii_hs_goBackTo_31 fl_hs_18 (k := 36) rfl ?_
    refine sm_iload_n ii_hs_goBackTo_34 rfl ?_
    refine sm_iald ii_hs_goBackTo_35 (k := 39) rfl (fun x7 => ?_)
    refine sm_iast ii_hs_goBackTo_36 (k := 41) rfl (fun w8 => ?_)
    refine sm_aload_n ii_hs_goBackTo_37 rfl ?_
    refine sm_getR 42 ii_hs_goBackTo_38 fl_hs_27 (k := 36) rfl ?_
    refine sm_iload_n ii_hs_goBackTo_41 rfl ?_
    refine sm_aload_n ii_hs_goBackTo_42 rfl ?_
    refine sm_getR 40 ii_hs_goBackTo_43 fl_hs_21 (k := 36) rfl ?_
    refine sm_iload_n ii_hs_goBackTo_46 rfl ?_
    refine sm_iald ii_hs_goBackTo_47 (k := 40) rfl (fun x9 => ?_)
    refine sm_iast ii_hs_goBackTo_48 (k := 42) rfl (fun w10 => ?_)
    refine sm_iinc (a2 + (1 : Int32)) [some (.ref 36), some (.int a1), some (.int (a2 + (1 : Int32)))] ii_hs_goBackTo_49 rfl rfl rfl rfl ?_
    refine sm_goto 17 ii_hs_goBackTo_52 (by decide) ?_
    exact hself17 (a1) ((a2 + (1 : Int32))) w10
set_option maxHeartbeats 4000000 in
set_option maxRecDepth 100000 in
theorem ss_hs_goBackTo_17_f {E : Nat × (Nat → Int32)}  : ∀ (n : Nat) (a1 : Int32) (a2 : Int32) (w : sm_Mem), sm_Sim E (mi_hs_goBackTo) 17 [some (.ref 36), some (.int a1), some (.int a2)] [] w (ff_hs_goBackTo_17_f  n a1 a2 w)
  | 0, _, _, _ => fun _ _ h => by cases h
  | n + 1, a1, a2, w => ss_hs_goBackTo_17_b  _ (ss_hs_goBackTo_17_f  n) a1 a2 w
set_option maxHeartbeats 4000000 in
set_option maxRecDepth 100000 in
theorem ss_hs_goBackTo_17 {E : Nat × (Nat → Int32)}  (a1 : Int32) (a2 : Int32) (w : sm_Mem) : sm_Sim E (mi_hs_goBackTo) 17 [some (.ref 36), some (.int a1), some (.int a2)] [] w (ff_hs_goBackTo_17  a1 a2 w) := ss_hs_goBackTo_17_f  sm_N a1 a2 w
noncomputable def ff_hs_goBackTo  (a1 : Int32) (w : sm_Mem) : sm_R := (sm_let (sm_wI w 36 7 (0 : Int32)) fun w11 => (sm_let (sm_wI w11 36 8 (0 : Int32)) fun w12 => (sm_let (sm_wI w12 36 11 (0 : Int32)) fun w13 => ff_hs_goBackTo_17 (a1) ((0 : Int32)) w13)))
set_option maxHeartbeats 4000000 in
set_option maxRecDepth 100000 in
theorem ss_hs_goBackTo_0 {E : Nat × (Nat → Int32)}  (a1 : Int32) (w : sm_Mem) : sm_Sim E (mi_hs_goBackTo) 0 [some (.ref 36), some (.int a1), none] [] w (ff_hs_goBackTo  a1 w) := by
  unfold ff_hs_goBackTo
  refine sm_aload_n ii_hs_goBackTo_0 rfl ?_
  refine sm_iconst (0 : Int32) ii_hs_goBackTo_1 (by decide) ?_
  refine sm_putI ii_hs_goBackTo_2 fp_hs_97 (k := 36) rfl (fun w11 => ?_)
  refine sm_aload_n ii_hs_goBackTo_5 rfl ?_
  refine sm_iconst (0 : Int32) ii_hs_goBackTo_6 (by decide) ?_
  refine sm_putI ii_hs_goBackTo_7 fp_hs_94 (k := 36) rfl (fun w12 => ?_)
  refine sm_aload_n ii_hs_goBackTo_10 rfl ?_
  refine sm_iconst (0 : Int32) ii_hs_goBackTo_11 (by decide) ?_
  refine sm_putI ii_hs_goBackTo_12 fp_hs_89 (k := 36) rfl (fun w13 => ?_)
  refine sm_iconst (0 : Int32) ii_hs_goBackTo_15 (by decide) ?_
  refine sm_istore_n [some (.ref 36), some (.int a1), some (.int (0 : Int32))] ii_hs_goBackTo_16 rfl rfl ?_
  exact ss_hs_goBackTo_17 (a1) ((0 : Int32)) w13
set_option maxHeartbeats 4000000 in
set_option maxRecDepth 100000 in
theorem mc_hs_goBackTo {E : Nat × (Nat → Int32)} (a1 : Int32) (w : sm_Mem) : sm_MC E mi_hs_goBackTo [.ref 36, .int a1] w (ff_hs_goBackTo a1 w) := sm_MC_of E (by decide +kernel) rfl (Nat.le_of_ble_eq_true rfl) (ss_hs_goBackTo_0 a1 w)
abbrev mi_hs_settle : sm_MI := (⟨"HerOrders$House", "settle", "(LHerOrders$Row;)V"⟩, prog_3_method_2_code, 3, none, 4)
set_option maxRecDepth 100000 in
theorem mf_hs_settle : sm_MF mi_hs_settle 1 := ⟨List.mem_of_getElem? (i := 388) (by decide +kernel), List.mem_of_getElem? (i := 73) (by decide +kernel), ⟨by decide, by decide⟩, by decide +kernel⟩
set_option maxRecDepth 100000 in
theorem mv_hs_settle : sm_MFV mi_hs_settle := ⟨List.mem_of_getElem? (i := 387) (by decide +kernel), List.mem_of_getElem? (i := 6) (by decide +kernel)⟩
set_option maxRecDepth 100000 in
theorem ii_hs_settle_0 : sm_D prog_3_method_2_code 0 1 1 (.aload_n 0) := ⟨by decide +kernel, rfl⟩
set_option maxRecDepth 100000 in
theorem ii_hs_settle_1 : sm_D prog_3_method_2_code 1 1 2 (.iconst 0) := ⟨by decide +kernel, rfl⟩
set_option maxRecDepth 100000 in
theorem ii_hs_settle_2 : sm_D prog_3_method_2_code 2 3 5 (.putfield 45) := ⟨by decide +kernel, rfl⟩
set_option maxRecDepth 100000 in
theorem ii_hs_settle_5 : sm_D prog_3_method_2_code 5 1 6 (.iconst 0) := ⟨by decide +kernel, rfl⟩
set_option maxRecDepth 100000 in
theorem ii_hs_settle_6 : sm_D prog_3_method_2_code 6 1 7 (.istore_n 2) := ⟨by decide +kernel, rfl⟩
set_option maxRecDepth 100000 in
theorem ii_hs_settle_7 : sm_D prog_3_method_2_code 7 1 8 (.iload_n 2) := ⟨by decide +kernel, rfl⟩
set_option maxRecDepth 100000 in
theorem ii_hs_settle_8 : sm_D prog_3_method_2_code 8 1 9 (.iconst 5) := ⟨by decide +kernel, rfl⟩
set_option maxRecDepth 100000 in
theorem ii_hs_settle_9 : sm_D prog_3_method_2_code 9 1 10 (.iadd) := ⟨by decide +kernel, rfl⟩
set_option maxRecDepth 100000 in
theorem ii_hs_settle_10 : sm_D prog_3_method_2_code 10 1 11 (.aload_n 1) := ⟨by decide +kernel, rfl⟩
set_option maxRecDepth 100000 in
theorem ii_hs_settle_11 : sm_D prog_3_method_2_code 11 3 14 (.getfield 49) := ⟨by decide +kernel, rfl⟩
set_option maxRecDepth 100000 in
theorem ii_hs_settle_14 : sm_D prog_3_method_2_code 14 3 17 (.if_icmp .gt 122) := ⟨by decide +kernel, rfl⟩
set_option maxRecDepth 100000 in
theorem ii_hs_settle_17 : sm_D prog_3_method_2_code 17 1 18 (.aload_n 0) := ⟨by decide +kernel, rfl⟩
set_option maxRecDepth 100000 in
theorem ii_hs_settle_18 : sm_D prog_3_method_2_code 18 3 21 (.getfield 45) := ⟨by decide +kernel, rfl⟩
set_option maxRecDepth 100000 in
theorem ii_hs_settle_21 : sm_D prog_3_method_2_code 21 2 23 (.bipush 6) := ⟨by decide +kernel, rfl⟩
set_option maxRecDepth 100000 in
theorem ii_hs_settle_23 : sm_D prog_3_method_2_code 23 3 26 (.if_icmp .ge 113) := ⟨by decide +kernel, rfl⟩
set_option maxRecDepth 100000 in
theorem ii_hs_settle_26 : sm_D prog_3_method_2_code 26 1 27 (.aload_n 1) := ⟨by decide +kernel, rfl⟩
set_option maxRecDepth 100000 in
theorem ii_hs_settle_27 : sm_D prog_3_method_2_code 27 3 30 (.getfield 54) := ⟨by decide +kernel, rfl⟩
set_option maxRecDepth 100000 in
theorem ii_hs_settle_30 : sm_D prog_3_method_2_code 30 1 31 (.iload_n 2) := ⟨by decide +kernel, rfl⟩
set_option maxRecDepth 100000 in
theorem ii_hs_settle_31 : sm_D prog_3_method_2_code 31 1 32 (.iaload) := ⟨by decide +kernel, rfl⟩
set_option maxRecDepth 100000 in
theorem ii_hs_settle_32 : sm_D prog_3_method_2_code 32 2 34 (.bipush 32) := ⟨by decide +kernel, rfl⟩
set_option maxRecDepth 100000 in
theorem ii_hs_settle_34 : sm_D prog_3_method_2_code 34 3 37 (.if_icmp .ne 6) := ⟨by decide +kernel, rfl⟩
set_option maxRecDepth 100000 in
theorem ii_hs_settle_37 : sm_D prog_3_method_2_code 37 3 40 (.goto 93) := ⟨by decide +kernel, rfl⟩
set_option maxRecDepth 100000 in
theorem ii_hs_settle_40 : sm_D prog_3_method_2_code 40 1 41 (.aload_n 0) := ⟨by decide +kernel, rfl⟩
set_option maxRecDepth 100000 in
theorem ii_hs_settle_41 : sm_D prog_3_method_2_code 41 3 44 (.getfield 9) := ⟨by decide +kernel, rfl⟩
set_option maxRecDepth 100000 in
theorem ii_hs_settle_44 : sm_D prog_3_method_2_code 44 1 45 (.aload_n 0) := ⟨by decide +kernel, rfl⟩
set_option maxRecDepth 100000 in
theorem ii_hs_settle_45 : sm_D prog_3_method_2_code 45 3 48 (.getfield 45) := ⟨by decide +kernel, rfl⟩
set_option maxRecDepth 100000 in
theorem ii_hs_settle_48 : sm_D prog_3_method_2_code 48 1 49 (.aload_n 1) := ⟨by decide +kernel, rfl⟩
set_option maxRecDepth 100000 in
theorem ii_hs_settle_49 : sm_D prog_3_method_2_code 49 3 52 (.getfield 54) := ⟨by decide +kernel, rfl⟩
set_option maxRecDepth 100000 in
theorem ii_hs_settle_52 : sm_D prog_3_method_2_code 52 1 53 (.iload_n 2) := ⟨by decide +kernel, rfl⟩
set_option maxRecDepth 100000 in
theorem ii_hs_settle_53 : sm_D prog_3_method_2_code 53 1 54 (.iaload) := ⟨by decide +kernel, rfl⟩
set_option maxRecDepth 100000 in
theorem ii_hs_settle_54 : sm_D prog_3_method_2_code 54 3 57 (.invokestatic 57) := ⟨by decide +kernel, rfl⟩
set_option maxRecDepth 100000 in
theorem ii_hs_settle_57 : sm_D prog_3_method_2_code 57 1 58 (.iastore) := ⟨by decide +kernel, rfl⟩
set_option maxRecDepth 100000 in
theorem ii_hs_settle_58 : sm_D prog_3_method_2_code 58 1 59 (.aload_n 0) := ⟨by decide +kernel, rfl⟩
set_option maxRecDepth 100000 in
theorem ii_hs_settle_59 : sm_D prog_3_method_2_code 59 3 62 (.getfield 15) := ⟨by decide +kernel, rfl⟩
set_option maxRecDepth 100000 in
theorem ii_hs_settle_62 : sm_D prog_3_method_2_code 62 1 63 (.aload_n 0) := ⟨by decide +kernel, rfl⟩
set_option maxRecDepth 100000 in
theorem ii_hs_settle_63 : sm_D prog_3_method_2_code 63 3 66 (.getfield 45) := ⟨by decide +kernel, rfl⟩
set_option maxRecDepth 100000 in
theorem ii_hs_settle_66 : sm_D prog_3_method_2_code 66 2 68 (.bipush 10) := ⟨by decide +kernel, rfl⟩
set_option maxRecDepth 100000 in
theorem ii_hs_settle_68 : sm_D prog_3_method_2_code 68 1 69 (.aload_n 1) := ⟨by decide +kernel, rfl⟩
set_option maxRecDepth 100000 in
theorem ii_hs_settle_69 : sm_D prog_3_method_2_code 69 1 70 (.iload_n 2) := ⟨by decide +kernel, rfl⟩
set_option maxRecDepth 100000 in
theorem ii_hs_settle_70 : sm_D prog_3_method_2_code 70 1 71 (.iconst 1) := ⟨by decide +kernel, rfl⟩
set_option maxRecDepth 100000 in
theorem ii_hs_settle_71 : sm_D prog_3_method_2_code 71 1 72 (.iadd) := ⟨by decide +kernel, rfl⟩
set_option maxRecDepth 100000 in
theorem ii_hs_settle_72 : sm_D prog_3_method_2_code 72 3 75 (.invokestatic 61) := ⟨by decide +kernel, rfl⟩
set_option maxRecDepth 100000 in
theorem ii_hs_settle_75 : sm_D prog_3_method_2_code 75 1 76 (.imul) := ⟨by decide +kernel, rfl⟩
set_option maxRecDepth 100000 in
theorem ii_hs_settle_76 : sm_D prog_3_method_2_code 76 1 77 (.aload_n 1) := ⟨by decide +kernel, rfl⟩
set_option maxRecDepth 100000 in
theorem ii_hs_settle_77 : sm_D prog_3_method_2_code 77 1 78 (.iload_n 2) := ⟨by decide +kernel, rfl⟩
set_option maxRecDepth 100000 in
theorem ii_hs_settle_78 : sm_D prog_3_method_2_code 78 1 79 (.iconst 2) := ⟨by decide +kernel, rfl⟩
set_option maxRecDepth 100000 in
theorem ii_hs_settle_79 : sm_D prog_3_method_2_code 79 1 80 (.iadd) := ⟨by decide +kernel, rfl⟩
set_option maxRecDepth 100000 in
theorem ii_hs_settle_80 : sm_D prog_3_method_2_code 80 3 83 (.invokestatic 61) := ⟨by decide +kernel, rfl⟩
set_option maxRecDepth 100000 in
theorem ii_hs_settle_83 : sm_D prog_3_method_2_code 83 1 84 (.iadd) := ⟨by decide +kernel, rfl⟩
set_option maxRecDepth 100000 in
theorem ii_hs_settle_84 : sm_D prog_3_method_2_code 84 1 85 (.iastore) := ⟨by decide +kernel, rfl⟩
set_option maxRecDepth 100000 in
theorem ii_hs_settle_85 : sm_D prog_3_method_2_code 85 1 86 (.aload_n 0) := ⟨by decide +kernel, rfl⟩
set_option maxRecDepth 100000 in
theorem ii_hs_settle_86 : sm_D prog_3_method_2_code 86 3 89 (.getfield 18) := ⟨by decide +kernel, rfl⟩
set_option maxRecDepth 100000 in
theorem ii_hs_settle_89 : sm_D prog_3_method_2_code 89 1 90 (.aload_n 0) := ⟨by decide +kernel, rfl⟩
set_option maxRecDepth 100000 in
theorem ii_hs_settle_90 : sm_D prog_3_method_2_code 90 3 93 (.getfield 45) := ⟨by decide +kernel, rfl⟩
set_option maxRecDepth 100000 in
theorem ii_hs_settle_93 : sm_D prog_3_method_2_code 93 1 94 (.aload_n 1) := ⟨by decide +kernel, rfl⟩
set_option maxRecDepth 100000 in
theorem ii_hs_settle_94 : sm_D prog_3_method_2_code 94 1 95 (.iload_n 2) := ⟨by decide +kernel, rfl⟩
set_option maxRecDepth 100000 in
theorem ii_hs_settle_95 : sm_D prog_3_method_2_code 95 1 96 (.iconst 3) := ⟨by decide +kernel, rfl⟩
set_option maxRecDepth 100000 in
theorem ii_hs_settle_96 : sm_D prog_3_method_2_code 96 1 97 (.iadd) := ⟨by decide +kernel, rfl⟩
set_option maxRecDepth 100000 in
theorem ii_hs_settle_97 : sm_D prog_3_method_2_code 97 3 100 (.invokestatic 61) := ⟨by decide +kernel, rfl⟩
set_option maxRecDepth 100000 in
theorem ii_hs_settle_100 : sm_D prog_3_method_2_code 100 1 101 (.iastore) := ⟨by decide +kernel, rfl⟩
set_option maxRecDepth 100000 in
theorem ii_hs_settle_101 : sm_D prog_3_method_2_code 101 1 102 (.aload_n 0) := ⟨by decide +kernel, rfl⟩
set_option maxRecDepth 100000 in
theorem ii_hs_settle_102 : sm_D prog_3_method_2_code 102 3 105 (.getfield 21) := ⟨by decide +kernel, rfl⟩
set_option maxRecDepth 100000 in
theorem ii_hs_settle_105 : sm_D prog_3_method_2_code 105 1 106 (.aload_n 0) := ⟨by decide +kernel, rfl⟩
set_option maxRecDepth 100000 in
theorem ii_hs_settle_106 : sm_D prog_3_method_2_code 106 3 109 (.getfield 45) := ⟨by decide +kernel, rfl⟩
set_option maxRecDepth 100000 in
theorem ii_hs_settle_109 : sm_D prog_3_method_2_code 109 1 110 (.aload_n 1) := ⟨by decide +kernel, rfl⟩
set_option maxRecDepth 100000 in
theorem ii_hs_settle_110 : sm_D prog_3_method_2_code 110 1 111 (.iload_n 2) := ⟨by decide +kernel, rfl⟩
set_option maxRecDepth 100000 in
theorem ii_hs_settle_111 : sm_D prog_3_method_2_code 111 1 112 (.iconst 4) := ⟨by decide +kernel, rfl⟩
set_option maxRecDepth 100000 in
theorem ii_hs_settle_112 : sm_D prog_3_method_2_code 112 1 113 (.iadd) := ⟨by decide +kernel, rfl⟩
set_option maxRecDepth 100000 in
theorem ii_hs_settle_113 : sm_D prog_3_method_2_code 113 3 116 (.invokestatic 61) := ⟨by decide +kernel, rfl⟩
set_option maxRecDepth 100000 in
theorem ii_hs_settle_116 : sm_D prog_3_method_2_code 116 1 117 (.iastore) := ⟨by decide +kernel, rfl⟩
set_option maxRecDepth 100000 in
theorem ii_hs_settle_117 : sm_D prog_3_method_2_code 117 1 118 (.aload_n 0) := ⟨by decide +kernel, rfl⟩
set_option maxRecDepth 100000 in
theorem ii_hs_settle_118 : sm_D prog_3_method_2_code 118 1 119 (.dup) := ⟨by decide +kernel, rfl⟩
set_option maxRecDepth 100000 in
theorem ii_hs_settle_119 : sm_D prog_3_method_2_code 119 3 122 (.getfield 45) := ⟨by decide +kernel, rfl⟩
set_option maxRecDepth 100000 in
theorem ii_hs_settle_122 : sm_D prog_3_method_2_code 122 1 123 (.iconst 1) := ⟨by decide +kernel, rfl⟩
set_option maxRecDepth 100000 in
theorem ii_hs_settle_123 : sm_D prog_3_method_2_code 123 1 124 (.iadd) := ⟨by decide +kernel, rfl⟩
set_option maxRecDepth 100000 in
theorem ii_hs_settle_124 : sm_D prog_3_method_2_code 124 3 127 (.putfield 45) := ⟨by decide +kernel, rfl⟩
set_option maxRecDepth 100000 in
theorem ii_hs_settle_127 : sm_D prog_3_method_2_code 127 3 130 (.iinc 2 4) := ⟨by decide +kernel, rfl⟩
set_option maxRecDepth 100000 in
theorem ii_hs_settle_130 : sm_D prog_3_method_2_code 130 3 133 (.iinc 2 1) := ⟨by decide +kernel, rfl⟩
set_option maxRecDepth 100000 in
theorem ii_hs_settle_133 : sm_D prog_3_method_2_code 133 3 136 (.goto (-126)) := ⟨by decide +kernel, rfl⟩
set_option maxRecDepth 100000 in
theorem ii_hs_settle_136 : sm_D prog_3_method_2_code 136 1 137 (.aload_n 0) := ⟨by decide +kernel, rfl⟩
set_option maxRecDepth 100000 in
theorem ii_hs_settle_137 : sm_D prog_3_method_2_code 137 1 138 (.iconst 0) := ⟨by decide +kernel, rfl⟩
set_option maxRecDepth 100000 in
theorem ii_hs_settle_138 : sm_D prog_3_method_2_code 138 3 141 (.invokevirtual 65) := ⟨by decide +kernel, rfl⟩
set_option maxRecDepth 100000 in
theorem ii_hs_settle_141 : sm_D prog_3_method_2_code 141 1 142 (.return_) := ⟨by decide +kernel, rfl⟩
noncomputable def ff_hs_settle_136   (w : sm_Mem) : sm_R := (sm_cV (ff_hs_goBackTo ((0 : Int32)) w) fun w2 => (some (.null, w2)))
set_option maxHeartbeats 4000000 in
set_option maxRecDepth 100000 in
theorem ss_hs_settle_136 {E : Nat × (Nat → Int32)}   (w : sm_Mem) : sm_Sim E (mi_hs_settle) 136 [some (.ref 36), none, none] [] w (ff_hs_settle_136   w) := by
  unfold ff_hs_settle_136
  refine sm_aload_n ii_hs_settle_136 rfl ?_
  refine sm_iconst (0 : Int32) ii_hs_settle_137 (by decide) ?_
  refine sm_cvV [.int (0 : Int32)] [] rfl ii_hs_settle_138 ml_hs_65 (mf_hs_goBackTo) (mv_hs_goBackTo) (Nat.le_of_ble_eq_true rfl) rfl 1 rfl rfl rfl rfl (mc_hs_goBackTo ((0 : Int32)) w) (fun w2 => ?_)
  exact sm_vret ii_hs_settle_141 rfl
noncomputable def ff_hs_settle_7_b  (self7 : Nat → Int32 → sm_Mem → sm_R) (a1 : Nat) (a2 : Int32) (w : sm_Mem) : sm_R := (Option.bind (sm_gI w a1 2 1) fun x3 => (if x3 < (a2 + (5 : Int32)) then ff_hs_settle_136  w else (if (6 : Int32) ≤ (w.1 36 0) then ff_hs_settle_136  w else (Option.bind (sm_fk a1 2 0 2) fun r4 => (Option.bind (sm_rds w r4 a2) fun x5 => (if x5 = (32 : Int32) then self7 (a1) ((a2 + (1 : Int32))) w else (Option.bind (sm_fk a1 2 0 2) fun r6 => (Option.bind (sm_rds w r6 a2) fun x7 => (sm_cI (ff_ho_kindOf (x7) w) fun x8 w9 => (Option.bind (sm_wr w9 37 6 (w.1 36 0) x8) fun w10 => (sm_cI (ff_hs_figure (a1) ((a2 + (1 : Int32))) w10) fun x11 w12 => (sm_cI (ff_hs_figure (a1) ((a2 + (2 : Int32))) w12) fun x13 w14 => (Option.bind (sm_wr w14 38 6 (w10.1 36 0) (((10 : Int32) * x11) + x13)) fun w15 => (sm_cI (ff_hs_figure (a1) ((a2 + (3 : Int32))) w15) fun x16 w17 => (Option.bind (sm_wr w17 39 6 (w15.1 36 0) x16) fun w18 => (sm_cI (ff_hs_figure (a1) ((a2 + (4 : Int32))) w18) fun x19 w20 => (Option.bind (sm_wr w20 40 6 (w18.1 36 0) x19) fun w21 => (sm_let (sm_wI w21 36 0 ((w21.1 36 0) + (1 : Int32))) fun w22 => self7 (a1) (((a2 + (4 : Int32)) + (1 : Int32))) w22))))))))))))))))))
noncomputable def ff_hs_settle_7_f  : Nat → Nat → Int32 → sm_Mem → sm_R
  | 0, _, _, _ => none
  | n + 1, a1, a2, w => ff_hs_settle_7_b  (ff_hs_settle_7_f  n) a1 a2 w
noncomputable def ff_hs_settle_7  (a1 : Nat) (a2 : Int32) (w : sm_Mem) : sm_R := ff_hs_settle_7_f  sm_N a1 a2 w
set_option maxHeartbeats 4000000 in
set_option maxRecDepth 100000 in
theorem ss_hs_settle_7_b {E : Nat × (Nat → Int32)}  (self7 : Nat → Int32 → sm_Mem → sm_R) (hself7 : ∀ (a1 : Nat) (a2 : Int32) (w : sm_Mem), sm_Sim E (mi_hs_settle) 7 [some (.ref 36), some (.ref a1), some (.int a2)] [] w (self7 a1 a2 w)) (a1 : Nat) (a2 : Int32) (w : sm_Mem) : sm_Sim E (mi_hs_settle) 7 [some (.ref 36), some (.ref a1), some (.int a2)] [] w (ff_hs_settle_7_b  self7 a1 a2 w) := by
  unfold ff_hs_settle_7_b
  refine sm_iload_n ii_hs_settle_7 rfl ?_
  refine sm_iconst (5 : Int32) ii_hs_settle_8 (by decide) ?_
  refine sm_iadd ii_hs_settle_9 ?_
  refine sm_aload_n ii_hs_settle_10 rfl ?_
  refine sm_getIs ii_hs_settle_11 fl_hs_49 (fun x3 => ?_)
  refine sm_icmp_gt 136 ii_hs_settle_14 (by decide) ?_ ?_
  · refine sm_msk [true, false, false] [some (.ref 36), none, none] rfl ?_
    exact ss_hs_settle_136  w
  · refine sm_aload_n ii_hs_settle_17 rfl ?_
    refine sm_getI ii_hs_settle_18 fl_hs_45 (k := 36) rfl ?_
    refine sm_bipush (6 : Int32) ii_hs_settle_21 (by decide) ?_
    refine sm_icmp_ge 136 ii_hs_settle_23 (by decide) ?_ ?_
    · refine sm_msk [true, false, false] [some (.ref 36), none, none] rfl ?_
      exact ss_hs_settle_136  w
    · refine sm_aload_n ii_hs_settle_26 rfl ?_
      refine sm_getRs ii_hs_settle_27 fl_hs_54 (fun r4 => ?_)
      refine sm_iload_n ii_hs_settle_30 rfl ?_
      refine sm_ialds ii_hs_settle_31 (fun x5 => ?_)
      refine sm_bipush (32 : Int32) ii_hs_settle_32 (by decide) ?_
      refine sm_icmp_ne 40 ii_hs_settle_34 (by decide) ?_ ?_
      · refine sm_goto 130 ii_hs_settle_37 (by decide) ?_
        refine sm_iinc (a2 + (1 : Int32)) [some (.ref 36), some (.ref a1), some (.int (a2 + (1 : Int32)))] ii_hs_settle_130 rfl rfl rfl rfl ?_
        refine sm_goto 7 ii_hs_settle_133 (by decide) ?_
        exact hself7 (a1) ((a2 + (1 : Int32))) w
      · refine sm_aload_n ii_hs_settle_40 rfl ?_
        refine sm_getR 37 ii_hs_settle_41 fl_hs_9 (k := 36) rfl ?_
        refine sm_aload_n ii_hs_settle_44 rfl ?_
        refine sm_getI ii_hs_settle_45 fl_hs_45 (k := 36) rfl ?_
        refine sm_aload_n ii_hs_settle_48 rfl ?_
        refine sm_getRs ii_hs_settle_49 fl_hs_54 (fun r6 => ?_)
        refine sm_iload_n ii_hs_settle_52 rfl ?_
        refine sm_ialds ii_hs_settle_53 (fun x7 => ?_)
        refine sm_csI [.int x7] [.int (w.1 36 0), .ref 37] rfl ii_hs_settle_54 ml_hs_57 (mf_ho_kindOf) (mv_ho_kindOf) (Nat.le_of_ble_eq_true rfl) rfl rfl rfl (mc_ho_kindOf (x7) w) (fun x8 w9 => ?_)
        refine sm_iast ii_hs_settle_57 (k := 37) rfl (fun w10 => ?_)
        refine sm_aload_n ii_hs_settle_58 rfl ?_
        refine sm_getR 38 ii_hs_settle_59 fl_hs_15 (k := 36) rfl ?_
        refine sm_aload_n ii_hs_settle_62 rfl ?_
        refine sm_getI ii_hs_settle_63 fl_hs_45 (k := 36) rfl ?_
        refine sm_bipush (10 : Int32) ii_hs_settle_66 (by decide) ?_
        refine sm_aload_n ii_hs_settle_68 rfl ?_
        refine sm_iload_n ii_hs_settle_69 rfl ?_
        refine sm_iconst (1 : Int32) ii_hs_settle_70 (by decide) ?_
        refine sm_iadd ii_hs_settle_71 ?_
        refine sm_csI [.ref a1, .int (a2 + (1 : Int32))] [.int (10 : Int32), .int (w10.1 36 0), .ref 38] rfl ii_hs_settle_72 ml_hs_61 (mf_hs_figure) (mv_hs_figure) (Nat.le_of_ble_eq_true rfl) rfl rfl rfl (mc_hs_figure (a1) ((a2 + (1 : Int32))) w10) (fun x11 w12 => ?_)
        refine sm_imul ii_hs_settle_75 ?_
        refine sm_aload_n ii_hs_settle_76 rfl ?_
        refine sm_iload_n ii_hs_settle_77 rfl ?_
        refine sm_iconst (2 : Int32) ii_hs_settle_78 (by decide) ?_
        refine sm_iadd ii_hs_settle_79 ?_
        refine sm_csI [.ref a1, .int (a2 + (2 : Int32))] [.int ((10 : Int32) * x11), .int (w10.1 36 0), .ref 38] rfl ii_hs_settle_80 ml_hs_61 (mf_hs_figure) (mv_hs_figure) (Nat.le_of_ble_eq_true rfl) rfl rfl rfl (mc_hs_figure (a1) ((a2 + (2 : Int32))) w12) (fun x13 w14 => ?_)
        refine sm_iadd ii_hs_settle_83 ?_
        refine sm_iast ii_hs_settle_84 (k := 38) rfl (fun w15 => ?_)
        refine sm_aload_n ii_hs_settle_85 rfl ?_
        refine sm_getR 39 ii_hs_settle_86 fl_hs_18 (k := 36) rfl ?_
        refine sm_aload_n ii_hs_settle_89 rfl ?_
        refine sm_getI ii_hs_settle_90 fl_hs_45 (k := 36) rfl ?_
        refine sm_aload_n ii_hs_settle_93 rfl ?_
        refine sm_iload_n ii_hs_settle_94 rfl ?_
        refine sm_iconst (3 : Int32) ii_hs_settle_95 (by decide) ?_
        refine sm_iadd ii_hs_settle_96 ?_
        refine sm_csI [.ref a1, .int (a2 + (3 : Int32))] [.int (w15.1 36 0), .ref 39] rfl ii_hs_settle_97 ml_hs_61 (mf_hs_figure) (mv_hs_figure) (Nat.le_of_ble_eq_true rfl) rfl rfl rfl (mc_hs_figure (a1) ((a2 + (3 : Int32))) w15) (fun x16 w17 => ?_)
        refine sm_iast ii_hs_settle_100 (k := 39) rfl (fun w18 => ?_)
        refine sm_aload_n ii_hs_settle_101 rfl ?_
        refine sm_getR 40 ii_hs_settle_102 fl_hs_21 (k := 36) rfl ?_
        refine sm_aload_n ii_hs_settle_105 rfl ?_
        refine sm_getI ii_hs_settle_106 fl_hs_45 (k := 36) rfl ?_
        refine sm_aload_n ii_hs_settle_109 rfl ?_
        refine sm_iload_n ii_hs_settle_110 rfl ?_
        refine sm_iconst (4 : Int32) ii_hs_settle_111 (by decide) ?_
        refine sm_iadd ii_hs_settle_112 ?_
        refine sm_csI [.ref a1, .int (a2 + (4 : Int32))] [.int (w18.1 36 0), .ref 40] rfl ii_hs_settle_113 ml_hs_61 (mf_hs_figure) (mv_hs_figure) (Nat.le_of_ble_eq_true rfl) rfl rfl rfl (mc_hs_figure (a1) ((a2 + (4 : Int32))) w18) (fun x19 w20 => ?_)
        refine sm_iast ii_hs_settle_116 (k := 40) rfl (fun w21 => ?_)
        refine sm_aload_n ii_hs_settle_117 rfl ?_
        refine sm_dupR ii_hs_settle_118 ?_
        refine sm_getI ii_hs_settle_119 fl_hs_45 (k := 36) rfl ?_
        refine sm_iconst (1 : Int32) ii_hs_settle_122 (by decide) ?_
        refine sm_iadd ii_hs_settle_123 ?_
        refine sm_putI ii_hs_settle_124 fp_hs_45 (k := 36) rfl (fun w22 => ?_)
        refine sm_iinc (a2 + (4 : Int32)) [some (.ref 36), some (.ref a1), some (.int (a2 + (4 : Int32)))] ii_hs_settle_127 rfl rfl rfl rfl ?_
        refine sm_iinc ((a2 + (4 : Int32)) + (1 : Int32)) [some (.ref 36), some (.ref a1), some (.int ((a2 + (4 : Int32)) + (1 : Int32)))] ii_hs_settle_130 rfl rfl rfl rfl ?_
        refine sm_goto 7 ii_hs_settle_133 (by decide) ?_
        exact hself7 (a1) (((a2 + (4 : Int32)) + (1 : Int32))) w22
set_option maxHeartbeats 4000000 in
set_option maxRecDepth 100000 in
theorem ss_hs_settle_7_f {E : Nat × (Nat → Int32)}  : ∀ (n : Nat) (a1 : Nat) (a2 : Int32) (w : sm_Mem), sm_Sim E (mi_hs_settle) 7 [some (.ref 36), some (.ref a1), some (.int a2)] [] w (ff_hs_settle_7_f  n a1 a2 w)
  | 0, _, _, _ => fun _ _ h => by cases h
  | n + 1, a1, a2, w => ss_hs_settle_7_b  _ (ss_hs_settle_7_f  n) a1 a2 w
set_option maxHeartbeats 4000000 in
set_option maxRecDepth 100000 in
theorem ss_hs_settle_7 {E : Nat × (Nat → Int32)}  (a1 : Nat) (a2 : Int32) (w : sm_Mem) : sm_Sim E (mi_hs_settle) 7 [some (.ref 36), some (.ref a1), some (.int a2)] [] w (ff_hs_settle_7  a1 a2 w) := ss_hs_settle_7_f  sm_N a1 a2 w
noncomputable def ff_hs_settle  (a1 : Nat) (w : sm_Mem) : sm_R := (sm_let (sm_wI w 36 0 (0 : Int32)) fun w23 => ff_hs_settle_7 (a1) ((0 : Int32)) w23)
set_option maxHeartbeats 4000000 in
set_option maxRecDepth 100000 in
theorem ss_hs_settle_0 {E : Nat × (Nat → Int32)}  (a1 : Nat) (w : sm_Mem) : sm_Sim E (mi_hs_settle) 0 [some (.ref 36), some (.ref a1), none] [] w (ff_hs_settle  a1 w) := by
  unfold ff_hs_settle
  refine sm_aload_n ii_hs_settle_0 rfl ?_
  refine sm_iconst (0 : Int32) ii_hs_settle_1 (by decide) ?_
  refine sm_putI ii_hs_settle_2 fp_hs_45 (k := 36) rfl (fun w23 => ?_)
  refine sm_iconst (0 : Int32) ii_hs_settle_5 (by decide) ?_
  refine sm_istore_n [some (.ref 36), some (.ref a1), some (.int (0 : Int32))] ii_hs_settle_6 rfl rfl ?_
  exact ss_hs_settle_7 (a1) ((0 : Int32)) w23
set_option maxHeartbeats 4000000 in
set_option maxRecDepth 100000 in
theorem mc_hs_settle {E : Nat × (Nat → Int32)} (a1 : Nat) (w : sm_Mem) : sm_MC E mi_hs_settle [.ref 36, .ref a1] w (ff_hs_settle a1 w) := sm_MC_of E (by decide +kernel) rfl (Nat.le_of_ble_eq_true rfl) (ss_hs_settle_0 a1 w)
abbrev mi_ho_house : sm_MI := (⟨"HerOrders", "house", "(I)I"⟩, prog_1_method_11_code, 4, (some .int), 5)
set_option maxRecDepth 100000 in
theorem mf_ho_house : sm_MF mi_ho_house 1 := ⟨List.mem_of_getElem? (i := 373) (by decide +kernel), List.mem_of_getElem? (i := 69) (by decide +kernel), ⟨by decide, by decide⟩, by decide +kernel⟩
set_option maxRecDepth 100000 in
theorem mv_ho_house : sm_MFV mi_ho_house := ⟨List.mem_of_getElem? (i := 371) (by decide +kernel), List.mem_of_getElem? (i := 372) (by decide +kernel)⟩
set_option maxRecDepth 100000 in
theorem ii_ho_house_0 : sm_D prog_1_method_11_code 0 1 1 (.aload_n 0) := ⟨by decide +kernel, rfl⟩
set_option maxRecDepth 100000 in
theorem ii_ho_house_1 : sm_D prog_1_method_11_code 1 1 2 (.aload_n 0) := ⟨by decide +kernel, rfl⟩
set_option maxRecDepth 100000 in
theorem ii_ho_house_2 : sm_D prog_1_method_11_code 2 3 5 (.getfield 18) := ⟨by decide +kernel, rfl⟩
set_option maxRecDepth 100000 in
theorem ii_ho_house_5 : sm_D prog_1_method_11_code 5 1 6 (.iload_n 1) := ⟨by decide +kernel, rfl⟩
set_option maxRecDepth 100000 in
theorem ii_ho_house_6 : sm_D prog_1_method_11_code 6 3 9 (.invokevirtual 74) := ⟨by decide +kernel, rfl⟩
set_option maxRecDepth 100000 in
theorem ii_ho_house_9 : sm_D prog_1_method_11_code 9 1 10 (.istore_n 2) := ⟨by decide +kernel, rfl⟩
set_option maxRecDepth 100000 in
theorem ii_ho_house_10 : sm_D prog_1_method_11_code 10 1 11 (.iload_n 2) := ⟨by decide +kernel, rfl⟩
set_option maxRecDepth 100000 in
theorem ii_ho_house_11 : sm_D prog_1_method_11_code 11 3 14 (.ifCond .eq 5) := ⟨by decide +kernel, rfl⟩
set_option maxRecDepth 100000 in
theorem ii_ho_house_14 : sm_D prog_1_method_11_code 14 1 15 (.iload_n 2) := ⟨by decide +kernel, rfl⟩
set_option maxRecDepth 100000 in
theorem ii_ho_house_15 : sm_D prog_1_method_11_code 15 1 16 (.ireturn) := ⟨by decide +kernel, rfl⟩
set_option maxRecDepth 100000 in
theorem ii_ho_house_16 : sm_D prog_1_method_11_code 16 1 17 (.aload_n 0) := ⟨by decide +kernel, rfl⟩
set_option maxRecDepth 100000 in
theorem ii_ho_house_17 : sm_D prog_1_method_11_code 17 3 20 (.getfield 18) := ⟨by decide +kernel, rfl⟩
set_option maxRecDepth 100000 in
theorem ii_ho_house_20 : sm_D prog_1_method_11_code 20 1 21 (.iload_n 1) := ⟨by decide +kernel, rfl⟩
set_option maxRecDepth 100000 in
theorem ii_ho_house_21 : sm_D prog_1_method_11_code 21 1 22 (.aaload) := ⟨by decide +kernel, rfl⟩
set_option maxRecDepth 100000 in
theorem ii_ho_house_22 : sm_D prog_1_method_11_code 22 3 25 (.invokestatic 106) := ⟨by decide +kernel, rfl⟩
set_option maxRecDepth 100000 in
theorem ii_ho_house_25 : sm_D prog_1_method_11_code 25 2 27 (.bipush (-9)) := ⟨by decide +kernel, rfl⟩
set_option maxRecDepth 100000 in
theorem ii_ho_house_27 : sm_D prog_1_method_11_code 27 3 30 (.if_icmp .eq 6) := ⟨by decide +kernel, rfl⟩
set_option maxRecDepth 100000 in
theorem ii_ho_house_30 : sm_D prog_1_method_11_code 30 2 32 (.bipush (-4)) := ⟨by decide +kernel, rfl⟩
set_option maxRecDepth 100000 in
theorem ii_ho_house_32 : sm_D prog_1_method_11_code 32 1 33 (.ireturn) := ⟨by decide +kernel, rfl⟩
set_option maxRecDepth 100000 in
theorem ii_ho_house_33 : sm_D prog_1_method_11_code 33 1 34 (.aload_n 0) := ⟨by decide +kernel, rfl⟩
set_option maxRecDepth 100000 in
theorem ii_ho_house_34 : sm_D prog_1_method_11_code 34 3 37 (.getfield 31) := ⟨by decide +kernel, rfl⟩
set_option maxRecDepth 100000 in
theorem ii_ho_house_37 : sm_D prog_1_method_11_code 37 1 38 (.aload_n 0) := ⟨by decide +kernel, rfl⟩
set_option maxRecDepth 100000 in
theorem ii_ho_house_38 : sm_D prog_1_method_11_code 38 3 41 (.getfield 18) := ⟨by decide +kernel, rfl⟩
set_option maxRecDepth 100000 in
theorem ii_ho_house_41 : sm_D prog_1_method_11_code 41 1 42 (.iload_n 1) := ⟨by decide +kernel, rfl⟩
set_option maxRecDepth 100000 in
theorem ii_ho_house_42 : sm_D prog_1_method_11_code 42 1 43 (.aaload) := ⟨by decide +kernel, rfl⟩
set_option maxRecDepth 100000 in
theorem ii_ho_house_43 : sm_D prog_1_method_11_code 43 3 46 (.invokevirtual 110) := ⟨by decide +kernel, rfl⟩
set_option maxRecDepth 100000 in
theorem ii_ho_house_46 : sm_D prog_1_method_11_code 46 1 47 (.iconst 0) := ⟨by decide +kernel, rfl⟩
set_option maxRecDepth 100000 in
theorem ii_ho_house_47 : sm_D prog_1_method_11_code 47 1 48 (.istore_n 3) := ⟨by decide +kernel, rfl⟩
set_option maxRecDepth 100000 in
theorem ii_ho_house_48 : sm_D prog_1_method_11_code 48 1 49 (.iload_n 3) := ⟨by decide +kernel, rfl⟩
set_option maxRecDepth 100000 in
theorem ii_ho_house_49 : sm_D prog_1_method_11_code 49 1 50 (.iconst 3) := ⟨by decide +kernel, rfl⟩
set_option maxRecDepth 100000 in
theorem ii_ho_house_50 : sm_D prog_1_method_11_code 50 3 53 (.if_icmp .ge 20) := ⟨by decide +kernel, rfl⟩
set_option maxRecDepth 100000 in
theorem ii_ho_house_53 : sm_D prog_1_method_11_code 53 1 54 (.aload_n 0) := ⟨by decide +kernel, rfl⟩
set_option maxRecDepth 100000 in
theorem ii_ho_house_54 : sm_D prog_1_method_11_code 54 3 57 (.getfield 23) := ⟨by decide +kernel, rfl⟩
set_option maxRecDepth 100000 in
theorem ii_ho_house_57 : sm_D prog_1_method_11_code 57 1 58 (.iload_n 3) := ⟨by decide +kernel, rfl⟩
set_option maxRecDepth 100000 in
theorem ii_ho_house_58 : sm_D prog_1_method_11_code 58 1 59 (.aaload) := ⟨by decide +kernel, rfl⟩
set_option maxRecDepth 100000 in
theorem ii_ho_house_59 : sm_D prog_1_method_11_code 59 2 61 (.bipush (-9)) := ⟨by decide +kernel, rfl⟩
set_option maxRecDepth 100000 in
theorem ii_ho_house_61 : sm_D prog_1_method_11_code 61 3 64 (.putfield 114) := ⟨by decide +kernel, rfl⟩
set_option maxRecDepth 100000 in
theorem ii_ho_house_64 : sm_D prog_1_method_11_code 64 3 67 (.iinc 3 1) := ⟨by decide +kernel, rfl⟩
set_option maxRecDepth 100000 in
theorem ii_ho_house_67 : sm_D prog_1_method_11_code 67 3 70 (.goto (-19)) := ⟨by decide +kernel, rfl⟩
set_option maxRecDepth 100000 in
theorem ii_ho_house_70 : sm_D prog_1_method_11_code 70 1 71 (.aload_n 0) := ⟨by decide +kernel, rfl⟩
set_option maxRecDepth 100000 in
theorem ii_ho_house_71 : sm_D prog_1_method_11_code 71 3 74 (.getfield 31) := ⟨by decide +kernel, rfl⟩
set_option maxRecDepth 100000 in
theorem ii_ho_house_74 : sm_D prog_1_method_11_code 74 3 77 (.getfield 115) := ⟨by decide +kernel, rfl⟩
set_option maxRecDepth 100000 in
theorem ii_ho_house_77 : sm_D prog_1_method_11_code 77 1 78 (.ireturn) := ⟨by decide +kernel, rfl⟩
noncomputable def ff_ho_house_48_b  (self48 : Int32 → sm_Mem → sm_R) (a3 : Int32) (w : sm_Mem) : sm_R := (if (3 : Int32) ≤ a3 then (some (.int (w.1 36 0), w)) else (Option.bind (sm_rr 23 a3) fun r1 => (Option.bind (sm_pI w r1 0 3 (-9 : Int32)) fun w2 => self48 ((a3 + (1 : Int32))) w2)))
noncomputable def ff_ho_house_48_f  : Nat → Int32 → sm_Mem → sm_R
  | 0, _, _ => none
  | n + 1, a3, w => ff_ho_house_48_b  (ff_ho_house_48_f  n) a3 w
noncomputable def ff_ho_house_48  (a3 : Int32) (w : sm_Mem) : sm_R := ff_ho_house_48_f  sm_N a3 w
set_option maxHeartbeats 4000000 in
set_option maxRecDepth 100000 in
theorem ss_ho_house_48_b {E : Nat × (Nat → Int32)}  (self48 : Int32 → sm_Mem → sm_R) (hself48 : ∀ (a3 : Int32) (w : sm_Mem), sm_Sim E (mi_ho_house) 48 [some (.ref 0), none, none, some (.int a3)] [] w (self48 a3 w)) (a3 : Int32) (w : sm_Mem) : sm_Sim E (mi_ho_house) 48 [some (.ref 0), none, none, some (.int a3)] [] w (ff_ho_house_48_b  self48 a3 w) := by
  unfold ff_ho_house_48_b
  refine sm_iload_n ii_ho_house_48 rfl ?_
  refine sm_iconst (3 : Int32) ii_ho_house_49 (by decide) ?_
  refine sm_icmp_ge 70 ii_ho_house_50 (by decide) ?_ ?_
  · refine sm_aload_n ii_ho_house_70 rfl ?_
    refine sm_getR 36 ii_ho_house_71 fl_ho_31 (k := 0) rfl ?_
    refine sm_getI ii_ho_house_74 fl_ho_115 (k := 36) rfl ?_
    exact sm_iret ii_ho_house_77 rfl
  · refine sm_aload_n ii_ho_house_53 rfl ?_
    refine sm_getR 23 ii_ho_house_54 fl_ho_23 (k := 0) rfl ?_
    refine sm_iload_n ii_ho_house_57 rfl ?_
    refine sm_aald ii_ho_house_58 (fun r1 => ?_)
    refine sm_bipush (-9 : Int32) ii_ho_house_59 (by decide) ?_
    refine sm_putIs ii_ho_house_61 fp_ho_114 (fun w2 => ?_)
    refine sm_iinc (a3 + (1 : Int32)) [some (.ref 0), none, none, some (.int (a3 + (1 : Int32)))] ii_ho_house_64 rfl rfl rfl rfl ?_
    refine sm_goto 48 ii_ho_house_67 (by decide) ?_
    exact hself48 ((a3 + (1 : Int32))) w2
set_option maxHeartbeats 4000000 in
set_option maxRecDepth 100000 in
theorem ss_ho_house_48_f {E : Nat × (Nat → Int32)}  : ∀ (n : Nat) (a3 : Int32) (w : sm_Mem), sm_Sim E (mi_ho_house) 48 [some (.ref 0), none, none, some (.int a3)] [] w (ff_ho_house_48_f  n a3 w)
  | 0, _, _ => fun _ _ h => by cases h
  | n + 1, a3, w => ss_ho_house_48_b  _ (ss_ho_house_48_f  n) a3 w
set_option maxHeartbeats 4000000 in
set_option maxRecDepth 100000 in
theorem ss_ho_house_48 {E : Nat × (Nat → Int32)}  (a3 : Int32) (w : sm_Mem) : sm_Sim E (mi_ho_house) 48 [some (.ref 0), none, none, some (.int a3)] [] w (ff_ho_house_48  a3 w) := ss_ho_house_48_f  sm_N a3 w
noncomputable def ff_ho_house  (a1 : Int32) (w : sm_Mem) : sm_R := (sm_cI (ff_ho_refusalOfMissing (14) (a1) w) fun x3 w4 => (if x3 = (0 : Int32) then (Option.bind (sm_rr 14 a1) fun r5 => (sm_cI (ff_ho_faultOf (r5) w4) fun x6 w7 => (if x6 = (-9 : Int32) then (Option.bind (sm_rr 14 a1) fun r8 => (sm_cV (ff_hs_settle (r8) w7) fun w10 => ff_ho_house_48 ((0 : Int32)) w10)) else (some (.int (-4 : Int32), w7))))) else (some (.int x3, w4))))
set_option maxHeartbeats 4000000 in
set_option maxRecDepth 100000 in
theorem ss_ho_house_0 {E : Nat × (Nat → Int32)}  (a1 : Int32) (w : sm_Mem) : sm_Sim E (mi_ho_house) 0 [some (.ref 0), some (.int a1), none, none] [] w (ff_ho_house  a1 w) := by
  unfold ff_ho_house
  refine sm_aload_n ii_ho_house_0 rfl ?_
  refine sm_aload_n ii_ho_house_1 rfl ?_
  refine sm_getR 14 ii_ho_house_2 fl_ho_18 (k := 0) rfl ?_
  refine sm_iload_n ii_ho_house_5 rfl ?_
  refine sm_cvI [.ref 14, .int a1] [] rfl ii_ho_house_6 ml_ho_74 (mf_ho_refusalOfMissing) (mv_ho_refusalOfMissing) (Nat.le_of_ble_eq_true rfl) rfl 6 rfl rfl rfl rfl (mc_ho_refusalOfMissing (14) (a1) w) (fun x3 w4 => ?_)
  refine sm_istore_n [some (.ref 0), some (.int a1), some (.int x3), none] ii_ho_house_9 rfl rfl ?_
  refine sm_iload_n ii_ho_house_10 rfl ?_
  refine sm_if_eq 16 ii_ho_house_11 (by decide) ?_ ?_
  · refine sm_aload_n ii_ho_house_16 rfl ?_
    refine sm_getR 14 ii_ho_house_17 fl_ho_18 (k := 0) rfl ?_
    refine sm_iload_n ii_ho_house_20 rfl ?_
    refine sm_aald ii_ho_house_21 (fun r5 => ?_)
    refine sm_csI [.ref r5] [] rfl ii_ho_house_22 ml_ho_106 (mf_ho_faultOf) (mv_ho_faultOf) (Nat.le_of_ble_eq_true rfl) rfl rfl rfl (mc_ho_faultOf (r5) w4) (fun x6 w7 => ?_)
    refine sm_bipush (-9 : Int32) ii_ho_house_25 (by decide) ?_
    refine sm_icmp_eq 33 ii_ho_house_27 (by decide) ?_ ?_
    · refine sm_aload_n ii_ho_house_33 rfl ?_
      refine sm_getR 36 ii_ho_house_34 fl_ho_31 (k := 0) rfl ?_
      refine sm_aload_n ii_ho_house_37 rfl ?_
      refine sm_getR 14 ii_ho_house_38 fl_ho_18 (k := 0) rfl ?_
      refine sm_iload_n ii_ho_house_41 rfl ?_
      refine sm_aald ii_ho_house_42 (fun r8 => ?_)
      refine sm_cvV [.ref r8] [] rfl ii_ho_house_43 ml_ho_110 (mf_hs_settle) (mv_hs_settle) (Nat.le_of_ble_eq_true rfl) rfl 1 rfl rfl rfl rfl (mc_hs_settle (r8) w7) (fun w10 => ?_)
      refine sm_iconst (0 : Int32) ii_ho_house_46 (by decide) ?_
      refine sm_istore_n [some (.ref 0), some (.int a1), some (.int x3), some (.int (0 : Int32))] ii_ho_house_47 rfl rfl ?_
      refine sm_msk [true, false, false, true] [some (.ref 0), none, none, some (.int (0 : Int32))] rfl ?_
      exact ss_ho_house_48 ((0 : Int32)) w10
    · refine sm_bipush (-4 : Int32) ii_ho_house_30 (by decide) ?_
      exact sm_iret ii_ho_house_32 rfl
  · refine sm_iload_n ii_ho_house_14 rfl ?_
    exact sm_iret ii_ho_house_15 rfl
set_option maxHeartbeats 4000000 in
set_option maxRecDepth 100000 in
theorem mc_ho_house {E : Nat × (Nat → Int32)} (a1 : Int32) (w : sm_Mem) : sm_MC E mi_ho_house [.ref 0, .int a1] w (ff_ho_house a1 w) := sm_MC_of E (by decide +kernel) rfl (Nat.le_of_ble_eq_true rfl) (ss_ho_house_0 a1 w)
abbrev mi_la_house : sm_MI := (⟨"HerOrdersLaw", "house", "(LHerOrders;[I[I[I)Z"⟩, method_5_code, 9, (some .boolean), 6)
set_option maxRecDepth 100000 in
theorem mf_la_house : sm_MF mi_la_house 4 := ⟨List.mem_of_getElem? (i := 819) (by decide +kernel), List.mem_of_getElem? (i := 68) (by decide +kernel), ⟨by decide, by decide⟩, by decide +kernel⟩
set_option maxRecDepth 100000 in
theorem mv_la_house : sm_MFS mi_la_house := List.mem_of_getElem? (i := 818) (by decide +kernel)
set_option maxRecDepth 100000 in
theorem ii_la_house_0 : sm_D method_5_code 0 1 1 (.aload_n 1) := ⟨by decide +kernel, rfl⟩
set_option maxRecDepth 100000 in
theorem ii_la_house_1 : sm_D method_5_code 1 1 2 (.iconst 0) := ⟨by decide +kernel, rfl⟩
set_option maxRecDepth 100000 in
theorem ii_la_house_2 : sm_D method_5_code 2 3 5 (.invokestatic 9) := ⟨by decide +kernel, rfl⟩
set_option maxRecDepth 100000 in
theorem ii_la_house_5 : sm_D method_5_code 5 2 7 (.istore 4) := ⟨by decide +kernel, rfl⟩
set_option maxRecDepth 100000 in
theorem ii_la_house_7 : sm_D method_5_code 7 1 8 (.aload_n 2) := ⟨by decide +kernel, rfl⟩
set_option maxRecDepth 100000 in
theorem ii_la_house_8 : sm_D method_5_code 8 1 9 (.iconst 0) := ⟨by decide +kernel, rfl⟩
set_option maxRecDepth 100000 in
theorem ii_la_house_9 : sm_D method_5_code 9 1 10 (.iconst 1) := ⟨by decide +kernel, rfl⟩
set_option maxRecDepth 100000 in
theorem ii_la_house_10 : sm_D method_5_code 10 2 12 (.iload 4) := ⟨by decide +kernel, rfl⟩
set_option maxRecDepth 100000 in
theorem ii_la_house_12 : sm_D method_5_code 12 2 14 (.bipush 6) := ⟨by decide +kernel, rfl⟩
set_option maxRecDepth 100000 in
theorem ii_la_house_14 : sm_D method_5_code 14 3 17 (.invokestatic 15) := ⟨by decide +kernel, rfl⟩
set_option maxRecDepth 100000 in
theorem ii_la_house_17 : sm_D method_5_code 17 1 18 (.iadd) := ⟨by decide +kernel, rfl⟩
set_option maxRecDepth 100000 in
theorem ii_la_house_18 : sm_D method_5_code 18 1 19 (.iastore) := ⟨by decide +kernel, rfl⟩
set_option maxRecDepth 100000 in
theorem ii_la_house_19 : sm_D method_5_code 19 1 20 (.iconst 0) := ⟨by decide +kernel, rfl⟩
set_option maxRecDepth 100000 in
theorem ii_la_house_20 : sm_D method_5_code 20 2 22 (.istore 5) := ⟨by decide +kernel, rfl⟩
set_option maxRecDepth 100000 in
theorem ii_la_house_22 : sm_D method_5_code 22 2 24 (.iload 5) := ⟨by decide +kernel, rfl⟩
set_option maxRecDepth 100000 in
theorem ii_la_house_24 : sm_D method_5_code 24 2 26 (.bipush 31) := ⟨by decide +kernel, rfl⟩
set_option maxRecDepth 100000 in
theorem ii_la_house_26 : sm_D method_5_code 26 3 29 (.if_icmp .ge 14) := ⟨by decide +kernel, rfl⟩
set_option maxRecDepth 100000 in
theorem ii_la_house_29 : sm_D method_5_code 29 1 30 (.aload_n 3) := ⟨by decide +kernel, rfl⟩
set_option maxRecDepth 100000 in
theorem ii_la_house_30 : sm_D method_5_code 30 2 32 (.iload 5) := ⟨by decide +kernel, rfl⟩
set_option maxRecDepth 100000 in
theorem ii_la_house_32 : sm_D method_5_code 32 1 33 (.iconst 0) := ⟨by decide +kernel, rfl⟩
set_option maxRecDepth 100000 in
theorem ii_la_house_33 : sm_D method_5_code 33 1 34 (.iastore) := ⟨by decide +kernel, rfl⟩
set_option maxRecDepth 100000 in
theorem ii_la_house_34 : sm_D method_5_code 34 3 37 (.iinc 5 1) := ⟨by decide +kernel, rfl⟩
set_option maxRecDepth 100000 in
theorem ii_la_house_37 : sm_D method_5_code 37 3 40 (.goto (-15)) := ⟨by decide +kernel, rfl⟩
set_option maxRecDepth 100000 in
theorem ii_la_house_40 : sm_D method_5_code 40 1 41 (.aload_n 0) := ⟨by decide +kernel, rfl⟩
set_option maxRecDepth 100000 in
theorem ii_la_house_41 : sm_D method_5_code 41 1 42 (.iconst 0) := ⟨by decide +kernel, rfl⟩
set_option maxRecDepth 100000 in
theorem ii_la_house_42 : sm_D method_5_code 42 2 44 (.bipush 40) := ⟨by decide +kernel, rfl⟩
set_option maxRecDepth 100000 in
theorem ii_la_house_44 : sm_D method_5_code 44 3 47 (.invokevirtual 19) := ⟨by decide +kernel, rfl⟩
set_option maxRecDepth 100000 in
theorem ii_la_house_47 : sm_D method_5_code 47 2 49 (.bipush 40) := ⟨by decide +kernel, rfl⟩
set_option maxRecDepth 100000 in
theorem ii_la_house_49 : sm_D method_5_code 49 3 52 (.if_icmp .ne 7) := ⟨by decide +kernel, rfl⟩
set_option maxRecDepth 100000 in
theorem ii_la_house_52 : sm_D method_5_code 52 1 53 (.iconst 1) := ⟨by decide +kernel, rfl⟩
set_option maxRecDepth 100000 in
theorem ii_la_house_53 : sm_D method_5_code 53 3 56 (.goto 4) := ⟨by decide +kernel, rfl⟩
set_option maxRecDepth 100000 in
theorem ii_la_house_56 : sm_D method_5_code 56 1 57 (.iconst 0) := ⟨by decide +kernel, rfl⟩
set_option maxRecDepth 100000 in
theorem ii_la_house_57 : sm_D method_5_code 57 2 59 (.istore 5) := ⟨by decide +kernel, rfl⟩
set_option maxRecDepth 100000 in
theorem ii_la_house_59 : sm_D method_5_code 59 1 60 (.iconst 0) := ⟨by decide +kernel, rfl⟩
set_option maxRecDepth 100000 in
theorem ii_la_house_60 : sm_D method_5_code 60 2 62 (.istore 6) := ⟨by decide +kernel, rfl⟩
set_option maxRecDepth 100000 in
theorem ii_la_house_62 : sm_D method_5_code 62 2 64 (.iload 6) := ⟨by decide +kernel, rfl⟩
set_option maxRecDepth 100000 in
theorem ii_la_house_64 : sm_D method_5_code 64 1 65 (.aload_n 2) := ⟨by decide +kernel, rfl⟩
set_option maxRecDepth 100000 in
theorem ii_la_house_65 : sm_D method_5_code 65 1 66 (.iconst 0) := ⟨by decide +kernel, rfl⟩
set_option maxRecDepth 100000 in
theorem ii_la_house_66 : sm_D method_5_code 66 1 67 (.iaload) := ⟨by decide +kernel, rfl⟩
set_option maxRecDepth 100000 in
theorem ii_la_house_67 : sm_D method_5_code 67 3 70 (.if_icmp .ge 305) := ⟨by decide +kernel, rfl⟩
set_option maxRecDepth 100000 in
theorem ii_la_house_70 : sm_D method_5_code 70 1 71 (.aload_n 1) := ⟨by decide +kernel, rfl⟩
set_option maxRecDepth 100000 in
theorem ii_la_house_71 : sm_D method_5_code 71 1 72 (.iconst 1) := ⟨by decide +kernel, rfl⟩
set_option maxRecDepth 100000 in
theorem ii_la_house_72 : sm_D method_5_code 72 2 74 (.iload 6) := ⟨by decide +kernel, rfl⟩
set_option maxRecDepth 100000 in
theorem ii_la_house_74 : sm_D method_5_code 74 1 75 (.iadd) := ⟨by decide +kernel, rfl⟩
set_option maxRecDepth 100000 in
theorem ii_la_house_75 : sm_D method_5_code 75 3 78 (.invokestatic 9) := ⟨by decide +kernel, rfl⟩
set_option maxRecDepth 100000 in
theorem ii_la_house_78 : sm_D method_5_code 78 2 80 (.istore 7) := ⟨by decide +kernel, rfl⟩
set_option maxRecDepth 100000 in
theorem ii_la_house_80 : sm_D method_5_code 80 2 82 (.bipush 6) := ⟨by decide +kernel, rfl⟩
set_option maxRecDepth 100000 in
theorem ii_la_house_82 : sm_D method_5_code 82 2 84 (.iload 6) := ⟨by decide +kernel, rfl⟩
set_option maxRecDepth 100000 in
theorem ii_la_house_84 : sm_D method_5_code 84 1 85 (.imul) := ⟨by decide +kernel, rfl⟩
set_option maxRecDepth 100000 in
theorem ii_la_house_85 : sm_D method_5_code 85 2 87 (.istore 8) := ⟨by decide +kernel, rfl⟩
set_option maxRecDepth 100000 in
theorem ii_la_house_87 : sm_D method_5_code 87 1 88 (.aload_n 2) := ⟨by decide +kernel, rfl⟩
set_option maxRecDepth 100000 in
theorem ii_la_house_88 : sm_D method_5_code 88 1 89 (.iconst 1) := ⟨by decide +kernel, rfl⟩
set_option maxRecDepth 100000 in
theorem ii_la_house_89 : sm_D method_5_code 89 2 91 (.iload 6) := ⟨by decide +kernel, rfl⟩
set_option maxRecDepth 100000 in
theorem ii_la_house_91 : sm_D method_5_code 91 1 92 (.iadd) := ⟨by decide +kernel, rfl⟩
set_option maxRecDepth 100000 in
theorem ii_la_house_92 : sm_D method_5_code 92 2 94 (.iload 7) := ⟨by decide +kernel, rfl⟩
set_option maxRecDepth 100000 in
theorem ii_la_house_94 : sm_D method_5_code 94 2 96 (.bipush 6) := ⟨by decide +kernel, rfl⟩
set_option maxRecDepth 100000 in
theorem ii_la_house_96 : sm_D method_5_code 96 3 99 (.invokestatic 15) := ⟨by decide +kernel, rfl⟩
set_option maxRecDepth 100000 in
theorem ii_la_house_99 : sm_D method_5_code 99 1 100 (.iastore) := ⟨by decide +kernel, rfl⟩
set_option maxRecDepth 100000 in
theorem ii_la_house_100 : sm_D method_5_code 100 1 101 (.aload_n 2) := ⟨by decide +kernel, rfl⟩
set_option maxRecDepth 100000 in
theorem ii_la_house_101 : sm_D method_5_code 101 2 103 (.bipush 7) := ⟨by decide +kernel, rfl⟩
set_option maxRecDepth 100000 in
theorem ii_la_house_103 : sm_D method_5_code 103 2 105 (.iload 6) := ⟨by decide +kernel, rfl⟩
set_option maxRecDepth 100000 in
theorem ii_la_house_105 : sm_D method_5_code 105 1 106 (.iadd) := ⟨by decide +kernel, rfl⟩
set_option maxRecDepth 100000 in
theorem ii_la_house_106 : sm_D method_5_code 106 2 108 (.iload 4) := ⟨by decide +kernel, rfl⟩
set_option maxRecDepth 100000 in
theorem ii_la_house_108 : sm_D method_5_code 108 2 110 (.bipush 20) := ⟨by decide +kernel, rfl⟩
set_option maxRecDepth 100000 in
theorem ii_la_house_110 : sm_D method_5_code 110 1 111 (.ishr) := ⟨by decide +kernel, rfl⟩
set_option maxRecDepth 100000 in
theorem ii_la_house_111 : sm_D method_5_code 111 1 112 (.iconst 1) := ⟨by decide +kernel, rfl⟩
set_option maxRecDepth 100000 in
theorem ii_la_house_112 : sm_D method_5_code 112 1 113 (.iand) := ⟨by decide +kernel, rfl⟩
set_option maxRecDepth 100000 in
theorem ii_la_house_113 : sm_D method_5_code 113 3 116 (.ifCond .ne 19) := ⟨by decide +kernel, rfl⟩
set_option maxRecDepth 100000 in
theorem ii_la_house_116 : sm_D method_5_code 116 2 118 (.iload 7) := ⟨by decide +kernel, rfl⟩
set_option maxRecDepth 100000 in
theorem ii_la_house_118 : sm_D method_5_code 118 1 119 (.iconst 3) := ⟨by decide +kernel, rfl⟩
set_option maxRecDepth 100000 in
theorem ii_la_house_119 : sm_D method_5_code 119 1 120 (.ishr) := ⟨by decide +kernel, rfl⟩
set_option maxRecDepth 100000 in
theorem ii_la_house_120 : sm_D method_5_code 120 2 122 (.iload 7) := ⟨by decide +kernel, rfl⟩
set_option maxRecDepth 100000 in
theorem ii_la_house_122 : sm_D method_5_code 122 2 124 (.bipush 10) := ⟨by decide +kernel, rfl⟩
set_option maxRecDepth 100000 in
theorem ii_la_house_124 : sm_D method_5_code 124 1 125 (.ishr) := ⟨by decide +kernel, rfl⟩
set_option maxRecDepth 100000 in
theorem ii_la_house_125 : sm_D method_5_code 125 1 126 (.ior) := ⟨by decide +kernel, rfl⟩
set_option maxRecDepth 100000 in
theorem ii_la_house_126 : sm_D method_5_code 126 2 128 (.bipush 63) := ⟨by decide +kernel, rfl⟩
set_option maxRecDepth 100000 in
theorem ii_la_house_128 : sm_D method_5_code 128 1 129 (.iand) := ⟨by decide +kernel, rfl⟩
set_option maxRecDepth 100000 in
theorem ii_la_house_129 : sm_D method_5_code 129 3 132 (.goto 10) := ⟨by decide +kernel, rfl⟩
set_option maxRecDepth 100000 in
theorem ii_la_house_132 : sm_D method_5_code 132 2 134 (.iload 7) := ⟨by decide +kernel, rfl⟩
set_option maxRecDepth 100000 in
theorem ii_la_house_134 : sm_D method_5_code 134 1 135 (.iconst 3) := ⟨by decide +kernel, rfl⟩
set_option maxRecDepth 100000 in
theorem ii_la_house_135 : sm_D method_5_code 135 1 136 (.ishr) := ⟨by decide +kernel, rfl⟩
set_option maxRecDepth 100000 in
theorem ii_la_house_136 : sm_D method_5_code 136 2 138 (.bipush 63) := ⟨by decide +kernel, rfl⟩
set_option maxRecDepth 100000 in
theorem ii_la_house_138 : sm_D method_5_code 138 1 139 (.iand) := ⟨by decide +kernel, rfl⟩
set_option maxRecDepth 100000 in
theorem ii_la_house_139 : sm_D method_5_code 139 1 140 (.iastore) := ⟨by decide +kernel, rfl⟩
set_option maxRecDepth 100000 in
theorem ii_la_house_140 : sm_D method_5_code 140 1 141 (.aload_n 2) := ⟨by decide +kernel, rfl⟩
set_option maxRecDepth 100000 in
theorem ii_la_house_141 : sm_D method_5_code 141 2 143 (.bipush 13) := ⟨by decide +kernel, rfl⟩
set_option maxRecDepth 100000 in
theorem ii_la_house_143 : sm_D method_5_code 143 2 145 (.iload 6) := ⟨by decide +kernel, rfl⟩
set_option maxRecDepth 100000 in
theorem ii_la_house_145 : sm_D method_5_code 145 1 146 (.iadd) := ⟨by decide +kernel, rfl⟩
set_option maxRecDepth 100000 in
theorem ii_la_house_146 : sm_D method_5_code 146 1 147 (.iconst 1) := ⟨by decide +kernel, rfl⟩
set_option maxRecDepth 100000 in
theorem ii_la_house_147 : sm_D method_5_code 147 2 149 (.iload 7) := ⟨by decide +kernel, rfl⟩
set_option maxRecDepth 100000 in
theorem ii_la_house_149 : sm_D method_5_code 149 2 151 (.bipush 16) := ⟨by decide +kernel, rfl⟩
set_option maxRecDepth 100000 in
theorem ii_la_house_151 : sm_D method_5_code 151 1 152 (.ishr) := ⟨by decide +kernel, rfl⟩
set_option maxRecDepth 100000 in
theorem ii_la_house_152 : sm_D method_5_code 152 2 154 (.iload 4) := ⟨by decide +kernel, rfl⟩
set_option maxRecDepth 100000 in
theorem ii_la_house_154 : sm_D method_5_code 154 2 156 (.bipush 21) := ⟨by decide +kernel, rfl⟩
set_option maxRecDepth 100000 in
theorem ii_la_house_156 : sm_D method_5_code 156 1 157 (.ishr) := ⟨by decide +kernel, rfl⟩
set_option maxRecDepth 100000 in
theorem ii_la_house_157 : sm_D method_5_code 157 1 158 (.iconst 1) := ⟨by decide +kernel, rfl⟩
set_option maxRecDepth 100000 in
theorem ii_la_house_158 : sm_D method_5_code 158 1 159 (.iand) := ⟨by decide +kernel, rfl⟩
set_option maxRecDepth 100000 in
theorem ii_la_house_159 : sm_D method_5_code 159 3 162 (.ifCond .ne 8) := ⟨by decide +kernel, rfl⟩
set_option maxRecDepth 100000 in
theorem ii_la_house_162 : sm_D method_5_code 162 2 164 (.bipush 9) := ⟨by decide +kernel, rfl⟩
set_option maxRecDepth 100000 in
theorem ii_la_house_164 : sm_D method_5_code 164 3 167 (.goto 4) := ⟨by decide +kernel, rfl⟩
set_option maxRecDepth 100000 in
theorem ii_la_house_167 : sm_D method_5_code 167 1 168 (.iconst 3) := ⟨by decide +kernel, rfl⟩
set_option maxRecDepth 100000 in
theorem ii_la_house_168 : sm_D method_5_code 168 3 171 (.invokestatic 15) := ⟨by decide +kernel, rfl⟩
set_option maxRecDepth 100000 in
theorem ii_la_house_171 : sm_D method_5_code 171 1 172 (.iadd) := ⟨by decide +kernel, rfl⟩
set_option maxRecDepth 100000 in
theorem ii_la_house_172 : sm_D method_5_code 172 1 173 (.iastore) := ⟨by decide +kernel, rfl⟩
set_option maxRecDepth 100000 in
theorem ii_la_house_173 : sm_D method_5_code 173 1 174 (.aload_n 3) := ⟨by decide +kernel, rfl⟩
set_option maxRecDepth 100000 in
theorem ii_la_house_174 : sm_D method_5_code 174 2 176 (.bipush 19) := ⟨by decide +kernel, rfl⟩
set_option maxRecDepth 100000 in
theorem ii_la_house_176 : sm_D method_5_code 176 2 178 (.iload 6) := ⟨by decide +kernel, rfl⟩
set_option maxRecDepth 100000 in
theorem ii_la_house_178 : sm_D method_5_code 178 1 179 (.iadd) := ⟨by decide +kernel, rfl⟩
set_option maxRecDepth 100000 in
theorem ii_la_house_179 : sm_D method_5_code 179 2 181 (.iload 4) := ⟨by decide +kernel, rfl⟩
set_option maxRecDepth 100000 in
theorem ii_la_house_181 : sm_D method_5_code 181 2 183 (.bipush 22) := ⟨by decide +kernel, rfl⟩
set_option maxRecDepth 100000 in
theorem ii_la_house_183 : sm_D method_5_code 183 1 184 (.ishr) := ⟨by decide +kernel, rfl⟩
set_option maxRecDepth 100000 in
theorem ii_la_house_184 : sm_D method_5_code 184 1 185 (.iconst 1) := ⟨by decide +kernel, rfl⟩
set_option maxRecDepth 100000 in
theorem ii_la_house_185 : sm_D method_5_code 185 1 186 (.iand) := ⟨by decide +kernel, rfl⟩
set_option maxRecDepth 100000 in
theorem ii_la_house_186 : sm_D method_5_code 186 3 189 (.ifCond .ne 15) := ⟨by decide +kernel, rfl⟩
set_option maxRecDepth 100000 in
theorem ii_la_house_189 : sm_D method_5_code 189 2 191 (.iload 7) := ⟨by decide +kernel, rfl⟩
set_option maxRecDepth 100000 in
theorem ii_la_house_191 : sm_D method_5_code 191 2 193 (.bipush 20) := ⟨by decide +kernel, rfl⟩
set_option maxRecDepth 100000 in
theorem ii_la_house_193 : sm_D method_5_code 193 1 194 (.ishr) := ⟨by decide +kernel, rfl⟩
set_option maxRecDepth 100000 in
theorem ii_la_house_194 : sm_D method_5_code 194 1 195 (.iconst 2) := ⟨by decide +kernel, rfl⟩
set_option maxRecDepth 100000 in
theorem ii_la_house_195 : sm_D method_5_code 195 3 198 (.invokestatic 15) := ⟨by decide +kernel, rfl⟩
set_option maxRecDepth 100000 in
theorem ii_la_house_198 : sm_D method_5_code 198 3 201 (.goto 13) := ⟨by decide +kernel, rfl⟩
set_option maxRecDepth 100000 in
theorem ii_la_house_201 : sm_D method_5_code 201 2 203 (.iload 7) := ⟨by decide +kernel, rfl⟩
set_option maxRecDepth 100000 in
theorem ii_la_house_203 : sm_D method_5_code 203 2 205 (.bipush 20) := ⟨by decide +kernel, rfl⟩
set_option maxRecDepth 100000 in
theorem ii_la_house_205 : sm_D method_5_code 205 1 206 (.ishr) := ⟨by decide +kernel, rfl⟩
set_option maxRecDepth 100000 in
theorem ii_la_house_206 : sm_D method_5_code 206 2 208 (.bipush 6) := ⟨by decide +kernel, rfl⟩
set_option maxRecDepth 100000 in
theorem ii_la_house_208 : sm_D method_5_code 208 3 211 (.invokestatic 15) := ⟨by decide +kernel, rfl⟩
set_option maxRecDepth 100000 in
theorem ii_la_house_211 : sm_D method_5_code 211 1 212 (.iastore) := ⟨by decide +kernel, rfl⟩
set_option maxRecDepth 100000 in
theorem ii_la_house_212 : sm_D method_5_code 212 1 213 (.aload_n 3) := ⟨by decide +kernel, rfl⟩
set_option maxRecDepth 100000 in
theorem ii_la_house_213 : sm_D method_5_code 213 2 215 (.bipush 25) := ⟨by decide +kernel, rfl⟩
set_option maxRecDepth 100000 in
theorem ii_la_house_215 : sm_D method_5_code 215 2 217 (.iload 6) := ⟨by decide +kernel, rfl⟩
set_option maxRecDepth 100000 in
theorem ii_la_house_217 : sm_D method_5_code 217 1 218 (.iadd) := ⟨by decide +kernel, rfl⟩
set_option maxRecDepth 100000 in
theorem ii_la_house_218 : sm_D method_5_code 218 1 219 (.aload_n 2) := ⟨by decide +kernel, rfl⟩
set_option maxRecDepth 100000 in
theorem ii_la_house_219 : sm_D method_5_code 219 2 221 (.bipush 13) := ⟨by decide +kernel, rfl⟩
set_option maxRecDepth 100000 in
theorem ii_la_house_221 : sm_D method_5_code 221 2 223 (.iload 6) := ⟨by decide +kernel, rfl⟩
set_option maxRecDepth 100000 in
theorem ii_la_house_223 : sm_D method_5_code 223 1 224 (.iadd) := ⟨by decide +kernel, rfl⟩
set_option maxRecDepth 100000 in
theorem ii_la_house_224 : sm_D method_5_code 224 1 225 (.iaload) := ⟨by decide +kernel, rfl⟩
set_option maxRecDepth 100000 in
theorem ii_la_house_225 : sm_D method_5_code 225 1 226 (.iastore) := ⟨by decide +kernel, rfl⟩
set_option maxRecDepth 100000 in
theorem ii_la_house_226 : sm_D method_5_code 226 2 228 (.iload 5) := ⟨by decide +kernel, rfl⟩
set_option maxRecDepth 100000 in
theorem ii_la_house_228 : sm_D method_5_code 228 3 231 (.ifCond .eq 135) := ⟨by decide +kernel, rfl⟩
set_option maxRecDepth 100000 in
theorem ii_la_house_231 : sm_D method_5_code 231 1 232 (.aload_n 0) := ⟨by decide +kernel, rfl⟩
set_option maxRecDepth 100000 in
theorem ii_la_house_232 : sm_D method_5_code 232 1 233 (.iconst 0) := ⟨by decide +kernel, rfl⟩
set_option maxRecDepth 100000 in
theorem ii_la_house_233 : sm_D method_5_code 233 2 235 (.iload 8) := ⟨by decide +kernel, rfl⟩
set_option maxRecDepth 100000 in
theorem ii_la_house_235 : sm_D method_5_code 235 1 236 (.aload_n 2) := ⟨by decide +kernel, rfl⟩
set_option maxRecDepth 100000 in
theorem ii_la_house_236 : sm_D method_5_code 236 1 237 (.iconst 1) := ⟨by decide +kernel, rfl⟩
set_option maxRecDepth 100000 in
theorem ii_la_house_237 : sm_D method_5_code 237 2 239 (.iload 6) := ⟨by decide +kernel, rfl⟩
set_option maxRecDepth 100000 in
theorem ii_la_house_239 : sm_D method_5_code 239 1 240 (.iadd) := ⟨by decide +kernel, rfl⟩
set_option maxRecDepth 100000 in
theorem ii_la_house_240 : sm_D method_5_code 240 1 241 (.iaload) := ⟨by decide +kernel, rfl⟩
set_option maxRecDepth 100000 in
theorem ii_la_house_241 : sm_D method_5_code 241 3 244 (.invokestatic 24) := ⟨by decide +kernel, rfl⟩
set_option maxRecDepth 100000 in
theorem ii_la_house_244 : sm_D method_5_code 244 3 247 (.invokevirtual 28) := ⟨by decide +kernel, rfl⟩
set_option maxRecDepth 100000 in
theorem ii_la_house_247 : sm_D method_5_code 247 3 250 (.sipush 1032) := ⟨by decide +kernel, rfl⟩
set_option maxRecDepth 100000 in
theorem ii_la_house_250 : sm_D method_5_code 250 3 253 (.if_icmp .ne 113) := ⟨by decide +kernel, rfl⟩
set_option maxRecDepth 100000 in
theorem ii_la_house_253 : sm_D method_5_code 253 1 254 (.aload_n 0) := ⟨by decide +kernel, rfl⟩
set_option maxRecDepth 100000 in
theorem ii_la_house_254 : sm_D method_5_code 254 1 255 (.iconst 0) := ⟨by decide +kernel, rfl⟩
set_option maxRecDepth 100000 in
theorem ii_la_house_255 : sm_D method_5_code 255 2 257 (.iload 8) := ⟨by decide +kernel, rfl⟩
set_option maxRecDepth 100000 in
theorem ii_la_house_257 : sm_D method_5_code 257 1 258 (.iconst 1) := ⟨by decide +kernel, rfl⟩
set_option maxRecDepth 100000 in
theorem ii_la_house_258 : sm_D method_5_code 258 1 259 (.iadd) := ⟨by decide +kernel, rfl⟩
set_option maxRecDepth 100000 in
theorem ii_la_house_259 : sm_D method_5_code 259 2 261 (.bipush 48) := ⟨by decide +kernel, rfl⟩
set_option maxRecDepth 100000 in
theorem ii_la_house_261 : sm_D method_5_code 261 1 262 (.aload_n 2) := ⟨by decide +kernel, rfl⟩
set_option maxRecDepth 100000 in
theorem ii_la_house_262 : sm_D method_5_code 262 2 264 (.bipush 7) := ⟨by decide +kernel, rfl⟩
set_option maxRecDepth 100000 in
theorem ii_la_house_264 : sm_D method_5_code 264 2 266 (.iload 6) := ⟨by decide +kernel, rfl⟩
set_option maxRecDepth 100000 in
theorem ii_la_house_266 : sm_D method_5_code 266 1 267 (.iadd) := ⟨by decide +kernel, rfl⟩
set_option maxRecDepth 100000 in
theorem ii_la_house_267 : sm_D method_5_code 267 1 268 (.iaload) := ⟨by decide +kernel, rfl⟩
set_option maxRecDepth 100000 in
theorem ii_la_house_268 : sm_D method_5_code 268 2 270 (.bipush 10) := ⟨by decide +kernel, rfl⟩
set_option maxRecDepth 100000 in
theorem ii_la_house_270 : sm_D method_5_code 270 1 271 (.idiv) := ⟨by decide +kernel, rfl⟩
set_option maxRecDepth 100000 in
theorem ii_la_house_271 : sm_D method_5_code 271 1 272 (.iadd) := ⟨by decide +kernel, rfl⟩
set_option maxRecDepth 100000 in
theorem ii_la_house_272 : sm_D method_5_code 272 3 275 (.invokevirtual 28) := ⟨by decide +kernel, rfl⟩
set_option maxRecDepth 100000 in
theorem ii_la_house_275 : sm_D method_5_code 275 3 278 (.sipush 1032) := ⟨by decide +kernel, rfl⟩
set_option maxRecDepth 100000 in
theorem ii_la_house_278 : sm_D method_5_code 278 3 281 (.if_icmp .ne 85) := ⟨by decide +kernel, rfl⟩
set_option maxRecDepth 100000 in
theorem ii_la_house_281 : sm_D method_5_code 281 1 282 (.aload_n 0) := ⟨by decide +kernel, rfl⟩
set_option maxRecDepth 100000 in
theorem ii_la_house_282 : sm_D method_5_code 282 1 283 (.iconst 0) := ⟨by decide +kernel, rfl⟩
set_option maxRecDepth 100000 in
theorem ii_la_house_283 : sm_D method_5_code 283 2 285 (.iload 8) := ⟨by decide +kernel, rfl⟩
set_option maxRecDepth 100000 in
theorem ii_la_house_285 : sm_D method_5_code 285 1 286 (.iconst 2) := ⟨by decide +kernel, rfl⟩
set_option maxRecDepth 100000 in
theorem ii_la_house_286 : sm_D method_5_code 286 1 287 (.iadd) := ⟨by decide +kernel, rfl⟩
set_option maxRecDepth 100000 in
theorem ii_la_house_287 : sm_D method_5_code 287 2 289 (.bipush 48) := ⟨by decide +kernel, rfl⟩
set_option maxRecDepth 100000 in
theorem ii_la_house_289 : sm_D method_5_code 289 1 290 (.aload_n 2) := ⟨by decide +kernel, rfl⟩
set_option maxRecDepth 100000 in
theorem ii_la_house_290 : sm_D method_5_code 290 2 292 (.bipush 7) := ⟨by decide +kernel, rfl⟩
set_option maxRecDepth 100000 in
theorem ii_la_house_292 : sm_D method_5_code 292 2 294 (.iload 6) := ⟨by decide +kernel, rfl⟩
set_option maxRecDepth 100000 in
theorem ii_la_house_294 : sm_D method_5_code 294 1 295 (.iadd) := ⟨by decide +kernel, rfl⟩
set_option maxRecDepth 100000 in
theorem ii_la_house_295 : sm_D method_5_code 295 1 296 (.iaload) := ⟨by decide +kernel, rfl⟩
set_option maxRecDepth 100000 in
theorem ii_la_house_296 : sm_D method_5_code 296 2 298 (.bipush 10) := ⟨by decide +kernel, rfl⟩
set_option maxRecDepth 100000 in
theorem ii_la_house_298 : sm_D method_5_code 298 1 299 (.irem) := ⟨by decide +kernel, rfl⟩
set_option maxRecDepth 100000 in
theorem ii_la_house_299 : sm_D method_5_code 299 1 300 (.iadd) := ⟨by decide +kernel, rfl⟩
set_option maxRecDepth 100000 in
theorem ii_la_house_300 : sm_D method_5_code 300 3 303 (.invokevirtual 28) := ⟨by decide +kernel, rfl⟩
set_option maxRecDepth 100000 in
theorem ii_la_house_303 : sm_D method_5_code 303 3 306 (.sipush 1032) := ⟨by decide +kernel, rfl⟩
set_option maxRecDepth 100000 in
theorem ii_la_house_306 : sm_D method_5_code 306 3 309 (.if_icmp .ne 57) := ⟨by decide +kernel, rfl⟩
set_option maxRecDepth 100000 in
theorem ii_la_house_309 : sm_D method_5_code 309 1 310 (.aload_n 0) := ⟨by decide +kernel, rfl⟩
set_option maxRecDepth 100000 in
theorem ii_la_house_310 : sm_D method_5_code 310 1 311 (.iconst 0) := ⟨by decide +kernel, rfl⟩
set_option maxRecDepth 100000 in
theorem ii_la_house_311 : sm_D method_5_code 311 2 313 (.iload 8) := ⟨by decide +kernel, rfl⟩
set_option maxRecDepth 100000 in
theorem ii_la_house_313 : sm_D method_5_code 313 1 314 (.iconst 3) := ⟨by decide +kernel, rfl⟩
set_option maxRecDepth 100000 in
theorem ii_la_house_314 : sm_D method_5_code 314 1 315 (.iadd) := ⟨by decide +kernel, rfl⟩
set_option maxRecDepth 100000 in
theorem ii_la_house_315 : sm_D method_5_code 315 2 317 (.bipush 48) := ⟨by decide +kernel, rfl⟩
set_option maxRecDepth 100000 in
theorem ii_la_house_317 : sm_D method_5_code 317 1 318 (.aload_n 3) := ⟨by decide +kernel, rfl⟩
set_option maxRecDepth 100000 in
theorem ii_la_house_318 : sm_D method_5_code 318 2 320 (.bipush 19) := ⟨by decide +kernel, rfl⟩
set_option maxRecDepth 100000 in
theorem ii_la_house_320 : sm_D method_5_code 320 2 322 (.iload 6) := ⟨by decide +kernel, rfl⟩
set_option maxRecDepth 100000 in
theorem ii_la_house_322 : sm_D method_5_code 322 1 323 (.iadd) := ⟨by decide +kernel, rfl⟩
set_option maxRecDepth 100000 in
theorem ii_la_house_323 : sm_D method_5_code 323 1 324 (.iaload) := ⟨by decide +kernel, rfl⟩
set_option maxRecDepth 100000 in
theorem ii_la_house_324 : sm_D method_5_code 324 1 325 (.iadd) := ⟨by decide +kernel, rfl⟩
set_option maxRecDepth 100000 in
theorem ii_la_house_325 : sm_D method_5_code 325 3 328 (.invokevirtual 28) := ⟨by decide +kernel, rfl⟩
set_option maxRecDepth 100000 in
theorem ii_la_house_328 : sm_D method_5_code 328 3 331 (.sipush 1032) := ⟨by decide +kernel, rfl⟩
set_option maxRecDepth 100000 in
theorem ii_la_house_331 : sm_D method_5_code 331 3 334 (.if_icmp .ne 32) := ⟨by decide +kernel, rfl⟩
set_option maxRecDepth 100000 in
theorem ii_la_house_334 : sm_D method_5_code 334 1 335 (.aload_n 0) := ⟨by decide +kernel, rfl⟩
set_option maxRecDepth 100000 in
theorem ii_la_house_335 : sm_D method_5_code 335 1 336 (.iconst 0) := ⟨by decide +kernel, rfl⟩
set_option maxRecDepth 100000 in
theorem ii_la_house_336 : sm_D method_5_code 336 2 338 (.iload 8) := ⟨by decide +kernel, rfl⟩
set_option maxRecDepth 100000 in
theorem ii_la_house_338 : sm_D method_5_code 338 1 339 (.iconst 4) := ⟨by decide +kernel, rfl⟩
set_option maxRecDepth 100000 in
theorem ii_la_house_339 : sm_D method_5_code 339 1 340 (.iadd) := ⟨by decide +kernel, rfl⟩
set_option maxRecDepth 100000 in
theorem ii_la_house_340 : sm_D method_5_code 340 2 342 (.bipush 48) := ⟨by decide +kernel, rfl⟩
set_option maxRecDepth 100000 in
theorem ii_la_house_342 : sm_D method_5_code 342 1 343 (.aload_n 2) := ⟨by decide +kernel, rfl⟩
set_option maxRecDepth 100000 in
theorem ii_la_house_343 : sm_D method_5_code 343 2 345 (.bipush 13) := ⟨by decide +kernel, rfl⟩
set_option maxRecDepth 100000 in
theorem ii_la_house_345 : sm_D method_5_code 345 2 347 (.iload 6) := ⟨by decide +kernel, rfl⟩
set_option maxRecDepth 100000 in
theorem ii_la_house_347 : sm_D method_5_code 347 1 348 (.iadd) := ⟨by decide +kernel, rfl⟩
set_option maxRecDepth 100000 in
theorem ii_la_house_348 : sm_D method_5_code 348 1 349 (.iaload) := ⟨by decide +kernel, rfl⟩
set_option maxRecDepth 100000 in
theorem ii_la_house_349 : sm_D method_5_code 349 1 350 (.iadd) := ⟨by decide +kernel, rfl⟩
set_option maxRecDepth 100000 in
theorem ii_la_house_350 : sm_D method_5_code 350 3 353 (.invokevirtual 28) := ⟨by decide +kernel, rfl⟩
set_option maxRecDepth 100000 in
theorem ii_la_house_353 : sm_D method_5_code 353 3 356 (.sipush 1032) := ⟨by decide +kernel, rfl⟩
set_option maxRecDepth 100000 in
theorem ii_la_house_356 : sm_D method_5_code 356 3 359 (.if_icmp .ne 7) := ⟨by decide +kernel, rfl⟩
set_option maxRecDepth 100000 in
theorem ii_la_house_359 : sm_D method_5_code 359 1 360 (.iconst 1) := ⟨by decide +kernel, rfl⟩
set_option maxRecDepth 100000 in
theorem ii_la_house_360 : sm_D method_5_code 360 3 363 (.goto 4) := ⟨by decide +kernel, rfl⟩
set_option maxRecDepth 100000 in
theorem ii_la_house_363 : sm_D method_5_code 363 1 364 (.iconst 0) := ⟨by decide +kernel, rfl⟩
set_option maxRecDepth 100000 in
theorem ii_la_house_364 : sm_D method_5_code 364 2 366 (.istore 5) := ⟨by decide +kernel, rfl⟩
set_option maxRecDepth 100000 in
theorem ii_la_house_366 : sm_D method_5_code 366 3 369 (.iinc 6 1) := ⟨by decide +kernel, rfl⟩
set_option maxRecDepth 100000 in
theorem ii_la_house_369 : sm_D method_5_code 369 3 372 (.goto (-307)) := ⟨by decide +kernel, rfl⟩
set_option maxRecDepth 100000 in
theorem ii_la_house_372 : sm_D method_5_code 372 2 374 (.iload 5) := ⟨by decide +kernel, rfl⟩
set_option maxRecDepth 100000 in
theorem ii_la_house_374 : sm_D method_5_code 374 3 377 (.ifCond .eq 28) := ⟨by decide +kernel, rfl⟩
set_option maxRecDepth 100000 in
theorem ii_la_house_377 : sm_D method_5_code 377 1 378 (.aload_n 0) := ⟨by decide +kernel, rfl⟩
set_option maxRecDepth 100000 in
theorem ii_la_house_378 : sm_D method_5_code 378 1 379 (.iconst 0) := ⟨by decide +kernel, rfl⟩
set_option maxRecDepth 100000 in
theorem ii_la_house_379 : sm_D method_5_code 379 3 382 (.invokevirtual 32) := ⟨by decide +kernel, rfl⟩
set_option maxRecDepth 100000 in
theorem ii_la_house_382 : sm_D method_5_code 382 2 384 (.bipush (-9)) := ⟨by decide +kernel, rfl⟩
set_option maxRecDepth 100000 in
theorem ii_la_house_384 : sm_D method_5_code 384 3 387 (.if_icmp .ne 18) := ⟨by decide +kernel, rfl⟩
set_option maxRecDepth 100000 in
theorem ii_la_house_387 : sm_D method_5_code 387 1 388 (.aload_n 0) := ⟨by decide +kernel, rfl⟩
set_option maxRecDepth 100000 in
theorem ii_la_house_388 : sm_D method_5_code 388 1 389 (.iconst 0) := ⟨by decide +kernel, rfl⟩
set_option maxRecDepth 100000 in
theorem ii_la_house_389 : sm_D method_5_code 389 3 392 (.invokevirtual 35) := ⟨by decide +kernel, rfl⟩
set_option maxRecDepth 100000 in
theorem ii_la_house_392 : sm_D method_5_code 392 1 393 (.aload_n 2) := ⟨by decide +kernel, rfl⟩
set_option maxRecDepth 100000 in
theorem ii_la_house_393 : sm_D method_5_code 393 1 394 (.iconst 0) := ⟨by decide +kernel, rfl⟩
set_option maxRecDepth 100000 in
theorem ii_la_house_394 : sm_D method_5_code 394 1 395 (.iaload) := ⟨by decide +kernel, rfl⟩
set_option maxRecDepth 100000 in
theorem ii_la_house_395 : sm_D method_5_code 395 3 398 (.if_icmp .ne 7) := ⟨by decide +kernel, rfl⟩
set_option maxRecDepth 100000 in
theorem ii_la_house_398 : sm_D method_5_code 398 1 399 (.iconst 1) := ⟨by decide +kernel, rfl⟩
set_option maxRecDepth 100000 in
theorem ii_la_house_399 : sm_D method_5_code 399 3 402 (.goto 4) := ⟨by decide +kernel, rfl⟩
set_option maxRecDepth 100000 in
theorem ii_la_house_402 : sm_D method_5_code 402 1 403 (.iconst 0) := ⟨by decide +kernel, rfl⟩
set_option maxRecDepth 100000 in
theorem ii_la_house_403 : sm_D method_5_code 403 1 404 (.ireturn) := ⟨by decide +kernel, rfl⟩
noncomputable def ff_la_house_363 (E : Nat × (Nat → Int32)) (self62 : Int32 → Int32 → Int32 → sm_Mem → sm_R) (a4 : Int32) (a6 : Int32) (w : sm_Mem) : sm_R := self62 (a4) ((0 : Int32)) ((a6 + (1 : Int32))) w
set_option maxHeartbeats 4000000 in
set_option maxRecDepth 100000 in
theorem ss_la_house_363 {E : Nat × (Nat → Int32)} (self62 : Int32 → Int32 → Int32 → sm_Mem → sm_R) (hself62 : ∀ (a4 : Int32) (a5 : Int32) (a6 : Int32) (w : sm_Mem), sm_Sim E (mi_la_house) 62 [some (.ref 0), some (.ref 999), some (.ref 62), some (.ref 63), some (.int a4), some (.int a5), some (.int a6), none, none] [] w (self62 a4 a5 a6 w)) (a4 : Int32) (a6 : Int32) (w : sm_Mem) : sm_Sim E (mi_la_house) 363 [some (.ref 0), some (.ref 999), some (.ref 62), some (.ref 63), some (.int a4), none, some (.int a6), none, none] [] w (ff_la_house_363 E self62 a4 a6 w) := by
  unfold ff_la_house_363
  refine sm_iconst (0 : Int32) ii_la_house_363 (by decide) ?_
  refine sm_istore [some (.ref 0), some (.ref 999), some (.ref 62), some (.ref 63), some (.int a4), some (.int (0 : Int32)), some (.int a6), none, none] ii_la_house_364 rfl rfl ?_
  refine sm_iinc (a6 + (1 : Int32)) [some (.ref 0), some (.ref 999), some (.ref 62), some (.ref 63), some (.int a4), some (.int (0 : Int32)), some (.int (a6 + (1 : Int32))), none, none] ii_la_house_366 rfl rfl rfl rfl ?_
  refine sm_goto 62 ii_la_house_369 (by decide) ?_
  exact hself62 (a4) ((0 : Int32)) ((a6 + (1 : Int32))) w
noncomputable def ff_la_house_211 (E : Nat × (Nat → Int32)) (self62 : Int32 → Int32 → Int32 → sm_Mem → sm_R) (a4 : Int32) (a5 : Int32) (a6 : Int32) (a8 : Int32) (b1 : Int32) (b2 : Int32) (w : sm_Mem) : sm_R := (Option.bind (sm_wr w 63 31 b1 b2) fun w1 => (Option.bind (sm_rd w1 62 19 ((13 : Int32) + a6)) fun x2 => (Option.bind (sm_wr w1 63 31 ((25 : Int32) + a6) x2) fun w3 => (if a5 = (0 : Int32) then ff_la_house_363 E self62 (a4) (a6) w3 else (Option.bind (sm_rd w3 62 19 ((1 : Int32) + a6)) fun x4 => (sm_cI (ff_la_letter (x4) w3) fun x5 w6 => (sm_cI (ff_ho_put ((0 : Int32)) (a8) (x5) w6) fun x7 w8 => (if x7 = (1032 : Int32) then (Option.bind (sm_rd w8 62 19 ((7 : Int32) + a6)) fun x9 => (if (10 : Int32) = (0 : Int32) then none else (sm_cI (ff_ho_put ((0 : Int32)) ((a8 + (1 : Int32))) (((48 : Int32) + (x9 / (10 : Int32)))) w8) fun x11 w12 => (if x11 = (1032 : Int32) then (Option.bind (sm_rd w12 62 19 ((7 : Int32) + a6)) fun x13 => (if (10 : Int32) = (0 : Int32) then none else (sm_cI (ff_ho_put ((0 : Int32)) ((a8 + (2 : Int32))) (((48 : Int32) + (x13 - x13 / (10 : Int32) * (10 : Int32)))) w12) fun x15 w16 => (if x15 = (1032 : Int32) then (Option.bind (sm_rd w16 63 31 ((19 : Int32) + a6)) fun x17 => (sm_cI (ff_ho_put ((0 : Int32)) ((a8 + (3 : Int32))) (((48 : Int32) + x17)) w16) fun x18 w19 => (if x18 = (1032 : Int32) then (Option.bind (sm_rd w19 62 19 ((13 : Int32) + a6)) fun x20 => (sm_cI (ff_ho_put ((0 : Int32)) ((a8 + (4 : Int32))) (((48 : Int32) + x20)) w19) fun x21 w22 => (if x21 = (1032 : Int32) then self62 (a4) ((1 : Int32)) ((a6 + (1 : Int32))) w22 else ff_la_house_363 E self62 (a4) (a6) w22))) else ff_la_house_363 E self62 (a4) (a6) w19))) else ff_la_house_363 E self62 (a4) (a6) w16)))) else ff_la_house_363 E self62 (a4) (a6) w12)))) else ff_la_house_363 E self62 (a4) (a6) w8))))))))
set_option maxHeartbeats 4000000 in
set_option maxRecDepth 100000 in
theorem ss_la_house_211 {E : Nat × (Nat → Int32)} (self62 : Int32 → Int32 → Int32 → sm_Mem → sm_R) (hself62 : ∀ (a4 : Int32) (a5 : Int32) (a6 : Int32) (w : sm_Mem), sm_Sim E (mi_la_house) 62 [some (.ref 0), some (.ref 999), some (.ref 62), some (.ref 63), some (.int a4), some (.int a5), some (.int a6), none, none] [] w (self62 a4 a5 a6 w)) (a4 : Int32) (a5 : Int32) (a6 : Int32) (a8 : Int32) (b1 : Int32) (b2 : Int32) (w : sm_Mem) : sm_Sim E (mi_la_house) 211 [some (.ref 0), some (.ref 999), some (.ref 62), some (.ref 63), some (.int a4), some (.int a5), some (.int a6), none, some (.int a8)] [.int b2, .int b1, .ref 63] w (ff_la_house_211 E self62 a4 a5 a6 a8 b1 b2 w) := by
  unfold ff_la_house_211
  refine sm_iast ii_la_house_211 (k := 63) rfl (fun w1 => ?_)
  refine sm_aload_n ii_la_house_212 rfl ?_
  refine sm_bipush (25 : Int32) ii_la_house_213 (by decide) ?_
  refine sm_iload ii_la_house_215 rfl ?_
  refine sm_iadd ii_la_house_217 ?_
  refine sm_aload_n ii_la_house_218 rfl ?_
  refine sm_bipush (13 : Int32) ii_la_house_219 (by decide) ?_
  refine sm_iload ii_la_house_221 rfl ?_
  refine sm_iadd ii_la_house_223 ?_
  refine sm_iald ii_la_house_224 (k := 62) rfl (fun x2 => ?_)
  refine sm_iast ii_la_house_225 (k := 63) rfl (fun w3 => ?_)
  refine sm_iload ii_la_house_226 rfl ?_
  refine sm_if_eq 363 ii_la_house_228 (by decide) ?_ ?_
  · refine sm_msk [true, true, true, true, true, false, true, false, false] [some (.ref 0), some (.ref 999), some (.ref 62), some (.ref 63), some (.int a4), none, some (.int a6), none, none] rfl ?_
    exact ss_la_house_363 self62 hself62 (a4) (a6) w3
  · refine sm_aload_n ii_la_house_231 rfl ?_
    refine sm_iconst (0 : Int32) ii_la_house_232 (by decide) ?_
    refine sm_iload ii_la_house_233 rfl ?_
    refine sm_aload_n ii_la_house_235 rfl ?_
    refine sm_iconst (1 : Int32) ii_la_house_236 (by decide) ?_
    refine sm_iload ii_la_house_237 rfl ?_
    refine sm_iadd ii_la_house_239 ?_
    refine sm_iald ii_la_house_240 (k := 62) rfl (fun x4 => ?_)
    refine sm_csI [.int x4] [.int a8, .int (0 : Int32), .ref 0] rfl ii_la_house_241 ml_la_24 (mf_la_letter) (mv_la_letter) (Nat.le_of_ble_eq_true rfl) rfl rfl rfl (mc_la_letter (x4) w3) (fun x5 w6 => ?_)
    refine sm_cvI [.int (0 : Int32), .int a8, .int x5] [] rfl ii_la_house_244 ml_la_28 (mf_ho_put) (mv_ho_put) (Nat.le_of_ble_eq_true rfl) rfl 6 rfl rfl rfl rfl (mc_ho_put ((0 : Int32)) (a8) (x5) w6) (fun x7 w8 => ?_)
    refine sm_sipush (1032 : Int32) ii_la_house_247 (by decide) ?_
    refine sm_icmp_ne 363 ii_la_house_250 (by decide) ?_ ?_
    · refine sm_aload_n ii_la_house_253 rfl ?_
      refine sm_iconst (0 : Int32) ii_la_house_254 (by decide) ?_
      refine sm_iload ii_la_house_255 rfl ?_
      refine sm_iconst (1 : Int32) ii_la_house_257 (by decide) ?_
      refine sm_iadd ii_la_house_258 ?_
      refine sm_bipush (48 : Int32) ii_la_house_259 (by decide) ?_
      refine sm_aload_n ii_la_house_261 rfl ?_
      refine sm_bipush (7 : Int32) ii_la_house_262 (by decide) ?_
      refine sm_iload ii_la_house_264 rfl ?_
      refine sm_iadd ii_la_house_266 ?_
      refine sm_iald ii_la_house_267 (k := 62) rfl (fun x9 => ?_)
      refine sm_bipush (10 : Int32) ii_la_house_268 (by decide) ?_
      refine sm_idiv ii_la_house_270 ?_
      refine sm_iadd ii_la_house_271 ?_
      refine sm_cvI [.int (0 : Int32), .int (a8 + (1 : Int32)), .int ((48 : Int32) + (x9 / (10 : Int32)))] [] rfl ii_la_house_272 ml_la_28 (mf_ho_put) (mv_ho_put) (Nat.le_of_ble_eq_true rfl) rfl 6 rfl rfl rfl rfl (mc_ho_put ((0 : Int32)) ((a8 + (1 : Int32))) (((48 : Int32) + (x9 / (10 : Int32)))) w8) (fun x11 w12 => ?_)
      refine sm_sipush (1032 : Int32) ii_la_house_275 (by decide) ?_
      refine sm_icmp_ne 363 ii_la_house_278 (by decide) ?_ ?_
      · refine sm_aload_n ii_la_house_281 rfl ?_
        refine sm_iconst (0 : Int32) ii_la_house_282 (by decide) ?_
        refine sm_iload ii_la_house_283 rfl ?_
        refine sm_iconst (2 : Int32) ii_la_house_285 (by decide) ?_
        refine sm_iadd ii_la_house_286 ?_
        refine sm_bipush (48 : Int32) ii_la_house_287 (by decide) ?_
        refine sm_aload_n ii_la_house_289 rfl ?_
        refine sm_bipush (7 : Int32) ii_la_house_290 (by decide) ?_
        refine sm_iload ii_la_house_292 rfl ?_
        refine sm_iadd ii_la_house_294 ?_
        refine sm_iald ii_la_house_295 (k := 62) rfl (fun x13 => ?_)
        refine sm_bipush (10 : Int32) ii_la_house_296 (by decide) ?_
        refine sm_irem ii_la_house_298 ?_
        refine sm_iadd ii_la_house_299 ?_
        refine sm_cvI [.int (0 : Int32), .int (a8 + (2 : Int32)), .int ((48 : Int32) + (x13 - x13 / (10 : Int32) * (10 : Int32)))] [] rfl ii_la_house_300 ml_la_28 (mf_ho_put) (mv_ho_put) (Nat.le_of_ble_eq_true rfl) rfl 6 rfl rfl rfl rfl (mc_ho_put ((0 : Int32)) ((a8 + (2 : Int32))) (((48 : Int32) + (x13 - x13 / (10 : Int32) * (10 : Int32)))) w12) (fun x15 w16 => ?_)
        refine sm_sipush (1032 : Int32) ii_la_house_303 (by decide) ?_
        refine sm_icmp_ne 363 ii_la_house_306 (by decide) ?_ ?_
        · refine sm_aload_n ii_la_house_309 rfl ?_
          refine sm_iconst (0 : Int32) ii_la_house_310 (by decide) ?_
          refine sm_iload ii_la_house_311 rfl ?_
          refine sm_iconst (3 : Int32) ii_la_house_313 (by decide) ?_
          refine sm_iadd ii_la_house_314 ?_
          refine sm_bipush (48 : Int32) ii_la_house_315 (by decide) ?_
          refine sm_aload_n ii_la_house_317 rfl ?_
          refine sm_bipush (19 : Int32) ii_la_house_318 (by decide) ?_
          refine sm_iload ii_la_house_320 rfl ?_
          refine sm_iadd ii_la_house_322 ?_
          refine sm_iald ii_la_house_323 (k := 63) rfl (fun x17 => ?_)
          refine sm_iadd ii_la_house_324 ?_
          refine sm_cvI [.int (0 : Int32), .int (a8 + (3 : Int32)), .int ((48 : Int32) + x17)] [] rfl ii_la_house_325 ml_la_28 (mf_ho_put) (mv_ho_put) (Nat.le_of_ble_eq_true rfl) rfl 6 rfl rfl rfl rfl (mc_ho_put ((0 : Int32)) ((a8 + (3 : Int32))) (((48 : Int32) + x17)) w16) (fun x18 w19 => ?_)
          refine sm_sipush (1032 : Int32) ii_la_house_328 (by decide) ?_
          refine sm_icmp_ne 363 ii_la_house_331 (by decide) ?_ ?_
          · refine sm_aload_n ii_la_house_334 rfl ?_
            refine sm_iconst (0 : Int32) ii_la_house_335 (by decide) ?_
            refine sm_iload ii_la_house_336 rfl ?_
            refine sm_iconst (4 : Int32) ii_la_house_338 (by decide) ?_
            refine sm_iadd ii_la_house_339 ?_
            refine sm_bipush (48 : Int32) ii_la_house_340 (by decide) ?_
            refine sm_aload_n ii_la_house_342 rfl ?_
            refine sm_bipush (13 : Int32) ii_la_house_343 (by decide) ?_
            refine sm_iload ii_la_house_345 rfl ?_
            refine sm_iadd ii_la_house_347 ?_
            refine sm_iald ii_la_house_348 (k := 62) rfl (fun x20 => ?_)
            refine sm_iadd ii_la_house_349 ?_
            refine sm_cvI [.int (0 : Int32), .int (a8 + (4 : Int32)), .int ((48 : Int32) + x20)] [] rfl ii_la_house_350 ml_la_28 (mf_ho_put) (mv_ho_put) (Nat.le_of_ble_eq_true rfl) rfl 6 rfl rfl rfl rfl (mc_ho_put ((0 : Int32)) ((a8 + (4 : Int32))) (((48 : Int32) + x20)) w19) (fun x21 w22 => ?_)
            refine sm_sipush (1032 : Int32) ii_la_house_353 (by decide) ?_
            refine sm_icmp_ne 363 ii_la_house_356 (by decide) ?_ ?_
            · refine sm_iconst (1 : Int32) ii_la_house_359 (by decide) ?_
              refine sm_goto 364 ii_la_house_360 (by decide) ?_
              refine sm_istore [some (.ref 0), some (.ref 999), some (.ref 62), some (.ref 63), some (.int a4), some (.int (1 : Int32)), some (.int a6), none, some (.int a8)] ii_la_house_364 rfl rfl ?_
              refine sm_iinc (a6 + (1 : Int32)) [some (.ref 0), some (.ref 999), some (.ref 62), some (.ref 63), some (.int a4), some (.int (1 : Int32)), some (.int (a6 + (1 : Int32))), none, some (.int a8)] ii_la_house_366 rfl rfl rfl rfl ?_
              refine sm_goto 62 ii_la_house_369 (by decide) ?_
              refine sm_msk [true, true, true, true, true, true, true, false, false] [some (.ref 0), some (.ref 999), some (.ref 62), some (.ref 63), some (.int a4), some (.int (1 : Int32)), some (.int (a6 + (1 : Int32))), none, none] rfl ?_
              exact hself62 (a4) ((1 : Int32)) ((a6 + (1 : Int32))) w22
            · refine sm_msk [true, true, true, true, true, false, true, false, false] [some (.ref 0), some (.ref 999), some (.ref 62), some (.ref 63), some (.int a4), none, some (.int a6), none, none] rfl ?_
              exact ss_la_house_363 self62 hself62 (a4) (a6) w22
          · refine sm_msk [true, true, true, true, true, false, true, false, false] [some (.ref 0), some (.ref 999), some (.ref 62), some (.ref 63), some (.int a4), none, some (.int a6), none, none] rfl ?_
            exact ss_la_house_363 self62 hself62 (a4) (a6) w19
        · refine sm_msk [true, true, true, true, true, false, true, false, false] [some (.ref 0), some (.ref 999), some (.ref 62), some (.ref 63), some (.int a4), none, some (.int a6), none, none] rfl ?_
          exact ss_la_house_363 self62 hself62 (a4) (a6) w16
      · refine sm_msk [true, true, true, true, true, false, true, false, false] [some (.ref 0), some (.ref 999), some (.ref 62), some (.ref 63), some (.int a4), none, some (.int a6), none, none] rfl ?_
        exact ss_la_house_363 self62 hself62 (a4) (a6) w12
    · refine sm_msk [true, true, true, true, true, false, true, false, false] [some (.ref 0), some (.ref 999), some (.ref 62), some (.ref 63), some (.int a4), none, some (.int a6), none, none] rfl ?_
      exact ss_la_house_363 self62 hself62 (a4) (a6) w8
noncomputable def ff_la_house_168 (E : Nat × (Nat → Int32)) (self62 : Int32 → Int32 → Int32 → sm_Mem → sm_R) (a4 : Int32) (a5 : Int32) (a6 : Int32) (a7 : Int32) (a8 : Int32) (b1 : Int32) (b2 : Int32) (b3 : Int32) (b4 : Int32) (w : sm_Mem) : sm_R := (sm_cI (ff_la_low (b3) (b4) w) fun x23 w24 => (Option.bind (sm_wr w24 62 19 b1 (b2 + x23)) fun w25 => (if ((a4 >>> ((22 : Int32) &&& (31 : Int32))) &&& (1 : Int32)) = (0 : Int32) then (sm_cI (ff_la_low ((a7 >>> ((20 : Int32) &&& (31 : Int32)))) ((2 : Int32)) w25) fun x28 w29 => ff_la_house_211 E self62 (a4) (a5) (a6) (a8) (((19 : Int32) + a6)) (x28) w29) else (sm_cI (ff_la_low ((a7 >>> ((20 : Int32) &&& (31 : Int32)))) ((6 : Int32)) w25) fun x26 w27 => ff_la_house_211 E self62 (a4) (a5) (a6) (a8) (((19 : Int32) + a6)) (x26) w27))))
set_option maxHeartbeats 4000000 in
set_option maxRecDepth 100000 in
theorem ss_la_house_168 {E : Nat × (Nat → Int32)} (self62 : Int32 → Int32 → Int32 → sm_Mem → sm_R) (hself62 : ∀ (a4 : Int32) (a5 : Int32) (a6 : Int32) (w : sm_Mem), sm_Sim E (mi_la_house) 62 [some (.ref 0), some (.ref 999), some (.ref 62), some (.ref 63), some (.int a4), some (.int a5), some (.int a6), none, none] [] w (self62 a4 a5 a6 w)) (a4 : Int32) (a5 : Int32) (a6 : Int32) (a7 : Int32) (a8 : Int32) (b1 : Int32) (b2 : Int32) (b3 : Int32) (b4 : Int32) (w : sm_Mem) : sm_Sim E (mi_la_house) 168 [some (.ref 0), some (.ref 999), some (.ref 62), some (.ref 63), some (.int a4), some (.int a5), some (.int a6), some (.int a7), some (.int a8)] [.int b4, .int b3, .int b2, .int b1, .ref 62] w (ff_la_house_168 E self62 a4 a5 a6 a7 a8 b1 b2 b3 b4 w) := by
  unfold ff_la_house_168
  refine sm_csI [.int b3, .int b4] [.int b2, .int b1, .ref 62] rfl ii_la_house_168 ml_la_15 (mf_la_low) (mv_la_low) (Nat.le_of_ble_eq_true rfl) rfl rfl rfl (mc_la_low (b3) (b4) w) (fun x23 w24 => ?_)
  refine sm_iadd ii_la_house_171 ?_
  refine sm_iast ii_la_house_172 (k := 62) rfl (fun w25 => ?_)
  refine sm_aload_n ii_la_house_173 rfl ?_
  refine sm_bipush (19 : Int32) ii_la_house_174 (by decide) ?_
  refine sm_iload ii_la_house_176 rfl ?_
  refine sm_iadd ii_la_house_178 ?_
  refine sm_iload ii_la_house_179 rfl ?_
  refine sm_bipush (22 : Int32) ii_la_house_181 (by decide) ?_
  refine sm_ishr ii_la_house_183 ?_
  refine sm_iconst (1 : Int32) ii_la_house_184 (by decide) ?_
  refine sm_iand ii_la_house_185 ?_
  refine sm_if_ne 201 ii_la_house_186 (by decide) ?_ ?_
  · refine sm_iload ii_la_house_189 rfl ?_
    refine sm_bipush (20 : Int32) ii_la_house_191 (by decide) ?_
    refine sm_ishr ii_la_house_193 ?_
    refine sm_iconst (2 : Int32) ii_la_house_194 (by decide) ?_
    refine sm_csI [.int (a7 >>> ((20 : Int32) &&& (31 : Int32))), .int (2 : Int32)] [.int ((19 : Int32) + a6), .ref 63] rfl ii_la_house_195 ml_la_15 (mf_la_low) (mv_la_low) (Nat.le_of_ble_eq_true rfl) rfl rfl rfl (mc_la_low ((a7 >>> ((20 : Int32) &&& (31 : Int32)))) ((2 : Int32)) w25) (fun x28 w29 => ?_)
    refine sm_goto 211 ii_la_house_198 (by decide) ?_
    refine sm_msk [true, true, true, true, true, true, true, false, true] [some (.ref 0), some (.ref 999), some (.ref 62), some (.ref 63), some (.int a4), some (.int a5), some (.int a6), none, some (.int a8)] rfl ?_
    exact ss_la_house_211 self62 hself62 (a4) (a5) (a6) (a8) (((19 : Int32) + a6)) (x28) w29
  · refine sm_iload ii_la_house_201 rfl ?_
    refine sm_bipush (20 : Int32) ii_la_house_203 (by decide) ?_
    refine sm_ishr ii_la_house_205 ?_
    refine sm_bipush (6 : Int32) ii_la_house_206 (by decide) ?_
    refine sm_csI [.int (a7 >>> ((20 : Int32) &&& (31 : Int32))), .int (6 : Int32)] [.int ((19 : Int32) + a6), .ref 63] rfl ii_la_house_208 ml_la_15 (mf_la_low) (mv_la_low) (Nat.le_of_ble_eq_true rfl) rfl rfl rfl (mc_la_low ((a7 >>> ((20 : Int32) &&& (31 : Int32)))) ((6 : Int32)) w25) (fun x26 w27 => ?_)
    refine sm_msk [true, true, true, true, true, true, true, false, true] [some (.ref 0), some (.ref 999), some (.ref 62), some (.ref 63), some (.int a4), some (.int a5), some (.int a6), none, some (.int a8)] rfl ?_
    exact ss_la_house_211 self62 hself62 (a4) (a5) (a6) (a8) (((19 : Int32) + a6)) (x26) w27
noncomputable def ff_la_house_139 (E : Nat × (Nat → Int32)) (self62 : Int32 → Int32 → Int32 → sm_Mem → sm_R) (a4 : Int32) (a5 : Int32) (a6 : Int32) (a7 : Int32) (a8 : Int32) (b1 : Int32) (b2 : Int32) (w : sm_Mem) : sm_R := (Option.bind (sm_wr w 62 19 b1 b2) fun w30 => (if ((a4 >>> ((21 : Int32) &&& (31 : Int32))) &&& (1 : Int32)) = (0 : Int32) then ff_la_house_168 E self62 (a4) (a5) (a6) (a7) (a8) (((13 : Int32) + a6)) ((1 : Int32)) ((a7 >>> ((16 : Int32) &&& (31 : Int32)))) ((9 : Int32)) w30 else ff_la_house_168 E self62 (a4) (a5) (a6) (a7) (a8) (((13 : Int32) + a6)) ((1 : Int32)) ((a7 >>> ((16 : Int32) &&& (31 : Int32)))) ((3 : Int32)) w30))
set_option maxHeartbeats 4000000 in
set_option maxRecDepth 100000 in
theorem ss_la_house_139 {E : Nat × (Nat → Int32)} (self62 : Int32 → Int32 → Int32 → sm_Mem → sm_R) (hself62 : ∀ (a4 : Int32) (a5 : Int32) (a6 : Int32) (w : sm_Mem), sm_Sim E (mi_la_house) 62 [some (.ref 0), some (.ref 999), some (.ref 62), some (.ref 63), some (.int a4), some (.int a5), some (.int a6), none, none] [] w (self62 a4 a5 a6 w)) (a4 : Int32) (a5 : Int32) (a6 : Int32) (a7 : Int32) (a8 : Int32) (b1 : Int32) (b2 : Int32) (w : sm_Mem) : sm_Sim E (mi_la_house) 139 [some (.ref 0), some (.ref 999), some (.ref 62), some (.ref 63), some (.int a4), some (.int a5), some (.int a6), some (.int a7), some (.int a8)] [.int b2, .int b1, .ref 62] w (ff_la_house_139 E self62 a4 a5 a6 a7 a8 b1 b2 w) := by
  unfold ff_la_house_139
  refine sm_iast ii_la_house_139 (k := 62) rfl (fun w30 => ?_)
  refine sm_aload_n ii_la_house_140 rfl ?_
  refine sm_bipush (13 : Int32) ii_la_house_141 (by decide) ?_
  refine sm_iload ii_la_house_143 rfl ?_
  refine sm_iadd ii_la_house_145 ?_
  refine sm_iconst (1 : Int32) ii_la_house_146 (by decide) ?_
  refine sm_iload ii_la_house_147 rfl ?_
  refine sm_bipush (16 : Int32) ii_la_house_149 (by decide) ?_
  refine sm_ishr ii_la_house_151 ?_
  refine sm_iload ii_la_house_152 rfl ?_
  refine sm_bipush (21 : Int32) ii_la_house_154 (by decide) ?_
  refine sm_ishr ii_la_house_156 ?_
  refine sm_iconst (1 : Int32) ii_la_house_157 (by decide) ?_
  refine sm_iand ii_la_house_158 ?_
  refine sm_if_ne 167 ii_la_house_159 (by decide) ?_ ?_
  · refine sm_bipush (9 : Int32) ii_la_house_162 (by decide) ?_
    refine sm_goto 168 ii_la_house_164 (by decide) ?_
    exact ss_la_house_168 self62 hself62 (a4) (a5) (a6) (a7) (a8) (((13 : Int32) + a6)) ((1 : Int32)) ((a7 >>> ((16 : Int32) &&& (31 : Int32)))) ((9 : Int32)) w30
  · refine sm_iconst (3 : Int32) ii_la_house_167 (by decide) ?_
    exact ss_la_house_168 self62 hself62 (a4) (a5) (a6) (a7) (a8) (((13 : Int32) + a6)) ((1 : Int32)) ((a7 >>> ((16 : Int32) &&& (31 : Int32)))) ((3 : Int32)) w30
noncomputable def ff_la_house_62_b (E : Nat × (Nat → Int32))  (self62 : Int32 → Int32 → Int32 → sm_Mem → sm_R) (a4 : Int32) (a5 : Int32) (a6 : Int32) (w : sm_Mem) : sm_R := (Option.bind (sm_rd w 62 19 (0 : Int32)) fun x31 => (if x31 ≤ a6 then (if a5 = (0 : Int32) then (some (.int (0 : Int32), w)) else (sm_cI (ff_ho_fault ((0 : Int32)) w) fun x32 w33 => (if x32 = (-9 : Int32) then (sm_cI (ff_ho_house ((0 : Int32)) w33) fun x34 w35 => (Option.bind (sm_rd w35 62 19 (0 : Int32)) fun x36 => (if x34 = x36 then (some (.int (1 : Int32), w35)) else (some (.int (0 : Int32), w35))))) else (some (.int (0 : Int32), w33))))) else (sm_cI (ff_la_cell E (((1 : Int32) + a6)) w) fun x37 w38 => (sm_cI (ff_la_low (x37) ((6 : Int32)) w38) fun x39 w40 => (Option.bind (sm_wr w40 62 19 ((1 : Int32) + a6) x39) fun w41 => (if ((a4 >>> ((20 : Int32) &&& (31 : Int32))) &&& (1 : Int32)) = (0 : Int32) then ff_la_house_139 E self62 (a4) (a5) (a6) (x37) (((6 : Int32) * a6)) (((7 : Int32) + a6)) ((((x37 >>> ((3 : Int32) &&& (31 : Int32))) ||| (x37 >>> ((10 : Int32) &&& (31 : Int32)))) &&& (63 : Int32))) w41 else ff_la_house_139 E self62 (a4) (a5) (a6) (x37) (((6 : Int32) * a6)) (((7 : Int32) + a6)) (((x37 >>> ((3 : Int32) &&& (31 : Int32))) &&& (63 : Int32))) w41))))))
noncomputable def ff_la_house_62_f (E : Nat × (Nat → Int32))  : Nat → Int32 → Int32 → Int32 → sm_Mem → sm_R
  | 0, _, _, _, _ => none
  | n + 1, a4, a5, a6, w => ff_la_house_62_b E  (ff_la_house_62_f E  n) a4 a5 a6 w
noncomputable def ff_la_house_62 (E : Nat × (Nat → Int32))  (a4 : Int32) (a5 : Int32) (a6 : Int32) (w : sm_Mem) : sm_R := ff_la_house_62_f E  sm_N a4 a5 a6 w
set_option maxHeartbeats 4000000 in
set_option maxRecDepth 100000 in
theorem ss_la_house_62_b {E : Nat × (Nat → Int32)}  (self62 : Int32 → Int32 → Int32 → sm_Mem → sm_R) (hself62 : ∀ (a4 : Int32) (a5 : Int32) (a6 : Int32) (w : sm_Mem), sm_Sim E (mi_la_house) 62 [some (.ref 0), some (.ref 999), some (.ref 62), some (.ref 63), some (.int a4), some (.int a5), some (.int a6), none, none] [] w (self62 a4 a5 a6 w)) (a4 : Int32) (a5 : Int32) (a6 : Int32) (w : sm_Mem) : sm_Sim E (mi_la_house) 62 [some (.ref 0), some (.ref 999), some (.ref 62), some (.ref 63), some (.int a4), some (.int a5), some (.int a6), none, none] [] w (ff_la_house_62_b E  self62 a4 a5 a6 w) := by
  unfold ff_la_house_62_b
  refine sm_iload ii_la_house_62 rfl ?_
  refine sm_aload_n ii_la_house_64 rfl ?_
  refine sm_iconst (0 : Int32) ii_la_house_65 (by decide) ?_
  refine sm_iald ii_la_house_66 (k := 62) rfl (fun x31 => ?_)
  refine sm_icmp_ge 372 ii_la_house_67 (by decide) ?_ ?_
  · refine sm_iload ii_la_house_372 rfl ?_
    refine sm_if_eq 402 ii_la_house_374 (by decide) ?_ ?_
    · refine sm_iconst (0 : Int32) ii_la_house_402 (by decide) ?_
      exact sm_zret1 ii_la_house_403 rfl (by decide)
    · refine sm_aload_n ii_la_house_377 rfl ?_
      refine sm_iconst (0 : Int32) ii_la_house_378 (by decide) ?_
      refine sm_cvI [.int (0 : Int32)] [] rfl ii_la_house_379 ml_la_32 (mf_ho_fault) (mv_ho_fault) (Nat.le_of_ble_eq_true rfl) rfl 6 rfl rfl rfl rfl (mc_ho_fault ((0 : Int32)) w) (fun x32 w33 => ?_)
      refine sm_bipush (-9 : Int32) ii_la_house_382 (by decide) ?_
      refine sm_icmp_ne 402 ii_la_house_384 (by decide) ?_ ?_
      · refine sm_aload_n ii_la_house_387 rfl ?_
        refine sm_iconst (0 : Int32) ii_la_house_388 (by decide) ?_
        refine sm_cvI [.int (0 : Int32)] [] rfl ii_la_house_389 ml_la_35 (mf_ho_house) (mv_ho_house) (Nat.le_of_ble_eq_true rfl) rfl 6 rfl rfl rfl rfl (mc_ho_house ((0 : Int32)) w33) (fun x34 w35 => ?_)
        refine sm_aload_n ii_la_house_392 rfl ?_
        refine sm_iconst (0 : Int32) ii_la_house_393 (by decide) ?_
        refine sm_iald ii_la_house_394 (k := 62) rfl (fun x36 => ?_)
        refine sm_icmp_ne 402 ii_la_house_395 (by decide) ?_ ?_
        · refine sm_iconst (1 : Int32) ii_la_house_398 (by decide) ?_
          refine sm_goto 403 ii_la_house_399 (by decide) ?_
          exact sm_zret1 ii_la_house_403 rfl (by decide)
        · refine sm_iconst (0 : Int32) ii_la_house_402 (by decide) ?_
          exact sm_zret1 ii_la_house_403 rfl (by decide)
      · refine sm_iconst (0 : Int32) ii_la_house_402 (by decide) ?_
        exact sm_zret1 ii_la_house_403 rfl (by decide)
  · refine sm_aload_n ii_la_house_70 rfl ?_
    refine sm_iconst (1 : Int32) ii_la_house_71 (by decide) ?_
    refine sm_iload ii_la_house_72 rfl ?_
    refine sm_iadd ii_la_house_74 ?_
    refine sm_csI [.ref 999, .int ((1 : Int32) + a6)] [] rfl ii_la_house_75 ml_la_9 (mf_la_cell) (mv_la_cell) (Nat.le_of_ble_eq_true rfl) rfl rfl rfl (mc_la_cell (((1 : Int32) + a6)) w) (fun x37 w38 => ?_)
    refine sm_istore [some (.ref 0), some (.ref 999), some (.ref 62), some (.ref 63), some (.int a4), some (.int a5), some (.int a6), some (.int x37), none] ii_la_house_78 rfl rfl ?_
    refine sm_bipush (6 : Int32) ii_la_house_80 (by decide) ?_
    refine sm_iload ii_la_house_82 rfl ?_
    refine sm_imul ii_la_house_84 ?_
    refine sm_istore [some (.ref 0), some (.ref 999), some (.ref 62), some (.ref 63), some (.int a4), some (.int a5), some (.int a6), some (.int x37), some (.int ((6 : Int32) * a6))] ii_la_house_85 rfl rfl ?_
    refine sm_aload_n ii_la_house_87 rfl ?_
    refine sm_iconst (1 : Int32) ii_la_house_88 (by decide) ?_
    refine sm_iload ii_la_house_89 rfl ?_
    refine sm_iadd ii_la_house_91 ?_
    refine sm_iload ii_la_house_92 rfl ?_
    refine sm_bipush (6 : Int32) ii_la_house_94 (by decide) ?_
    refine sm_csI [.int x37, .int (6 : Int32)] [.int ((1 : Int32) + a6), .ref 62] rfl ii_la_house_96 ml_la_15 (mf_la_low) (mv_la_low) (Nat.le_of_ble_eq_true rfl) rfl rfl rfl (mc_la_low (x37) ((6 : Int32)) w38) (fun x39 w40 => ?_)
    refine sm_iast ii_la_house_99 (k := 62) rfl (fun w41 => ?_)
    refine sm_aload_n ii_la_house_100 rfl ?_
    refine sm_bipush (7 : Int32) ii_la_house_101 (by decide) ?_
    refine sm_iload ii_la_house_103 rfl ?_
    refine sm_iadd ii_la_house_105 ?_
    refine sm_iload ii_la_house_106 rfl ?_
    refine sm_bipush (20 : Int32) ii_la_house_108 (by decide) ?_
    refine sm_ishr ii_la_house_110 ?_
    refine sm_iconst (1 : Int32) ii_la_house_111 (by decide) ?_
    refine sm_iand ii_la_house_112 ?_
    refine sm_if_ne 132 ii_la_house_113 (by decide) ?_ ?_
    · refine sm_iload ii_la_house_116 rfl ?_
      refine sm_iconst (3 : Int32) ii_la_house_118 (by decide) ?_
      refine sm_ishr ii_la_house_119 ?_
      refine sm_iload ii_la_house_120 rfl ?_
      refine sm_bipush (10 : Int32) ii_la_house_122 (by decide) ?_
      refine sm_ishr ii_la_house_124 ?_
      refine sm_ior ii_la_house_125 ?_
      refine sm_bipush (63 : Int32) ii_la_house_126 (by decide) ?_
      refine sm_iand ii_la_house_128 ?_
      refine sm_goto 139 ii_la_house_129 (by decide) ?_
      exact ss_la_house_139 self62 hself62 (a4) (a5) (a6) (x37) (((6 : Int32) * a6)) (((7 : Int32) + a6)) ((((x37 >>> ((3 : Int32) &&& (31 : Int32))) ||| (x37 >>> ((10 : Int32) &&& (31 : Int32)))) &&& (63 : Int32))) w41
    · refine sm_iload ii_la_house_132 rfl ?_
      refine sm_iconst (3 : Int32) ii_la_house_134 (by decide) ?_
      refine sm_ishr ii_la_house_135 ?_
      refine sm_bipush (63 : Int32) ii_la_house_136 (by decide) ?_
      refine sm_iand ii_la_house_138 ?_
      exact ss_la_house_139 self62 hself62 (a4) (a5) (a6) (x37) (((6 : Int32) * a6)) (((7 : Int32) + a6)) (((x37 >>> ((3 : Int32) &&& (31 : Int32))) &&& (63 : Int32))) w41
set_option maxHeartbeats 4000000 in
set_option maxRecDepth 100000 in
theorem ss_la_house_62_f {E : Nat × (Nat → Int32)}  : ∀ (n : Nat) (a4 : Int32) (a5 : Int32) (a6 : Int32) (w : sm_Mem), sm_Sim E (mi_la_house) 62 [some (.ref 0), some (.ref 999), some (.ref 62), some (.ref 63), some (.int a4), some (.int a5), some (.int a6), none, none] [] w (ff_la_house_62_f E  n a4 a5 a6 w)
  | 0, _, _, _, _ => fun _ _ h => by cases h
  | n + 1, a4, a5, a6, w => ss_la_house_62_b  _ (ss_la_house_62_f  n) a4 a5 a6 w
set_option maxHeartbeats 4000000 in
set_option maxRecDepth 100000 in
theorem ss_la_house_62 {E : Nat × (Nat → Int32)}  (a4 : Int32) (a5 : Int32) (a6 : Int32) (w : sm_Mem) : sm_Sim E (mi_la_house) 62 [some (.ref 0), some (.ref 999), some (.ref 62), some (.ref 63), some (.int a4), some (.int a5), some (.int a6), none, none] [] w (ff_la_house_62 E  a4 a5 a6 w) := ss_la_house_62_f  sm_N a4 a5 a6 w
noncomputable def ff_la_house_22_b (E : Nat × (Nat → Int32))  (self22 : Int32 → Int32 → sm_Mem → sm_R) (a4 : Int32) (a5 : Int32) (w : sm_Mem) : sm_R := (if (31 : Int32) ≤ a5 then (sm_cI (ff_ho_text ((0 : Int32)) ((40 : Int32)) w) fun x42 w43 => (if x42 = (40 : Int32) then ff_la_house_62 E (a4) ((1 : Int32)) ((0 : Int32)) w43 else ff_la_house_62 E (a4) ((0 : Int32)) ((0 : Int32)) w43)) else (Option.bind (sm_wr w 63 31 a5 (0 : Int32)) fun w44 => self22 (a4) ((a5 + (1 : Int32))) w44))
noncomputable def ff_la_house_22_f (E : Nat × (Nat → Int32))  : Nat → Int32 → Int32 → sm_Mem → sm_R
  | 0, _, _, _ => none
  | n + 1, a4, a5, w => ff_la_house_22_b E  (ff_la_house_22_f E  n) a4 a5 w
noncomputable def ff_la_house_22 (E : Nat × (Nat → Int32))  (a4 : Int32) (a5 : Int32) (w : sm_Mem) : sm_R := ff_la_house_22_f E  sm_N a4 a5 w
set_option maxHeartbeats 4000000 in
set_option maxRecDepth 100000 in
theorem ss_la_house_22_b {E : Nat × (Nat → Int32)}  (self22 : Int32 → Int32 → sm_Mem → sm_R) (hself22 : ∀ (a4 : Int32) (a5 : Int32) (w : sm_Mem), sm_Sim E (mi_la_house) 22 [some (.ref 0), some (.ref 999), some (.ref 62), some (.ref 63), some (.int a4), some (.int a5), none, none, none] [] w (self22 a4 a5 w)) (a4 : Int32) (a5 : Int32) (w : sm_Mem) : sm_Sim E (mi_la_house) 22 [some (.ref 0), some (.ref 999), some (.ref 62), some (.ref 63), some (.int a4), some (.int a5), none, none, none] [] w (ff_la_house_22_b E  self22 a4 a5 w) := by
  unfold ff_la_house_22_b
  refine sm_iload ii_la_house_22 rfl ?_
  refine sm_bipush (31 : Int32) ii_la_house_24 (by decide) ?_
  refine sm_icmp_ge 40 ii_la_house_26 (by decide) ?_ ?_
  · refine sm_aload_n ii_la_house_40 rfl ?_
    refine sm_iconst (0 : Int32) ii_la_house_41 (by decide) ?_
    refine sm_bipush (40 : Int32) ii_la_house_42 (by decide) ?_
    refine sm_cvI [.int (0 : Int32), .int (40 : Int32)] [] rfl ii_la_house_44 ml_la_19 (mf_ho_text) (mv_ho_text) (Nat.le_of_ble_eq_true rfl) rfl 6 rfl rfl rfl rfl (mc_ho_text ((0 : Int32)) ((40 : Int32)) w) (fun x42 w43 => ?_)
    refine sm_bipush (40 : Int32) ii_la_house_47 (by decide) ?_
    refine sm_icmp_ne 56 ii_la_house_49 (by decide) ?_ ?_
    · refine sm_iconst (1 : Int32) ii_la_house_52 (by decide) ?_
      refine sm_goto 57 ii_la_house_53 (by decide) ?_
      refine sm_istore [some (.ref 0), some (.ref 999), some (.ref 62), some (.ref 63), some (.int a4), some (.int (1 : Int32)), none, none, none] ii_la_house_57 rfl rfl ?_
      refine sm_iconst (0 : Int32) ii_la_house_59 (by decide) ?_
      refine sm_istore [some (.ref 0), some (.ref 999), some (.ref 62), some (.ref 63), some (.int a4), some (.int (1 : Int32)), some (.int (0 : Int32)), none, none] ii_la_house_60 rfl rfl ?_
      exact ss_la_house_62 (a4) ((1 : Int32)) ((0 : Int32)) w43
    · refine sm_iconst (0 : Int32) ii_la_house_56 (by decide) ?_
      refine sm_istore [some (.ref 0), some (.ref 999), some (.ref 62), some (.ref 63), some (.int a4), some (.int (0 : Int32)), none, none, none] ii_la_house_57 rfl rfl ?_
      refine sm_iconst (0 : Int32) ii_la_house_59 (by decide) ?_
      refine sm_istore [some (.ref 0), some (.ref 999), some (.ref 62), some (.ref 63), some (.int a4), some (.int (0 : Int32)), some (.int (0 : Int32)), none, none] ii_la_house_60 rfl rfl ?_
      exact ss_la_house_62 (a4) ((0 : Int32)) ((0 : Int32)) w43
  · refine sm_aload_n ii_la_house_29 rfl ?_
    refine sm_iload ii_la_house_30 rfl ?_
    refine sm_iconst (0 : Int32) ii_la_house_32 (by decide) ?_
    refine sm_iast ii_la_house_33 (k := 63) rfl (fun w44 => ?_)
    refine sm_iinc (a5 + (1 : Int32)) [some (.ref 0), some (.ref 999), some (.ref 62), some (.ref 63), some (.int a4), some (.int (a5 + (1 : Int32))), none, none, none] ii_la_house_34 rfl rfl rfl rfl ?_
    refine sm_goto 22 ii_la_house_37 (by decide) ?_
    exact hself22 (a4) ((a5 + (1 : Int32))) w44
set_option maxHeartbeats 4000000 in
set_option maxRecDepth 100000 in
theorem ss_la_house_22_f {E : Nat × (Nat → Int32)}  : ∀ (n : Nat) (a4 : Int32) (a5 : Int32) (w : sm_Mem), sm_Sim E (mi_la_house) 22 [some (.ref 0), some (.ref 999), some (.ref 62), some (.ref 63), some (.int a4), some (.int a5), none, none, none] [] w (ff_la_house_22_f E  n a4 a5 w)
  | 0, _, _, _ => fun _ _ h => by cases h
  | n + 1, a4, a5, w => ss_la_house_22_b  _ (ss_la_house_22_f  n) a4 a5 w
set_option maxHeartbeats 4000000 in
set_option maxRecDepth 100000 in
theorem ss_la_house_22 {E : Nat × (Nat → Int32)}  (a4 : Int32) (a5 : Int32) (w : sm_Mem) : sm_Sim E (mi_la_house) 22 [some (.ref 0), some (.ref 999), some (.ref 62), some (.ref 63), some (.int a4), some (.int a5), none, none, none] [] w (ff_la_house_22 E  a4 a5 w) := ss_la_house_22_f  sm_N a4 a5 w
noncomputable def ff_la_house (E : Nat × (Nat → Int32))   (w : sm_Mem) : sm_R := (sm_cI (ff_la_cell E ((0 : Int32)) w) fun x45 w46 => (sm_cI (ff_la_low (x45) ((6 : Int32)) w46) fun x47 w48 => (Option.bind (sm_wr w48 62 19 (0 : Int32) ((1 : Int32) + x47)) fun w49 => ff_la_house_22 E (x45) ((0 : Int32)) w49)))
set_option maxHeartbeats 4000000 in
set_option maxRecDepth 100000 in
theorem ss_la_house_0 {E : Nat × (Nat → Int32)}   (w : sm_Mem) : sm_Sim E (mi_la_house) 0 [some (.ref 0), some (.ref 999), some (.ref 62), some (.ref 63), none, none, none, none, none] [] w (ff_la_house E   w) := by
  unfold ff_la_house
  refine sm_aload_n ii_la_house_0 rfl ?_
  refine sm_iconst (0 : Int32) ii_la_house_1 (by decide) ?_
  refine sm_csI [.ref 999, .int (0 : Int32)] [] rfl ii_la_house_2 ml_la_9 (mf_la_cell) (mv_la_cell) (Nat.le_of_ble_eq_true rfl) rfl rfl rfl (mc_la_cell ((0 : Int32)) w) (fun x45 w46 => ?_)
  refine sm_istore [some (.ref 0), some (.ref 999), some (.ref 62), some (.ref 63), some (.int x45), none, none, none, none] ii_la_house_5 rfl rfl ?_
  refine sm_aload_n ii_la_house_7 rfl ?_
  refine sm_iconst (0 : Int32) ii_la_house_8 (by decide) ?_
  refine sm_iconst (1 : Int32) ii_la_house_9 (by decide) ?_
  refine sm_iload ii_la_house_10 rfl ?_
  refine sm_bipush (6 : Int32) ii_la_house_12 (by decide) ?_
  refine sm_csI [.int x45, .int (6 : Int32)] [.int (1 : Int32), .int (0 : Int32), .ref 62] rfl ii_la_house_14 ml_la_15 (mf_la_low) (mv_la_low) (Nat.le_of_ble_eq_true rfl) rfl rfl rfl (mc_la_low (x45) ((6 : Int32)) w46) (fun x47 w48 => ?_)
  refine sm_iadd ii_la_house_17 ?_
  refine sm_iast ii_la_house_18 (k := 62) rfl (fun w49 => ?_)
  refine sm_iconst (0 : Int32) ii_la_house_19 (by decide) ?_
  refine sm_istore [some (.ref 0), some (.ref 999), some (.ref 62), some (.ref 63), some (.int x45), some (.int (0 : Int32)), none, none, none] ii_la_house_20 rfl rfl ?_
  exact ss_la_house_22 (x45) ((0 : Int32)) w49
set_option maxHeartbeats 4000000 in
set_option maxRecDepth 100000 in
theorem mc_la_house {E : Nat × (Nat → Int32)}  (w : sm_Mem) : sm_MC E mi_la_house [.ref 0, .ref 999, .ref 62, .ref 63] w (ff_la_house E  w) := sm_MC_of E (by decide +kernel) rfl (Nat.le_of_ble_eq_true rfl) (ss_la_house_0  w)
