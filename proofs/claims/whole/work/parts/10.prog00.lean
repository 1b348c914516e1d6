/-! the program, by a program: functions of its methods and that the methods do them -/
set_option maxRecDepth 100000 in
theorem fp_td_19 : sm_FP "HerOrders$Told" 19 3 3 .int := ⟨RX3, TX3, 5, tyX3, rfl, by decide, rfl, sm_inX3, tyX3_ok, nmX3, rfl, by decide +kernel, Or.inl (List.mem_of_getElem? (i := 348) (by decide +kernel))⟩
set_option maxRecDepth 100000 in
theorem fl_td_15 : sm_FL "HerOrders$Told" 15 3 4 := ⟨RX3, TX3, 5, rfl, by decide, rfl, sm_inX3, Or.inl (List.mem_of_getElem? (i := 350) (by decide +kernel))⟩
set_option maxRecDepth 100000 in
theorem fl_rw_21 : sm_FL "HerOrders$Row" 21 2 1 := ⟨RX2, TX2, 2, rfl, by decide, rfl, sm_inX2, Or.inl (List.mem_of_getElem? (i := 158) (by decide +kernel))⟩
set_option maxRecDepth 100000 in
theorem fl_rw_15 : sm_FL "HerOrders$Row" 15 2 0 := ⟨RX2, TX2, 2, rfl, by decide, rfl, sm_inX2, Or.inl (List.mem_of_getElem? (i := 153) (by decide +kernel))⟩
set_option maxRecDepth 100000 in
theorem mq_rw_25 : Cond.methodLink "HerOrders$Row" 25 Lib.Math.min.name ∈ lw_tbl := List.mem_of_getElem? (i := 404) (by decide +kernel)
set_option maxRecDepth 100000 in
theorem mq_st_min : Cond.static Lib.Math.min.name ∈ lw_tbl := List.mem_of_getElem? (i := 405) (by decide +kernel)
set_option maxRecDepth 100000 in
theorem mq_in : Cond.initialized "java/lang/Math" ∈ lw_tbl := List.mem_of_getElem? (i := 126) (by decide +kernel)
set_option maxRecDepth 100000 in
theorem mq_co_min : Cond.code Lib.Math.min.name Lib.Math.min.code 2 (some .int) ∈ lw_tbl := List.mem_of_getElem? (i := 406) (by decide +kernel)
set_option maxRecDepth 100000 in
theorem mq_rw_9 : Cond.methodLink "HerOrders$Row" 9 Lib.Math.max.name ∈ lw_tbl := List.mem_of_getElem? (i := 150) (by decide +kernel)
set_option maxRecDepth 100000 in
theorem mq_st_max : Cond.static Lib.Math.max.name ∈ lw_tbl := List.mem_of_getElem? (i := 151) (by decide +kernel)
set_option maxRecDepth 100000 in
theorem mq_co_max : Cond.code Lib.Math.max.name Lib.Math.max.code 2 (some .int) ∈ lw_tbl := List.mem_of_getElem? (i := 152) (by decide +kernel)
set_option maxRecDepth 100000 in
theorem fp_rw_21 : sm_FP "HerOrders$Row" 21 2 1 .int := ⟨RX2, TX2, 2, tyX2, rfl, by decide, rfl, sm_inX2, tyX2_ok, nmX2, rfl, by decide +kernel, Or.inl (List.mem_of_getElem? (i := 158) (by decide +kernel))⟩
set_option maxRecDepth 100000 in
theorem ml_ho_81 : sm_ML "HerOrders" 81 ⟨"HerOrders", "isWithin", "(II)Z"⟩ := Or.inl (List.mem_of_getElem? (i := 393) (by decide +kernel))
set_option maxRecDepth 100000 in
theorem fl_ho_66 : sm_FL "HerOrders" 66 2 0 := ⟨RX2, TX2, 2, rfl, by decide, rfl, sm_inX2, Or.inr ⟨"HerOrders", List.mem_of_getElem? (i := 156) (by decide +kernel)⟩⟩
set_option maxRecDepth 100000 in
theorem ml_ho_334 : sm_ML "HerOrders" 334 ⟨"HerOrders$Row", "begin", "(II)V"⟩ := Or.inr ⟨"HerOrders", List.mem_of_getElem? (i := 400) (by decide +kernel)⟩
set_option maxRecDepth 100000 in
theorem fl_ho_54 : sm_FL "HerOrders" 54 6 6 := ⟨RX6, TX6, 7, rfl, by decide, rfl, sm_inX6, Or.inl (List.mem_of_getElem? (i := 369) (by decide +kernel))⟩
set_option maxRecDepth 100000 in
theorem ml_ho_85 : sm_ML "HerOrders" 85 ⟨"HerOrders$Told", "refuse", "(I)I"⟩ := Or.inr ⟨"HerOrders", List.mem_of_getElem? (i := 396) (by decide +kernel)⟩
set_option maxRecDepth 100000 in
theorem fl_ho_11 : sm_FL "HerOrders" 11 6 0 := ⟨RX6, TX6, 7, rfl, by decide, rfl, sm_inX6, Or.inl (List.mem_of_getElem? (i := 363) (by decide +kernel))⟩
set_option maxRecDepth 100000 in
theorem ml_ho_58 : sm_ML "HerOrders" 58 ⟨"HerOrders", "make", "([LHerOrders$Row;III)I"⟩ := Or.inl (List.mem_of_getElem? (i := 389) (by decide +kernel))
set_option maxRecDepth 100000 in
theorem ml_mo_71 : sm_ML "HerOrdersModel" 71 ⟨"HerOrdersModel", "in", "(JJJ)Z"⟩ := Or.inl (List.mem_of_getElem? (i := 1041) (by decide +kernel))
set_option maxRecDepth 100000 in
theorem fp_mo_62 : sm_FP "HerOrdersModel" 62 7 12 .int := ⟨RX7, TX7, 30, tyX7, rfl, by decide, rfl, sm_inX7, tyX7_ok, nmX7, rfl, by decide +kernel, Or.inl (List.mem_of_getElem? (i := 954) (by decide +kernel))⟩
set_option maxRecDepth 100000 in
theorem fl_mo_38 : sm_FL "HerOrdersModel" 38 7 13 := ⟨RX7, TX7, 30, rfl, by decide, rfl, sm_inX7, Or.inl (List.mem_of_getElem? (i := 955) (by decide +kernel))⟩
set_option maxRecDepth 100000 in
theorem fl_mo_25 : sm_FL "HerOrdersModel" 25 7 6 := ⟨RX7, TX7, 30, rfl, by decide, rfl, sm_inX7, Or.inl (List.mem_of_getElem? (i := 948) (by decide +kernel))⟩
set_option maxRecDepth 100000 in
theorem fl_mo_22 : sm_FL "HerOrdersModel" 22 7 5 := ⟨RX7, TX7, 30, rfl, by decide, rfl, sm_inX7, Or.inl (List.mem_of_getElem? (i := 947) (by decide +kernel))⟩
set_option maxRecDepth 100000 in
theorem ml_mo_77 : sm_ML "HerOrdersModel" 77 ⟨"HerOrdersModel", "isRow", "(I)Z"⟩ := Or.inl (List.mem_of_getElem? (i := 1037) (by decide +kernel))
set_option maxRecDepth 100000 in
theorem ml_mo_85 : sm_ML "HerOrdersModel" 85 ⟨"HerOrdersModel", "makeRow", "(II)V"⟩ := Or.inl (List.mem_of_getElem? (i := 1048) (by decide +kernel))
set_option maxRecDepth 100000 in
theorem ml_mo_81 : sm_ML "HerOrdersModel" 81 ⟨"HerOrdersModel", "find", "(I)I"⟩ := Or.inl (List.mem_of_getElem? (i := 1044) (by decide +kernel))
set_option maxRecDepth 100000 in
theorem ml_ho_89 : sm_ML "HerOrders" 89 ⟨"HerOrders$Row", "isMissing", "()Z"⟩ := Or.inr ⟨"HerOrders", List.mem_of_getElem? (i := 419) (by decide +kernel)⟩
set_option maxRecDepth 100000 in
theorem ml_ho_74 : sm_ML "HerOrders" 74 ⟨"HerOrders", "refusalOfMissing", "([LHerOrders$Row;I)I"⟩ := Or.inl (List.mem_of_getElem? (i := 415) (by decide +kernel))
set_option maxRecDepth 100000 in
theorem fl_ho_78 : sm_FL "HerOrders" 78 2 1 := ⟨RX2, TX2, 2, rfl, by decide, rfl, sm_inX2, Or.inr ⟨"HerOrders", List.mem_of_getElem? (i := 161) (by decide +kernel)⟩⟩
set_option maxRecDepth 100000 in
theorem ml_ho_62 : sm_ML "HerOrders" 62 ⟨"HerOrders", "refusalOfPlace", "([LHerOrders$Row;II)I"⟩ := Or.inl (List.mem_of_getElem? (i := 411) (by decide +kernel))
set_option maxRecDepth 100000 in
theorem fp_ho_70 : sm_FP "HerOrders" 70 3 0 .int := ⟨RX3, TX3, 5, tyX3, rfl, by decide, rfl, sm_inX3, tyX3_ok, nmX3, rfl, by decide +kernel, Or.inr ⟨"HerOrders", List.mem_of_getElem? (i := 343) (by decide +kernel)⟩⟩
set_option maxRecDepth 100000 in
theorem fp_mo_66 : sm_FP "HerOrdersModel" 66 7 9 .int := ⟨RX7, TX7, 30, tyX7, rfl, by decide, rfl, sm_inX7, tyX7_ok, nmX7, rfl, by decide +kernel, Or.inl (List.mem_of_getElem? (i := 951) (by decide +kernel))⟩
set_option maxRecDepth 100000 in
theorem ml_mo_89 : sm_ML "HerOrdersModel" 89 ⟨"HerOrdersModel", "refused", "(II)I"⟩ := Or.inl (List.mem_of_getElem? (i := 1056) (by decide +kernel))
set_option maxRecDepth 100000 in
theorem ml_mo_93 : sm_ML "HerOrdersModel" 93 ⟨"HerOrdersModel", "tell", "(I)I"⟩ := Or.inl (List.mem_of_getElem? (i := 1060) (by decide +kernel))
set_option maxRecDepth 100000 in
theorem fp_ho_78 : sm_FP "HerOrders" 78 2 1 .int := ⟨RX2, TX2, 2, tyX2, rfl, by decide, rfl, sm_inX2, tyX2_ok, nmX2, rfl, by decide +kernel, Or.inr ⟨"HerOrders", List.mem_of_getElem? (i := 161) (by decide +kernel)⟩⟩
set_option maxRecDepth 100000 in
theorem ml_ho_93 : sm_ML "HerOrders" 93 ⟨"HerOrders$Row", "hasPart", "(II)Z"⟩ := Or.inr ⟨"HerOrders", List.mem_of_getElem? (i := 435) (by decide +kernel)⟩
set_option maxRecDepth 100000 in
theorem ml_mo_96 : sm_ML "HerOrdersModel" 96 ⟨"HerOrdersModel", "isSpan", "(III)Z"⟩ := Or.inl (List.mem_of_getElem? (i := 1076) (by decide +kernel))
set_option maxRecDepth 100000 in
theorem ml_ho_102 : sm_ML "HerOrders" 102 ⟨"HerOrders$Row", "sum", "()J"⟩ := Or.inr ⟨"HerOrders", List.mem_of_getElem? (i := 446) (by decide +kernel)⟩
set_option maxRecDepth 100000 in
theorem fl_ho_18 : sm_FL "HerOrders" 18 6 1 := ⟨RX6, TX6, 7, rfl, by decide, rfl, sm_inX6, Or.inl (List.mem_of_getElem? (i := 364) (by decide +kernel))⟩
abbrev mi_ho_isWithin : sm_MI := (⟨"HerOrders", "isWithin", "(II)Z"⟩, prog_1_method_46_code, 2, (some .boolean), 1)
set_option maxRecDepth 100000 in
theorem mf_ho_isWithin : sm_MF mi_ho_isWithin 2 := ⟨List.mem_of_getElem? (i := 395) (by decide +kernel), List.mem_of_getElem? (i := 124) (by decide +kernel), ⟨by decide, by decide⟩, by decide +kernel⟩
set_option maxRecDepth 100000 in
theorem mv_ho_isWithin : sm_MFS mi_ho_isWithin := List.mem_of_getElem? (i := 394) (by decide +kernel)
set_option maxRecDepth 100000 in
theorem ii_ho_isWithin_0 : sm_D prog_1_method_46_code 0 1 1 (.iload_n 0) := ⟨by decide +kernel, rfl⟩
set_option maxRecDepth 100000 in
theorem ii_ho_isWithin_1 : sm_D prog_1_method_46_code 1 3 4 (.ifCond .lt 12) := ⟨by decide +kernel, rfl⟩
set_option maxRecDepth 100000 in
theorem ii_ho_isWithin_4 : sm_D prog_1_method_46_code 4 1 5 (.iload_n 0) := ⟨by decide +kernel, rfl⟩
set_option maxRecDepth 100000 in
theorem ii_ho_isWithin_5 : sm_D prog_1_method_46_code 5 1 6 (.iload_n 1) := ⟨by decide +kernel, rfl⟩
set_option maxRecDepth 100000 in
theorem ii_ho_isWithin_6 : sm_D prog_1_method_46_code 6 3 9 (.if_icmp .ge 7) := ⟨by decide +kernel, rfl⟩
set_option maxRecDepth 100000 in
theorem ii_ho_isWithin_9 : sm_D prog_1_method_46_code 9 1 10 (.iconst 1) := ⟨by decide +kernel, rfl⟩
set_option maxRecDepth 100000 in
theorem ii_ho_isWithin_10 : sm_D prog_1_method_46_code 10 3 13 (.goto 4) := ⟨by decide +kernel, rfl⟩
set_option maxRecDepth 100000 in
theorem ii_ho_isWithin_13 : sm_D prog_1_method_46_code 13 1 14 (.iconst 0) := ⟨by decide +kernel, rfl⟩
set_option maxRecDepth 100000 in
theorem ii_ho_isWithin_14 : sm_D prog_1_method_46_code 14 1 15 (.ireturn) := ⟨by decide +kernel, rfl⟩
noncomputable def ff_ho_isWithin  (a0 : Int32) (a1 : Int32) (w : sm_Mem) : sm_R := (if a0 < (0 : Int32) then (some (.int (0 : Int32), w)) else (if a1 ≤ a0 then (some (.int (0 : Int32), w)) else (some (.int (1 : Int32), w))))
set_option maxHeartbeats 4000000 in
set_option maxRecDepth 100000 in
theorem ss_ho_isWithin_0 {E : Nat × (Nat → Int32)}  (a0 : Int32) (a1 : Int32) (w : sm_Mem) : sm_Sim E (mi_ho_isWithin) 0 [some (.int a0), some (.int a1)] [] w (ff_ho_isWithin  a0 a1 w) := by
  unfold ff_ho_isWithin
  refine sm_iload_n ii_ho_isWithin_0 rfl ?_
  refine sm_if_lt 13 ii_ho_isWithin_1 (by decide) ?_ ?_
  · refine sm_iconst (0 : Int32) ii_ho_isWithin_13 (by decide) ?_
    exact sm_zret1 ii_ho_isWithin_14 rfl (by decide)
  · refine sm_iload_n ii_ho_isWithin_4 rfl ?_
    refine sm_iload_n ii_ho_isWithin_5 rfl ?_
    refine sm_icmp_ge 13 ii_ho_isWithin_6 (by decide) ?_ ?_
    · refine sm_iconst (0 : Int32) ii_ho_isWithin_13 (by decide) ?_
      exact sm_zret1 ii_ho_isWithin_14 rfl (by decide)
    · refine sm_iconst (1 : Int32) ii_ho_isWithin_9 (by decide) ?_
      refine sm_goto 14 ii_ho_isWithin_10 (by decide) ?_
      exact sm_zret1 ii_ho_isWithin_14 rfl (by decide)
set_option maxHeartbeats 4000000 in
set_option maxRecDepth 100000 in
theorem mc_ho_isWithin (a0 : Int32) (a1 : Int32) (w : sm_Mem) : sm_MC mi_ho_isWithin [.int a0, .int a1] w (ff_ho_isWithin a0 a1 w) := sm_MC_of (0, fun _ => 0) (by decide +kernel) (by decide) rfl (Nat.le_of_ble_eq_true rfl) (ss_ho_isWithin_0 a0 a1 w)
abbrev mi_td_refuse : sm_MI := (⟨"HerOrders$Told", "refuse", "(I)I"⟩, prog_5_method_2_code, 2, (some .int), 1)
set_option maxRecDepth 100000 in
theorem mf_td_refuse : sm_MF mi_td_refuse 1 := ⟨List.mem_of_getElem? (i := 399) (by decide +kernel), List.mem_of_getElem? (i := 131) (by decide +kernel), ⟨by decide, by decide⟩, by decide +kernel⟩
set_option maxRecDepth 100000 in
theorem mv_td_refuse : sm_MFV mi_td_refuse := ⟨List.mem_of_getElem? (i := 398) (by decide +kernel), List.mem_of_getElem? (i := 1) (by decide +kernel)⟩
set_option maxRecDepth 100000 in
theorem ii_td_refuse_0 : sm_D prog_5_method_2_code 0 1 1 (.aload_n 0) := ⟨by decide +kernel, rfl⟩
set_option maxRecDepth 100000 in
theorem ii_td_refuse_1 : sm_D prog_5_method_2_code 1 1 2 (.iload_n 1) := ⟨by decide +kernel, rfl⟩
set_option maxRecDepth 100000 in
theorem ii_td_refuse_2 : sm_D prog_5_method_2_code 2 3 5 (.putfield 19) := ⟨by decide +kernel, rfl⟩
set_option maxRecDepth 100000 in
theorem ii_td_refuse_5 : sm_D prog_5_method_2_code 5 1 6 (.aload_n 0) := ⟨by decide +kernel, rfl⟩
set_option maxRecDepth 100000 in
theorem ii_td_refuse_6 : sm_D prog_5_method_2_code 6 3 9 (.getfield 15) := ⟨by decide +kernel, rfl⟩
set_option maxRecDepth 100000 in
theorem ii_td_refuse_9 : sm_D prog_5_method_2_code 9 1 10 (.iload_n 1) := ⟨by decide +kernel, rfl⟩
set_option maxRecDepth 100000 in
theorem ii_td_refuse_10 : sm_D prog_5_method_2_code 10 1 11 (.dup2) := ⟨by decide +kernel, rfl⟩
set_option maxRecDepth 100000 in
theorem ii_td_refuse_11 : sm_D prog_5_method_2_code 11 1 12 (.iaload) := ⟨by decide +kernel, rfl⟩
set_option maxRecDepth 100000 in
theorem ii_td_refuse_12 : sm_D prog_5_method_2_code 12 1 13 (.iconst 1) := ⟨by decide +kernel, rfl⟩
set_option maxRecDepth 100000 in
theorem ii_td_refuse_13 : sm_D prog_5_method_2_code 13 1 14 (.iadd) := ⟨by decide +kernel, rfl⟩
set_option maxRecDepth 100000 in
theorem ii_td_refuse_14 : sm_D prog_5_method_2_code 14 1 15 (.iastore) := ⟨by decide +kernel, rfl⟩
set_option maxRecDepth 100000 in
theorem ii_td_refuse_15 : sm_D prog_5_method_2_code 15 2 17 (.bipush (-3)) := ⟨by decide +kernel, rfl⟩
set_option maxRecDepth 100000 in
theorem ii_td_refuse_17 : sm_D prog_5_method_2_code 17 1 18 (.ireturn) := ⟨by decide +kernel, rfl⟩
noncomputable def ff_td_refuse  (a1 : Int32) (w : sm_Mem) : sm_R := (sm_let (sm_wI w 60 3 a1) fun w1 => (Option.bind (sm_rd w1 61 6 a1) fun x2 => (Option.bind (sm_wr w1 61 6 a1 (x2 + (1 : Int32))) fun w3 => (some (.int (-3 : Int32), w3)))))
set_option maxHeartbeats 4000000 in
set_option maxRecDepth 100000 in
theorem ss_td_refuse_0 {E : Nat × (Nat → Int32)}  (a1 : Int32) (w : sm_Mem) : sm_Sim E (mi_td_refuse) 0 [some (.ref 60), some (.int a1)] [] w (ff_td_refuse  a1 w) := by
  unfold ff_td_refuse
  refine sm_aload_n ii_td_refuse_0 rfl ?_
  refine sm_iload_n ii_td_refuse_1 rfl ?_
  refine sm_putI ii_td_refuse_2 fp_td_19 (k := 60) rfl (fun w1 => ?_)
  refine sm_aload_n ii_td_refuse_5 rfl ?_
  refine sm_getR 61 ii_td_refuse_6 fl_td_15 (k := 60) rfl ?_
  refine sm_iload_n ii_td_refuse_9 rfl ?_
  refine sm_dup2 ii_td_refuse_10 ?_
  refine sm_iald ii_td_refuse_11 (k := 61) rfl (fun x2 => ?_)
  refine sm_iconst (1 : Int32) ii_td_refuse_12 (by decide) ?_
  refine sm_iadd ii_td_refuse_13 ?_
  refine sm_iast ii_td_refuse_14 (k := 61) rfl (fun w3 => ?_)
  refine sm_bipush (-3 : Int32) ii_td_refuse_15 (by decide) ?_
  exact sm_iret ii_td_refuse_17 rfl
set_option maxHeartbeats 4000000 in
set_option maxRecDepth 100000 in
theorem mc_td_refuse (a1 : Int32) (w : sm_Mem) : sm_MC mi_td_refuse [.ref 60, .int a1] w (ff_td_refuse a1 w) := sm_MC_of (0, fun _ => 0) (by decide +kernel) (by decide) rfl (Nat.le_of_ble_eq_true rfl) (ss_td_refuse_0 a1 w)
abbrev mi_rw_begin : sm_MI := (⟨"HerOrders$Row", "begin", "(II)V"⟩, prog_4_method_3_code, 4, none, 1)
set_option maxRecDepth 100000 in
theorem mf_rw_begin : sm_MF mi_rw_begin 2 := ⟨List.mem_of_getElem? (i := 403) (by decide +kernel), List.mem_of_getElem? (i := 125) (by decide +kernel), ⟨by decide, by decide⟩, by decide +kernel⟩
set_option maxRecDepth 100000 in
theorem mv_rw_begin : sm_MFV mi_rw_begin := ⟨List.mem_of_getElem? (i := 402) (by decide +kernel), List.mem_of_getElem? (i := 2) (by decide +kernel)⟩
set_option maxRecDepth 100000 in
theorem ii_rw_begin_0 : sm_D prog_4_method_3_code 0 1 1 (.aload_n 0) := ⟨by decide +kernel, rfl⟩
set_option maxRecDepth 100000 in
theorem ii_rw_begin_1 : sm_D prog_4_method_3_code 1 1 2 (.iconst 0) := ⟨by decide +kernel, rfl⟩
set_option maxRecDepth 100000 in
theorem ii_rw_begin_2 : sm_D prog_4_method_3_code 2 1 3 (.iload_n 1) := ⟨by decide +kernel, rfl⟩
set_option maxRecDepth 100000 in
theorem ii_rw_begin_3 : sm_D prog_4_method_3_code 3 1 4 (.aload_n 0) := ⟨by decide +kernel, rfl⟩
set_option maxRecDepth 100000 in
theorem ii_rw_begin_4 : sm_D prog_4_method_3_code 4 3 7 (.getfield 15) := ⟨by decide +kernel, rfl⟩
set_option maxRecDepth 100000 in
theorem ii_rw_begin_7 : sm_D prog_4_method_3_code 7 1 8 (.arraylength) := ⟨by decide +kernel, rfl⟩
set_option maxRecDepth 100000 in
theorem ii_rw_begin_8 : sm_D prog_4_method_3_code 8 3 11 (.invokestatic 25) := ⟨by decide +kernel, rfl⟩
set_option maxRecDepth 100000 in
theorem ii_rw_begin_11 : sm_D prog_4_method_3_code 11 3 14 (.invokestatic 9) := ⟨by decide +kernel, rfl⟩
set_option maxRecDepth 100000 in
theorem ii_rw_begin_14 : sm_D prog_4_method_3_code 14 3 17 (.putfield 21) := ⟨by decide +kernel, rfl⟩
set_option maxRecDepth 100000 in
theorem ii_rw_begin_17 : sm_D prog_4_method_3_code 17 1 18 (.iconst 0) := ⟨by decide +kernel, rfl⟩
set_option maxRecDepth 100000 in
theorem ii_rw_begin_18 : sm_D prog_4_method_3_code 18 1 19 (.istore_n 3) := ⟨by decide +kernel, rfl⟩
set_option maxRecDepth 100000 in
theorem ii_rw_begin_19 : sm_D prog_4_method_3_code 19 1 20 (.iload_n 3) := ⟨by decide +kernel, rfl⟩
set_option maxRecDepth 100000 in
theorem ii_rw_begin_20 : sm_D prog_4_method_3_code 20 1 21 (.aload_n 0) := ⟨by decide +kernel, rfl⟩
set_option maxRecDepth 100000 in
theorem ii_rw_begin_21 : sm_D prog_4_method_3_code 21 3 24 (.getfield 21) := ⟨by decide +kernel, rfl⟩
set_option maxRecDepth 100000 in
theorem ii_rw_begin_24 : sm_D prog_4_method_3_code 24 3 27 (.if_icmp .ge 16) := ⟨by decide +kernel, rfl⟩
set_option maxRecDepth 100000 in
theorem ii_rw_begin_27 : sm_D prog_4_method_3_code 27 1 28 (.aload_n 0) := ⟨by decide +kernel, rfl⟩
set_option maxRecDepth 100000 in
theorem ii_rw_begin_28 : sm_D prog_4_method_3_code 28 3 31 (.getfield 15) := ⟨by decide +kernel, rfl⟩
set_option maxRecDepth 100000 in
theorem ii_rw_begin_31 : sm_D prog_4_method_3_code 31 1 32 (.iload_n 3) := ⟨by decide +kernel, rfl⟩
set_option maxRecDepth 100000 in
theorem ii_rw_begin_32 : sm_D prog_4_method_3_code 32 1 33 (.iload_n 2) := ⟨by decide +kernel, rfl⟩
set_option maxRecDepth 100000 in
theorem ii_rw_begin_33 : sm_D prog_4_method_3_code 33 1 34 (.iastore) := ⟨by decide +kernel, rfl⟩
set_option maxRecDepth 100000 in
theorem ii_rw_begin_34 : sm_D prog_4_method_3_code 34 3 37 (.iinc 3 1) := ⟨by decide +kernel, rfl⟩
set_option maxRecDepth 100000 in
theorem ii_rw_begin_37 : sm_D prog_4_method_3_code 37 3 40 (.goto (-18)) := ⟨by decide +kernel, rfl⟩
set_option maxRecDepth 100000 in
theorem ii_rw_begin_40 : sm_D prog_4_method_3_code 40 1 41 (.return_) := ⟨by decide +kernel, rfl⟩
noncomputable def ff_rw_begin_19_b  (self19 : Nat → Int32 → Int32 → sm_Mem → sm_R) (a0 : Nat) (a2 : Int32) (a3 : Int32) (w : sm_Mem) : sm_R := (Option.bind (sm_gI w a0 2 1) fun x1 => (if x1 ≤ a3 then (some (.null, w)) else (Option.bind (sm_fk a0 2 0 2) fun r2 => (Option.bind (sm_wrs w r2 a3 a2) fun w3 => self19 (a0) (a2) ((a3 + (1 : Int32))) w3))))
noncomputable def ff_rw_begin_19_f  : Nat → Nat → Int32 → Int32 → sm_Mem → sm_R
  | 0, _, _, _, _ => none
  | n + 1, a0, a2, a3, w => ff_rw_begin_19_b  (ff_rw_begin_19_f  n) a0 a2 a3 w
noncomputable def ff_rw_begin_19  (a0 : Nat) (a2 : Int32) (a3 : Int32) (w : sm_Mem) : sm_R := ff_rw_begin_19_f  sm_N a0 a2 a3 w
set_option maxHeartbeats 4000000 in
set_option maxRecDepth 100000 in
theorem ss_rw_begin_19_b {E : Nat × (Nat → Int32)}  (self19 : Nat → Int32 → Int32 → sm_Mem → sm_R) (hself19 : ∀ (a0 : Nat) (a2 : Int32) (a3 : Int32) (w : sm_Mem), sm_Sim E (mi_rw_begin) 19 [some (.ref a0), none, some (.int a2), some (.int a3)] [] w (self19 a0 a2 a3 w)) (a0 : Nat) (a2 : Int32) (a3 : Int32) (w : sm_Mem) : sm_Sim E (mi_rw_begin) 19 [some (.ref a0), none, some (.int a2), some (.int a3)] [] w (ff_rw_begin_19_b  self19 a0 a2 a3 w) := by
  unfold ff_rw_begin_19_b
  refine sm_iload_n ii_rw_begin_19 rfl ?_
  refine sm_aload_n ii_rw_begin_20 rfl ?_
  refine sm_getIs ii_rw_begin_21 fl_rw_21 (fun x1 => ?_)
  refine sm_icmp_ge 40 ii_rw_begin_24 (by decide) ?_ ?_
  · exact sm_vret ii_rw_begin_40 rfl
  · refine sm_aload_n ii_rw_begin_27 rfl ?_
    refine sm_getRs ii_rw_begin_28 fl_rw_15 (fun r2 => ?_)
    refine sm_iload_n ii_rw_begin_31 rfl ?_
    refine sm_iload_n ii_rw_begin_32 rfl ?_
    refine sm_iasts ii_rw_begin_33 (fun w3 => ?_)
    refine sm_iinc (a3 + (1 : Int32)) [some (.ref a0), none, some (.int a2), some (.int (a3 + (1 : Int32)))] ii_rw_begin_34 rfl rfl rfl rfl ?_
    refine sm_goto 19 ii_rw_begin_37 (by decide) ?_
    exact hself19 (a0) (a2) ((a3 + (1 : Int32))) w3
set_option maxHeartbeats 4000000 in
set_option maxRecDepth 100000 in
theorem ss_rw_begin_19_f {E : Nat × (Nat → Int32)}  : ∀ (n : Nat) (a0 : Nat) (a2 : Int32) (a3 : Int32) (w : sm_Mem), sm_Sim E (mi_rw_begin) 19 [some (.ref a0), none, some (.int a2), some (.int a3)] [] w (ff_rw_begin_19_f  n a0 a2 a3 w)
  | 0, _, _, _, _ => fun _ _ h => by cases h
  | n + 1, a0, a2, a3, w => ss_rw_begin_19_b  _ (ss_rw_begin_19_f  n) a0 a2 a3 w
set_option maxHeartbeats 4000000 in
set_option maxRecDepth 100000 in
theorem ss_rw_begin_19 {E : Nat × (Nat → Int32)}  (a0 : Nat) (a2 : Int32) (a3 : Int32) (w : sm_Mem) : sm_Sim E (mi_rw_begin) 19 [some (.ref a0), none, some (.int a2), some (.int a3)] [] w (ff_rw_begin_19  a0 a2 a3 w) := ss_rw_begin_19_f  sm_N a0 a2 a3 w
noncomputable def ff_rw_begin  (a0 : Nat) (a1 : Int32) (a2 : Int32) (w : sm_Mem) : sm_R := (Option.bind (sm_fk a0 2 0 2) fun r4 => (Option.bind (sm_al r4) fun x5 => (Option.bind (sm_pI w a0 2 1 (if (0 : Int32) < (if x5 < a1 then x5 else a1) then (if x5 < a1 then x5 else a1) else (0 : Int32))) fun w6 => ff_rw_begin_19 (a0) (a2) ((0 : Int32)) w6)))
set_option maxHeartbeats 4000000 in
set_option maxRecDepth 100000 in
theorem ss_rw_begin_0 {E : Nat × (Nat → Int32)}  (a0 : Nat) (a1 : Int32) (a2 : Int32) (w : sm_Mem) : sm_Sim E (mi_rw_begin) 0 [some (.ref a0), some (.int a1), some (.int a2), none] [] w (ff_rw_begin  a0 a1 a2 w) := by
  unfold ff_rw_begin
  refine sm_aload_n ii_rw_begin_0 rfl ?_
  refine sm_iconst (0 : Int32) ii_rw_begin_1 (by decide) ?_
  refine sm_iload_n ii_rw_begin_2 rfl ?_
  refine sm_aload_n ii_rw_begin_3 rfl ?_
  refine sm_getRs ii_rw_begin_4 fl_rw_15 (fun r4 => ?_)
  refine sm_alen ii_rw_begin_7 (fun x5 => ?_)
  refine sm_mmin ii_rw_begin_8 mq_rw_25 mq_st_min mq_in mq_co_min (by decide) rfl ?_
  refine sm_mmax ii_rw_begin_11 mq_rw_9 mq_st_max mq_in mq_co_max (by decide) rfl ?_
  refine sm_putIs ii_rw_begin_14 fp_rw_21 (fun w6 => ?_)
  refine sm_iconst (0 : Int32) ii_rw_begin_17 (by decide) ?_
  refine sm_istore_n [some (.ref a0), some (.int a1), some (.int a2), some (.int (0 : Int32))] ii_rw_begin_18 rfl rfl ?_
  refine sm_msk [true, false, true, true] [some (.ref a0), none, some (.int a2), some (.int (0 : Int32))] rfl ?_
  exact ss_rw_begin_19 (a0) (a2) ((0 : Int32)) w6
set_option maxHeartbeats 4000000 in
set_option maxRecDepth 100000 in
theorem mc_rw_begin (a0 : Nat) (a1 : Int32) (a2 : Int32) (w : sm_Mem) : sm_MC mi_rw_begin [.ref a0, .int a1, .int a2] w (ff_rw_begin a0 a1 a2 w) := sm_MC_of (0, fun _ => 0) (by decide +kernel) (by decide) rfl (Nat.le_of_ble_eq_true rfl) (ss_rw_begin_0 a0 a1 a2 w)
abbrev mi_ho_make : sm_MI := (⟨"HerOrders", "make", "([LHerOrders$Row;III)I"⟩, prog_1_method_53_code, 5, (some .int), 2)
set_option maxRecDepth 100000 in
theorem mf_ho_make : sm_MF mi_ho_make 4 := ⟨List.mem_of_getElem? (i := 392) (by decide +kernel), List.mem_of_getElem? (i := 124) (by decide +kernel), ⟨by decide, by decide⟩, by decide +kernel⟩
set_option maxRecDepth 100000 in
theorem mv_ho_make : sm_MFV mi_ho_make := ⟨List.mem_of_getElem? (i := 391) (by decide +kernel), List.mem_of_getElem? (i := 0) (by decide +kernel)⟩
set_option maxRecDepth 100000 in
theorem ii_ho_make_0 : sm_D prog_1_method_53_code 0 1 1 (.iload_n 2) := ⟨by decide +kernel, rfl⟩
set_option maxRecDepth 100000 in
theorem ii_ho_make_1 : sm_D prog_1_method_53_code 1 1 2 (.aload_n 1) := ⟨by decide +kernel, rfl⟩
set_option maxRecDepth 100000 in
theorem ii_ho_make_2 : sm_D prog_1_method_53_code 2 1 3 (.arraylength) := ⟨by decide +kernel, rfl⟩
set_option maxRecDepth 100000 in
theorem ii_ho_make_3 : sm_D prog_1_method_53_code 3 3 6 (.invokestatic 81) := ⟨by decide +kernel, rfl⟩
set_option maxRecDepth 100000 in
theorem ii_ho_make_6 : sm_D prog_1_method_53_code 6 3 9 (.ifCond .eq 14) := ⟨by decide +kernel, rfl⟩
set_option maxRecDepth 100000 in
theorem ii_ho_make_9 : sm_D prog_1_method_53_code 9 1 10 (.iload_n 3) := ⟨by decide +kernel, rfl⟩
set_option maxRecDepth 100000 in
theorem ii_ho_make_10 : sm_D prog_1_method_53_code 10 1 11 (.aload_n 1) := ⟨by decide +kernel, rfl⟩
set_option maxRecDepth 100000 in
theorem ii_ho_make_11 : sm_D prog_1_method_53_code 11 1 12 (.iload_n 2) := ⟨by decide +kernel, rfl⟩
set_option maxRecDepth 100000 in
theorem ii_ho_make_12 : sm_D prog_1_method_53_code 12 1 13 (.aaload) := ⟨by decide +kernel, rfl⟩
set_option maxRecDepth 100000 in
theorem ii_ho_make_13 : sm_D prog_1_method_53_code 13 3 16 (.getfield 66) := ⟨by decide +kernel, rfl⟩
set_option maxRecDepth 100000 in
theorem ii_ho_make_16 : sm_D prog_1_method_53_code 16 1 17 (.arraylength) := ⟨by decide +kernel, rfl⟩
set_option maxRecDepth 100000 in
theorem ii_ho_make_17 : sm_D prog_1_method_53_code 17 3 20 (.if_icmp .le 5) := ⟨by decide +kernel, rfl⟩
set_option maxRecDepth 100000 in
theorem ii_ho_make_20 : sm_D prog_1_method_53_code 20 1 21 (.iconst (-1)) := ⟨by decide +kernel, rfl⟩
set_option maxRecDepth 100000 in
theorem ii_ho_make_21 : sm_D prog_1_method_53_code 21 1 22 (.ireturn) := ⟨by decide +kernel, rfl⟩
set_option maxRecDepth 100000 in
theorem ii_ho_make_22 : sm_D prog_1_method_53_code 22 1 23 (.iload_n 3) := ⟨by decide +kernel, rfl⟩
set_option maxRecDepth 100000 in
theorem ii_ho_make_23 : sm_D prog_1_method_53_code 23 3 26 (.ifCond .ge 12) := ⟨by decide +kernel, rfl⟩
set_option maxRecDepth 100000 in
theorem ii_ho_make_26 : sm_D prog_1_method_53_code 26 1 27 (.aload_n 0) := ⟨by decide +kernel, rfl⟩
set_option maxRecDepth 100000 in
theorem ii_ho_make_27 : sm_D prog_1_method_53_code 27 3 30 (.getfield 54) := ⟨by decide +kernel, rfl⟩
set_option maxRecDepth 100000 in
theorem ii_ho_make_30 : sm_D prog_1_method_53_code 30 1 31 (.iconst 5) := ⟨by decide +kernel, rfl⟩
set_option maxRecDepth 100000 in
theorem ii_ho_make_31 : sm_D prog_1_method_53_code 31 3 34 (.invokevirtual 85) := ⟨by decide +kernel, rfl⟩
set_option maxRecDepth 100000 in
theorem ii_ho_make_34 : sm_D prog_1_method_53_code 34 1 35 (.ireturn) := ⟨by decide +kernel, rfl⟩
set_option maxRecDepth 100000 in
theorem ii_ho_make_35 : sm_D prog_1_method_53_code 35 1 36 (.aload_n 1) := ⟨by decide +kernel, rfl⟩
set_option maxRecDepth 100000 in
theorem ii_ho_make_36 : sm_D prog_1_method_53_code 36 1 37 (.iload_n 2) := ⟨by decide +kernel, rfl⟩
set_option maxRecDepth 100000 in
theorem ii_ho_make_37 : sm_D prog_1_method_53_code 37 1 38 (.aaload) := ⟨by decide +kernel, rfl⟩
set_option maxRecDepth 100000 in
theorem ii_ho_make_38 : sm_D prog_1_method_53_code 38 1 39 (.iload_n 3) := ⟨by decide +kernel, rfl⟩
set_option maxRecDepth 100000 in
theorem ii_ho_make_39 : sm_D prog_1_method_53_code 39 2 41 (.iload 4) := ⟨by decide +kernel, rfl⟩
set_option maxRecDepth 100000 in
theorem ii_ho_make_41 : sm_D prog_1_method_53_code 41 3 44 (.invokevirtual 334) := ⟨by decide +kernel, rfl⟩
set_option maxRecDepth 100000 in
theorem ii_ho_make_44 : sm_D prog_1_method_53_code 44 1 45 (.iload_n 3) := ⟨by decide +kernel, rfl⟩
set_option maxRecDepth 100000 in
theorem ii_ho_make_45 : sm_D prog_1_method_53_code 45 1 46 (.ireturn) := ⟨by decide +kernel, rfl⟩
noncomputable def ff_ho_make  (a1 : Nat) (a2 : Int32) (a3 : Int32) (a4 : Int32) (w : sm_Mem) : sm_R := (Option.bind (sm_al a1) fun x1 => (sm_cI (ff_ho_isWithin (a2) (x1) w) fun x2 w3 => (if x2 = (0 : Int32) then (some (.int (-1 : Int32), w3)) else (Option.bind (sm_rr a1 a2) fun r4 => (Option.bind (sm_fk r4 2 0 2) fun r5 => (Option.bind (sm_al r5) fun x6 => (if a3 ≤ x6 then (if (0 : Int32) ≤ a3 then (Option.bind (sm_rr a1 a2) fun r7 => (sm_cV (sm_rc r7 2 (ff_rw_begin (r7) (a3) (a4) w3)) fun w9 => (some (.int a3, w9)))) else (sm_cI (ff_td_refuse ((5 : Int32)) w3) fun x10 w11 => (some (.int x10, w11)))) else (some (.int (-1 : Int32), w3)))))))))
set_option maxHeartbeats 4000000 in
set_option maxRecDepth 100000 in
theorem ss_ho_make_0 {E : Nat × (Nat → Int32)}  (a1 : Nat) (a2 : Int32) (a3 : Int32) (a4 : Int32) (w : sm_Mem) : sm_Sim E (mi_ho_make) 0 [some (.ref 0), some (.ref a1), some (.int a2), some (.int a3), some (.int a4)] [] w (ff_ho_make  a1 a2 a3 a4 w) := by
  unfold ff_ho_make
  refine sm_iload_n ii_ho_make_0 rfl ?_
  refine sm_aload_n ii_ho_make_1 rfl ?_
  refine sm_alen ii_ho_make_2 (fun x1 => ?_)
  refine sm_csI [.int a2, .int x1] [] rfl ii_ho_make_3 ml_ho_81 (mf_ho_isWithin) (mv_ho_isWithin) (Nat.le_of_ble_eq_true rfl) rfl rfl rfl (mc_ho_isWithin (a2) (x1) w) (fun x2 w3 => ?_)
  refine sm_if_eq 20 ii_ho_make_6 (by decide) ?_ ?_
  · refine sm_iconst (-1 : Int32) ii_ho_make_20 (by decide) ?_
    exact sm_iret ii_ho_make_21 rfl
  · refine sm_iload_n ii_ho_make_9 rfl ?_
    refine sm_aload_n ii_ho_make_10 rfl ?_
    refine sm_iload_n ii_ho_make_11 rfl ?_
    refine sm_aald ii_ho_make_12 (fun r4 => ?_)
    refine sm_getRs ii_ho_make_13 fl_ho_66 (fun r5 => ?_)
    refine sm_alen ii_ho_make_16 (fun x6 => ?_)
    refine sm_icmp_le 22 ii_ho_make_17 (by decide) ?_ ?_
    · refine sm_iload_n ii_ho_make_22 rfl ?_
      refine sm_if_ge 35 ii_ho_make_23 (by decide) ?_ ?_
      · refine sm_aload_n ii_ho_make_35 rfl ?_
        refine sm_iload_n ii_ho_make_36 rfl ?_
        refine sm_aald ii_ho_make_37 (fun r7 => ?_)
        refine sm_iload_n ii_ho_make_38 rfl ?_
        refine sm_iload ii_ho_make_39 rfl ?_
        refine sm_dvV [.int a3, .int a4] [] rfl ii_ho_make_41 ml_ho_334 (mf_rw_begin) (mv_rw_begin) (Nat.le_of_ble_eq_true rfl) rfl 2 rfl rfl rfl (mc_rw_begin (r7) (a3) (a4) w3) (fun w9 => ?_)
        refine sm_iload_n ii_ho_make_44 rfl ?_
        exact sm_iret ii_ho_make_45 rfl
      · refine sm_aload_n ii_ho_make_26 rfl ?_
        refine sm_getR 60 ii_ho_make_27 fl_ho_54 (k := 0) rfl ?_
        refine sm_iconst (5 : Int32) ii_ho_make_30 (by decide) ?_
        refine sm_cvI [.int (5 : Int32)] [] rfl ii_ho_make_31 ml_ho_85 (mf_td_refuse) (mv_td_refuse) (Nat.le_of_ble_eq_true rfl) rfl 3 rfl rfl rfl rfl (mc_td_refuse ((5 : Int32)) w3) (fun x10 w11 => ?_)
        exact sm_iret ii_ho_make_34 rfl
    · refine sm_iconst (-1 : Int32) ii_ho_make_20 (by decide) ?_
      exact sm_iret ii_ho_make_21 rfl
set_option maxHeartbeats 4000000 in
set_option maxRecDepth 100000 in
theorem mc_ho_make (a1 : Nat) (a2 : Int32) (a3 : Int32) (a4 : Int32) (w : sm_Mem) : sm_MC mi_ho_make [.ref 0, .ref a1, .int a2, .int a3, .int a4] w (ff_ho_make a1 a2 a3 a4 w) := sm_MC_of (0, fun _ => 0) (by decide +kernel) (by decide) rfl (Nat.le_of_ble_eq_true rfl) (ss_ho_make_0 a1 a2 a3 a4 w)
abbrev mi_ho_row : sm_MI := (⟨"HerOrders", "row", "(II)I"⟩, prog_1_method_2_code, 3, (some .int), 3)
set_option maxRecDepth 100000 in
theorem mf_ho_row : sm_MF mi_ho_row 2 := ⟨List.mem_of_getElem? (i := 388) (by decide +kernel), List.mem_of_getElem? (i := 124) (by decide +kernel), ⟨by decide, by decide⟩, by decide +kernel⟩
set_option maxRecDepth 100000 in
theorem mv_ho_row : sm_MFV mi_ho_row := ⟨List.mem_of_getElem? (i := 386) (by decide +kernel), List.mem_of_getElem? (i := 387) (by decide +kernel)⟩
set_option maxRecDepth 100000 in
theorem ii_ho_row_0 : sm_D prog_1_method_2_code 0 1 1 (.aload_n 0) := ⟨by decide +kernel, rfl⟩
set_option maxRecDepth 100000 in
theorem ii_ho_row_1 : sm_D prog_1_method_2_code 1 1 2 (.aload_n 0) := ⟨by decide +kernel, rfl⟩
set_option maxRecDepth 100000 in
theorem ii_ho_row_2 : sm_D prog_1_method_2_code 2 3 5 (.getfield 11) := ⟨by decide +kernel, rfl⟩
set_option maxRecDepth 100000 in
theorem ii_ho_row_5 : sm_D prog_1_method_2_code 5 1 6 (.iload_n 1) := ⟨by decide +kernel, rfl⟩
set_option maxRecDepth 100000 in
theorem ii_ho_row_6 : sm_D prog_1_method_2_code 6 1 7 (.iload_n 2) := ⟨by decide +kernel, rfl⟩
set_option maxRecDepth 100000 in
theorem ii_ho_row_7 : sm_D prog_1_method_2_code 7 1 8 (.iconst 0) := ⟨by decide +kernel, rfl⟩
set_option maxRecDepth 100000 in
theorem ii_ho_row_8 : sm_D prog_1_method_2_code 8 3 11 (.invokevirtual 58) := ⟨by decide +kernel, rfl⟩
set_option maxRecDepth 100000 in
theorem ii_ho_row_11 : sm_D prog_1_method_2_code 11 1 12 (.ireturn) := ⟨by decide +kernel, rfl⟩
noncomputable def ff_ho_row  (a1 : Int32) (a2 : Int32) (w : sm_Mem) : sm_R := (sm_cI (ff_ho_make (1) (a1) (a2) ((0 : Int32)) w) fun x1 w2 => (some (.int x1, w2)))
set_option maxHeartbeats 4000000 in
set_option maxRecDepth 100000 in
theorem ss_ho_row_0 {E : Nat × (Nat → Int32)}  (a1 : Int32) (a2 : Int32) (w : sm_Mem) : sm_Sim E (mi_ho_row) 0 [some (.ref 0), some (.int a1), some (.int a2)] [] w (ff_ho_row  a1 a2 w) := by
  unfold ff_ho_row
  refine sm_aload_n ii_ho_row_0 rfl ?_
  refine sm_aload_n ii_ho_row_1 rfl ?_
  refine sm_getR 1 ii_ho_row_2 fl_ho_11 (k := 0) rfl ?_
  refine sm_iload_n ii_ho_row_5 rfl ?_
  refine sm_iload_n ii_ho_row_6 rfl ?_
  refine sm_iconst (0 : Int32) ii_ho_row_7 (by decide) ?_
  refine sm_cvI [.ref 1, .int a1, .int a2, .int (0 : Int32)] [] rfl ii_ho_row_8 ml_ho_58 (mf_ho_make) (mv_ho_make) (Nat.le_of_ble_eq_true rfl) rfl 6 rfl rfl rfl rfl (mc_ho_make (1) (a1) (a2) ((0 : Int32)) w) (fun x1 w2 => ?_)
  exact sm_iret ii_ho_row_11 rfl
set_option maxHeartbeats 4000000 in
set_option maxRecDepth 100000 in
theorem mc_ho_row (a1 : Int32) (a2 : Int32) (w : sm_Mem) : sm_MC mi_ho_row [.ref 0, .int a1, .int a2] w (ff_ho_row a1 a2 w) := sm_MC_of (0, fun _ => 0) (by decide +kernel) (by decide) rfl (Nat.le_of_ble_eq_true rfl) (ss_ho_row_0 a1 a2 w)
abbrev mi_mo_in : sm_MI := (⟨"HerOrdersModel", "in", "(JJJ)Z"⟩, prog_9_method_3_code, 6, (some .boolean), 1)
set_option maxRecDepth 100000 in
theorem mf_mo_in : sm_MF mi_mo_in 3 := ⟨List.mem_of_getElem? (i := 1043) (by decide +kernel), List.mem_of_getElem? (i := 132) (by decide +kernel), ⟨by decide, by decide⟩, by decide +kernel⟩
set_option maxRecDepth 100000 in
theorem mv_mo_in : sm_MFS mi_mo_in := List.mem_of_getElem? (i := 1042) (by decide +kernel)
set_option maxRecDepth 100000 in
theorem ii_mo_in_0 : sm_D prog_9_method_3_code 0 1 1 (.lload_n 0) := ⟨by decide +kernel, rfl⟩
set_option maxRecDepth 100000 in
theorem ii_mo_in_1 : sm_D prog_9_method_3_code 1 1 2 (.lload_n 2) := ⟨by decide +kernel, rfl⟩
set_option maxRecDepth 100000 in
theorem ii_mo_in_2 : sm_D prog_9_method_3_code 2 1 3 (.lcmp) := ⟨by decide +kernel, rfl⟩
set_option maxRecDepth 100000 in
theorem ii_mo_in_3 : sm_D prog_9_method_3_code 3 3 6 (.ifCond .lt 14) := ⟨by decide +kernel, rfl⟩
set_option maxRecDepth 100000 in
theorem ii_mo_in_6 : sm_D prog_9_method_3_code 6 1 7 (.lload_n 0) := ⟨by decide +kernel, rfl⟩
set_option maxRecDepth 100000 in
theorem ii_mo_in_7 : sm_D prog_9_method_3_code 7 2 9 (.lload 4) := ⟨by decide +kernel, rfl⟩
set_option maxRecDepth 100000 in
theorem ii_mo_in_9 : sm_D prog_9_method_3_code 9 1 10 (.lcmp) := ⟨by decide +kernel, rfl⟩
set_option maxRecDepth 100000 in
theorem ii_mo_in_10 : sm_D prog_9_method_3_code 10 3 13 (.ifCond .gt 7) := ⟨by decide +kernel, rfl⟩
set_option maxRecDepth 100000 in
theorem ii_mo_in_13 : sm_D prog_9_method_3_code 13 1 14 (.iconst 1) := ⟨by decide +kernel, rfl⟩
set_option maxRecDepth 100000 in
theorem ii_mo_in_14 : sm_D prog_9_method_3_code 14 3 17 (.goto 4) := ⟨by decide +kernel, rfl⟩
set_option maxRecDepth 100000 in
theorem ii_mo_in_17 : sm_D prog_9_method_3_code 17 1 18 (.iconst 0) := ⟨by decide +kernel, rfl⟩
set_option maxRecDepth 100000 in
theorem ii_mo_in_18 : sm_D prog_9_method_3_code 18 1 19 (.ireturn) := ⟨by decide +kernel, rfl⟩
noncomputable def ff_mo_in  (a0 : Int64) (a2 : Int64) (a4 : Int64) (w : sm_Mem) : sm_R := (if (lg_cmp a0 a2) < (0 : Int32) then (some (.int (0 : Int32), w)) else (if (0 : Int32) < (lg_cmp a0 a4) then (some (.int (0 : Int32), w)) else (some (.int (1 : Int32), w))))
set_option maxHeartbeats 4000000 in
set_option maxRecDepth 100000 in
theorem ss_mo_in_0 {E : Nat × (Nat → Int32)}  (a0 : Int64) (a2 : Int64) (a4 : Int64) (w : sm_Mem) : sm_Sim E (mi_mo_in) 0 [some (.long a0), none, some (.long a2), none, some (.long a4), none] [] w (ff_mo_in  a0 a2 a4 w) := by
  unfold ff_mo_in
  refine sm_lload_n ii_mo_in_0 rfl ?_
  refine sm_lload_n ii_mo_in_1 rfl ?_
  refine sm_lcmp ii_mo_in_2 ?_
  refine sm_if_lt 17 ii_mo_in_3 (by decide) ?_ ?_
  · refine sm_iconst (0 : Int32) ii_mo_in_17 (by decide) ?_
    exact sm_zret1 ii_mo_in_18 rfl (by decide)
  · refine sm_lload_n ii_mo_in_6 rfl ?_
    refine sm_lload ii_mo_in_7 rfl ?_
    refine sm_lcmp ii_mo_in_9 ?_
    refine sm_if_gt 17 ii_mo_in_10 (by decide) ?_ ?_
    · refine sm_iconst (0 : Int32) ii_mo_in_17 (by decide) ?_
      exact sm_zret1 ii_mo_in_18 rfl (by decide)
    · refine sm_iconst (1 : Int32) ii_mo_in_13 (by decide) ?_
      refine sm_goto 18 ii_mo_in_14 (by decide) ?_
      exact sm_zret1 ii_mo_in_18 rfl (by decide)
set_option maxHeartbeats 4000000 in
set_option maxRecDepth 100000 in
theorem mc_mo_in (a0 : Int64) (a2 : Int64) (a4 : Int64) (w : sm_Mem) : sm_MC mi_mo_in [.long a0, .long a2, .long a4] w (ff_mo_in a0 a2 a4 w) := sm_MC_of (0, fun _ => 0) (by decide +kernel) (by decide) rfl (Nat.le_of_ble_eq_true rfl) (ss_mo_in_0 a0 a2 a4 w)
abbrev mi_mo_isRow : sm_MI := (⟨"HerOrdersModel", "isRow", "(I)Z"⟩, prog_9_method_7_code, 1, (some .boolean), 2)
set_option maxRecDepth 100000 in
theorem mf_mo_isRow : sm_MF mi_mo_isRow 1 := ⟨List.mem_of_getElem? (i := 1039) (by decide +kernel), List.mem_of_getElem? (i := 132) (by decide +kernel), ⟨by decide, by decide⟩, by decide +kernel⟩
set_option maxRecDepth 100000 in
theorem mv_mo_isRow : sm_MFS mi_mo_isRow := List.mem_of_getElem? (i := 1038) (by decide +kernel)
set_option maxRecDepth 100000 in
theorem ii_mo_isRow_0 : sm_D prog_9_method_7_code 0 1 1 (.iload_n 0) := ⟨by decide +kernel, rfl⟩
set_option maxRecDepth 100000 in
theorem ii_mo_isRow_1 : sm_D prog_9_method_7_code 1 1 2 (.i2l) := ⟨by decide +kernel, rfl⟩
set_option maxRecDepth 100000 in
theorem ii_mo_isRow_2 : sm_D prog_9_method_7_code 2 1 3 (.lconst 0) := ⟨by decide +kernel, rfl⟩
set_option maxRecDepth 100000 in
theorem ii_mo_isRow_3 : sm_D prog_9_method_7_code 3 3 6 (.ldc2_w 69) := ⟨by decide +kernel, rfl⟩
set_option maxRecDepth 100000 in
theorem ii_mo_isRow_6 : sm_D prog_9_method_7_code 6 3 9 (.invokestatic 71) := ⟨by decide +kernel, rfl⟩
set_option maxRecDepth 100000 in
theorem ii_mo_isRow_9 : sm_D prog_9_method_7_code 9 1 10 (.ireturn) := ⟨by decide +kernel, rfl⟩
noncomputable def ff_mo_isRow  (a0 : Int32) (w : sm_Mem) : sm_R := (sm_cI (ff_mo_in ((Int32.toInt64 a0)) ((0 : Int64)) ((5 : Int64)) w) fun x1 w2 => (sm_rz x1 w2))
set_option maxHeartbeats 4000000 in
set_option maxRecDepth 100000 in
theorem ss_mo_isRow_0 {E : Nat × (Nat → Int32)}  (a0 : Int32) (w : sm_Mem) : sm_Sim E (mi_mo_isRow) 0 [some (.int a0)] [] w (ff_mo_isRow  a0 w) := by
  unfold ff_mo_isRow
  refine sm_iload_n ii_mo_isRow_0 rfl ?_
  refine sm_i2l ii_mo_isRow_1 ?_
  refine sm_lconst (0 : Int64) ii_mo_isRow_2 (by decide) ?_
  refine sm_ldc2 (5 : Int64) ii_mo_isRow_3 (List.mem_of_getElem? (i := 1040) (by decide +kernel)) ?_
  refine sm_csI [.long (Int32.toInt64 a0), .long (0 : Int64), .long (5 : Int64)] [] rfl ii_mo_isRow_6 ml_mo_71 (mf_mo_in) (mv_mo_in) (Nat.le_of_ble_eq_true rfl) rfl rfl rfl (mc_mo_in ((Int32.toInt64 a0)) ((0 : Int64)) ((5 : Int64)) w) (fun x1 w2 => ?_)
  exact sm_zret ii_mo_isRow_9 rfl
set_option maxHeartbeats 4000000 in
set_option maxRecDepth 100000 in
theorem mc_mo_isRow (a0 : Int32) (w : sm_Mem) : sm_MC mi_mo_isRow [.int a0] w (ff_mo_isRow a0 w) := sm_MC_of (0, fun _ => 0) (by decide +kernel) (by decide) rfl (Nat.le_of_ble_eq_true rfl) (ss_mo_isRow_0 a0 w)
abbrev mi_mo_find : sm_MI := (⟨"HerOrdersModel", "find", "(I)I"⟩, prog_9_method_5_code, 2, (some .int), 1)
set_option maxRecDepth 100000 in
theorem mf_mo_find : sm_MF mi_mo_find 1 := ⟨List.mem_of_getElem? (i := 1047) (by decide +kernel), List.mem_of_getElem? (i := 132) (by decide +kernel), ⟨by decide, by decide⟩, by decide +kernel⟩
set_option maxRecDepth 100000 in
theorem mv_mo_find : sm_MFV mi_mo_find := ⟨List.mem_of_getElem? (i := 1046) (by decide +kernel), List.mem_of_getElem? (i := 73) (by decide +kernel)⟩
set_option maxRecDepth 100000 in
theorem ii_mo_find_0 : sm_D prog_9_method_5_code 0 1 1 (.aload_n 0) := ⟨by decide +kernel, rfl⟩
set_option maxRecDepth 100000 in
theorem ii_mo_find_1 : sm_D prog_9_method_5_code 1 1 2 (.iload_n 1) := ⟨by decide +kernel, rfl⟩
set_option maxRecDepth 100000 in
theorem ii_mo_find_2 : sm_D prog_9_method_5_code 2 3 5 (.putfield 62) := ⟨by decide +kernel, rfl⟩
set_option maxRecDepth 100000 in
theorem ii_mo_find_5 : sm_D prog_9_method_5_code 5 1 6 (.aload_n 0) := ⟨by decide +kernel, rfl⟩
set_option maxRecDepth 100000 in
theorem ii_mo_find_6 : sm_D prog_9_method_5_code 6 3 9 (.getfield 38) := ⟨by decide +kernel, rfl⟩
set_option maxRecDepth 100000 in
theorem ii_mo_find_9 : sm_D prog_9_method_5_code 9 1 10 (.iload_n 1) := ⟨by decide +kernel, rfl⟩
set_option maxRecDepth 100000 in
theorem ii_mo_find_10 : sm_D prog_9_method_5_code 10 1 11 (.dup2) := ⟨by decide +kernel, rfl⟩
set_option maxRecDepth 100000 in
theorem ii_mo_find_11 : sm_D prog_9_method_5_code 11 1 12 (.iaload) := ⟨by decide +kernel, rfl⟩
set_option maxRecDepth 100000 in
theorem ii_mo_find_12 : sm_D prog_9_method_5_code 12 1 13 (.iconst 1) := ⟨by decide +kernel, rfl⟩
set_option maxRecDepth 100000 in
theorem ii_mo_find_13 : sm_D prog_9_method_5_code 13 1 14 (.iadd) := ⟨by decide +kernel, rfl⟩
set_option maxRecDepth 100000 in
theorem ii_mo_find_14 : sm_D prog_9_method_5_code 14 1 15 (.iastore) := ⟨by decide +kernel, rfl⟩
set_option maxRecDepth 100000 in
theorem ii_mo_find_15 : sm_D prog_9_method_5_code 15 2 17 (.bipush (-3)) := ⟨by decide +kernel, rfl⟩
set_option maxRecDepth 100000 in
theorem ii_mo_find_17 : sm_D prog_9_method_5_code 17 1 18 (.ireturn) := ⟨by decide +kernel, rfl⟩
noncomputable def ff_mo_find  (a1 : Int32) (w : sm_Mem) : sm_R := (sm_let (sm_wI w 62 12 a1) fun w1 => (Option.bind (sm_rd w1 71 6 a1) fun x2 => (Option.bind (sm_wr w1 71 6 a1 (x2 + (1 : Int32))) fun w3 => (some (.int (-3 : Int32), w3)))))
set_option maxHeartbeats 4000000 in
set_option maxRecDepth 100000 in
theorem ss_mo_find_0 {E : Nat × (Nat → Int32)}  (a1 : Int32) (w : sm_Mem) : sm_Sim E (mi_mo_find) 0 [some (.ref 62), some (.int a1)] [] w (ff_mo_find  a1 w) := by
  unfold ff_mo_find
  refine sm_aload_n ii_mo_find_0 rfl ?_
  refine sm_iload_n ii_mo_find_1 rfl ?_
  refine sm_putI ii_mo_find_2 fp_mo_62 (k := 62) rfl (fun w1 => ?_)
  refine sm_aload_n ii_mo_find_5 rfl ?_
  refine sm_getR 71 ii_mo_find_6 fl_mo_38 (k := 62) rfl ?_
  refine sm_iload_n ii_mo_find_9 rfl ?_
  refine sm_dup2 ii_mo_find_10 ?_
  refine sm_iald ii_mo_find_11 (k := 71) rfl (fun x2 => ?_)
  refine sm_iconst (1 : Int32) ii_mo_find_12 (by decide) ?_
  refine sm_iadd ii_mo_find_13 ?_
  refine sm_iast ii_mo_find_14 (k := 71) rfl (fun w3 => ?_)
  refine sm_bipush (-3 : Int32) ii_mo_find_15 (by decide) ?_
  exact sm_iret ii_mo_find_17 rfl
set_option maxHeartbeats 4000000 in
set_option maxRecDepth 100000 in
theorem mc_mo_find (a1 : Int32) (w : sm_Mem) : sm_MC mi_mo_find [.ref 62, .int a1] w (ff_mo_find a1 w) := sm_MC_of (0, fun _ => 0) (by decide +kernel) (by decide) rfl (Nat.le_of_ble_eq_true rfl) (ss_mo_find_0 a1 w)
abbrev mi_mo_makeRow : sm_MI := (⟨"HerOrdersModel", "makeRow", "(II)V"⟩, prog_9_method_10_code, 4, none, 1)
set_option maxRecDepth 100000 in
theorem mf_mo_makeRow : sm_MF mi_mo_makeRow 2 := ⟨List.mem_of_getElem? (i := 1051) (by decide +kernel), List.mem_of_getElem? (i := 132) (by decide +kernel), ⟨by decide, by decide⟩, by decide +kernel⟩
set_option maxRecDepth 100000 in
theorem mv_mo_makeRow : sm_MFV mi_mo_makeRow := ⟨List.mem_of_getElem? (i := 1050) (by decide +kernel), List.mem_of_getElem? (i := 74) (by decide +kernel)⟩
set_option maxRecDepth 100000 in
theorem ii_mo_makeRow_0 : sm_D prog_9_method_10_code 0 1 1 (.aload_n 0) := ⟨by decide +kernel, rfl⟩
set_option maxRecDepth 100000 in
theorem ii_mo_makeRow_1 : sm_D prog_9_method_10_code 1 3 4 (.getfield 22) := ⟨by decide +kernel, rfl⟩
set_option maxRecDepth 100000 in
theorem ii_mo_makeRow_4 : sm_D prog_9_method_10_code 4 1 5 (.iload_n 1) := ⟨by decide +kernel, rfl⟩
set_option maxRecDepth 100000 in
theorem ii_mo_makeRow_5 : sm_D prog_9_method_10_code 5 1 6 (.iload_n 2) := ⟨by decide +kernel, rfl⟩
set_option maxRecDepth 100000 in
theorem ii_mo_makeRow_6 : sm_D prog_9_method_10_code 6 1 7 (.iastore) := ⟨by decide +kernel, rfl⟩
set_option maxRecDepth 100000 in
theorem ii_mo_makeRow_7 : sm_D prog_9_method_10_code 7 1 8 (.iconst 0) := ⟨by decide +kernel, rfl⟩
set_option maxRecDepth 100000 in
theorem ii_mo_makeRow_8 : sm_D prog_9_method_10_code 8 1 9 (.istore_n 3) := ⟨by decide +kernel, rfl⟩
set_option maxRecDepth 100000 in
theorem ii_mo_makeRow_9 : sm_D prog_9_method_10_code 9 1 10 (.iload_n 3) := ⟨by decide +kernel, rfl⟩
set_option maxRecDepth 100000 in
theorem ii_mo_makeRow_10 : sm_D prog_9_method_10_code 10 2 12 (.bipush 40) := ⟨by decide +kernel, rfl⟩
set_option maxRecDepth 100000 in
theorem ii_mo_makeRow_12 : sm_D prog_9_method_10_code 12 3 15 (.if_icmp .ge 21) := ⟨by decide +kernel, rfl⟩
set_option maxRecDepth 100000 in
theorem ii_mo_makeRow_15 : sm_D prog_9_method_10_code 15 1 16 (.aload_n 0) := ⟨by decide +kernel, rfl⟩
set_option maxRecDepth 100000 in
theorem ii_mo_makeRow_16 : sm_D prog_9_method_10_code 16 3 19 (.getfield 25) := ⟨by decide +kernel, rfl⟩
set_option maxRecDepth 100000 in
theorem ii_mo_makeRow_19 : sm_D prog_9_method_10_code 19 2 21 (.bipush 40) := ⟨by decide +kernel, rfl⟩
set_option maxRecDepth 100000 in
theorem ii_mo_makeRow_21 : sm_D prog_9_method_10_code 21 1 22 (.iload_n 1) := ⟨by decide +kernel, rfl⟩
set_option maxRecDepth 100000 in
theorem ii_mo_makeRow_22 : sm_D prog_9_method_10_code 22 1 23 (.imul) := ⟨by decide +kernel, rfl⟩
set_option maxRecDepth 100000 in
theorem ii_mo_makeRow_23 : sm_D prog_9_method_10_code 23 1 24 (.iload_n 3) := ⟨by decide +kernel, rfl⟩
set_option maxRecDepth 100000 in
theorem ii_mo_makeRow_24 : sm_D prog_9_method_10_code 24 1 25 (.iadd) := ⟨by decide +kernel, rfl⟩
set_option maxRecDepth 100000 in
theorem ii_mo_makeRow_25 : sm_D prog_9_method_10_code 25 1 26 (.iconst 0) := ⟨by decide +kernel, rfl⟩
set_option maxRecDepth 100000 in
theorem ii_mo_makeRow_26 : sm_D prog_9_method_10_code 26 1 27 (.iastore) := ⟨by decide +kernel, rfl⟩
set_option maxRecDepth 100000 in
theorem ii_mo_makeRow_27 : sm_D prog_9_method_10_code 27 3 30 (.iinc 3 1) := ⟨by decide +kernel, rfl⟩
set_option maxRecDepth 100000 in
theorem ii_mo_makeRow_30 : sm_D prog_9_method_10_code 30 3 33 (.goto (-21)) := ⟨by decide +kernel, rfl⟩
set_option maxRecDepth 100000 in
theorem ii_mo_makeRow_33 : sm_D prog_9_method_10_code 33 1 34 (.return_) := ⟨by decide +kernel, rfl⟩
noncomputable def ff_mo_makeRow_9_b  (self9 : Int32 → Int32 → sm_Mem → sm_R) (a1 : Int32) (a3 : Int32) (w : sm_Mem) : sm_R := (if (40 : Int32) ≤ a3 then (some (.null, w)) else (Option.bind (sm_wr w 68 240 (((40 : Int32) * a1) + a3) (0 : Int32)) fun w1 => self9 (a1) ((a3 + (1 : Int32))) w1))
noncomputable def ff_mo_makeRow_9_f  : Nat → Int32 → Int32 → sm_Mem → sm_R
  | 0, _, _, _ => none
  | n + 1, a1, a3, w => ff_mo_makeRow_9_b  (ff_mo_makeRow_9_f  n) a1 a3 w
noncomputable def ff_mo_makeRow_9  (a1 : Int32) (a3 : Int32) (w : sm_Mem) : sm_R := ff_mo_makeRow_9_f  sm_N a1 a3 w
set_option maxHeartbeats 4000000 in
set_option maxRecDepth 100000 in
theorem ss_mo_makeRow_9_b {E : Nat × (Nat → Int32)}  (self9 : Int32 → Int32 → sm_Mem → sm_R) (hself9 : ∀ (a1 : Int32) (a3 : Int32) (w : sm_Mem), sm_Sim E (mi_mo_makeRow) 9 [some (.ref 62), some (.int a1), none, some (.int a3)] [] w (self9 a1 a3 w)) (a1 : Int32) (a3 : Int32) (w : sm_Mem) : sm_Sim E (mi_mo_makeRow) 9 [some (.ref 62), some (.int a1), none, some (.int a3)] [] w (ff_mo_makeRow_9_b  self9 a1 a3 w) := by
  unfold ff_mo_makeRow_9_b
  refine sm_iload_n ii_mo_makeRow_9 rfl ?_
  refine sm_bipush (40 : Int32) ii_mo_makeRow_10 (by decide) ?_
  refine sm_icmp_ge 33 ii_mo_makeRow_12 (by decide) ?_ ?_
  · exact sm_vret ii_mo_makeRow_33 rfl
  · refine sm_aload_n ii_mo_makeRow_15 rfl ?_
    refine sm_getR 68 ii_mo_makeRow_16 fl_mo_25 (k := 62) rfl ?_
    refine sm_bipush (40 : Int32) ii_mo_makeRow_19 (by decide) ?_
    refine sm_iload_n ii_mo_makeRow_21 rfl ?_
    refine sm_imul ii_mo_makeRow_22 ?_
    refine sm_iload_n ii_mo_makeRow_23 rfl ?_
    refine sm_iadd ii_mo_makeRow_24 ?_
    refine sm_iconst (0 : Int32) ii_mo_makeRow_25 (by decide) ?_
    refine sm_iast ii_mo_makeRow_26 (k := 68) rfl (fun w1 => ?_)
    refine sm_iinc (a3 + (1 : Int32)) [some (.ref 62), some (.int a1), none, some (.int (a3 + (1 : Int32)))] ii_mo_makeRow_27 rfl rfl rfl rfl ?_
    refine sm_goto 9 ii_mo_makeRow_30 (by decide) ?_
    exact hself9 (a1) ((a3 + (1 : Int32))) w1
set_option maxHeartbeats 4000000 in
set_option maxRecDepth 100000 in
theorem ss_mo_makeRow_9_f {E : Nat × (Nat → Int32)}  : ∀ (n : Nat) (a1 : Int32) (a3 : Int32) (w : sm_Mem), sm_Sim E (mi_mo_makeRow) 9 [some (.ref 62), some (.int a1), none, some (.int a3)] [] w (ff_mo_makeRow_9_f  n a1 a3 w)
  | 0, _, _, _ => fun _ _ h => by cases h
  | n + 1, a1, a3, w => ss_mo_makeRow_9_b  _ (ss_mo_makeRow_9_f  n) a1 a3 w
set_option maxHeartbeats 4000000 in
set_option maxRecDepth 100000 in
theorem ss_mo_makeRow_9 {E : Nat × (Nat → Int32)}  (a1 : Int32) (a3 : Int32) (w : sm_Mem) : sm_Sim E (mi_mo_makeRow) 9 [some (.ref 62), some (.int a1), none, some (.int a3)] [] w (ff_mo_makeRow_9  a1 a3 w) := ss_mo_makeRow_9_f  sm_N a1 a3 w
noncomputable def ff_mo_makeRow  (a1 : Int32) (a2 : Int32) (w : sm_Mem) : sm_R := (Option.bind (sm_wr w 67 6 a1 a2) fun w2 => ff_mo_makeRow_9 (a1) ((0 : Int32)) w2)
set_option maxHeartbeats 4000000 in
set_option maxRecDepth 100000 in
theorem ss_mo_makeRow_0 {E : Nat × (Nat → Int32)}  (a1 : Int32) (a2 : Int32) (w : sm_Mem) : sm_Sim E (mi_mo_makeRow) 0 [some (.ref 62), some (.int a1), some (.int a2), none] [] w (ff_mo_makeRow  a1 a2 w) := by
  unfold ff_mo_makeRow
  refine sm_aload_n ii_mo_makeRow_0 rfl ?_
  refine sm_getR 67 ii_mo_makeRow_1 fl_mo_22 (k := 62) rfl ?_
  refine sm_iload_n ii_mo_makeRow_4 rfl ?_
  refine sm_iload_n ii_mo_makeRow_5 rfl ?_
  refine sm_iast ii_mo_makeRow_6 (k := 67) rfl (fun w2 => ?_)
  refine sm_iconst (0 : Int32) ii_mo_makeRow_7 (by decide) ?_
  refine sm_istore_n [some (.ref 62), some (.int a1), some (.int a2), some (.int (0 : Int32))] ii_mo_makeRow_8 rfl rfl ?_
  refine sm_msk [true, true, false, true] [some (.ref 62), some (.int a1), none, some (.int (0 : Int32))] rfl ?_
  exact ss_mo_makeRow_9 (a1) ((0 : Int32)) w2
set_option maxHeartbeats 4000000 in
set_option maxRecDepth 100000 in
theorem mc_mo_makeRow (a1 : Int32) (a2 : Int32) (w : sm_Mem) : sm_MC mi_mo_makeRow [.ref 62, .int a1, .int a2] w (ff_mo_makeRow a1 a2 w) := sm_MC_of (0, fun _ => 0) (by decide +kernel) (by decide) rfl (Nat.le_of_ble_eq_true rfl) (ss_mo_makeRow_0 a1 a2 w)
abbrev mi_mo_row : sm_MI := (⟨"HerOrdersModel", "row", "(II)I"⟩, prog_9_method_9_code, 3, (some .int), 3)
set_option maxRecDepth 100000 in
theorem mf_mo_row : sm_MF mi_mo_row 2 := ⟨List.mem_of_getElem? (i := 1036) (by decide +kernel), List.mem_of_getElem? (i := 132) (by decide +kernel), ⟨by decide, by decide⟩, by decide +kernel⟩
set_option maxRecDepth 100000 in
theorem mv_mo_row : sm_MFV mi_mo_row := ⟨List.mem_of_getElem? (i := 1034) (by decide +kernel), List.mem_of_getElem? (i := 1035) (by decide +kernel)⟩
set_option maxRecDepth 100000 in
theorem ii_mo_row_0 : sm_D prog_9_method_9_code 0 1 1 (.iload_n 1) := ⟨by decide +kernel, rfl⟩
set_option maxRecDepth 100000 in
theorem ii_mo_row_1 : sm_D prog_9_method_9_code 1 3 4 (.invokestatic 77) := ⟨by decide +kernel, rfl⟩
set_option maxRecDepth 100000 in
theorem ii_mo_row_4 : sm_D prog_9_method_9_code 4 3 7 (.ifCond .eq 9) := ⟨by decide +kernel, rfl⟩
set_option maxRecDepth 100000 in
theorem ii_mo_row_7 : sm_D prog_9_method_9_code 7 1 8 (.iload_n 2) := ⟨by decide +kernel, rfl⟩
set_option maxRecDepth 100000 in
theorem ii_mo_row_8 : sm_D prog_9_method_9_code 8 2 10 (.bipush 40) := ⟨by decide +kernel, rfl⟩
set_option maxRecDepth 100000 in
theorem ii_mo_row_10 : sm_D prog_9_method_9_code 10 3 13 (.if_icmp .le 5) := ⟨by decide +kernel, rfl⟩
set_option maxRecDepth 100000 in
theorem ii_mo_row_13 : sm_D prog_9_method_9_code 13 1 14 (.iconst (-1)) := ⟨by decide +kernel, rfl⟩
set_option maxRecDepth 100000 in
theorem ii_mo_row_14 : sm_D prog_9_method_9_code 14 1 15 (.ireturn) := ⟨by decide +kernel, rfl⟩
set_option maxRecDepth 100000 in
theorem ii_mo_row_15 : sm_D prog_9_method_9_code 15 1 16 (.iload_n 2) := ⟨by decide +kernel, rfl⟩
set_option maxRecDepth 100000 in
theorem ii_mo_row_16 : sm_D prog_9_method_9_code 16 3 19 (.ifCond .ge 9) := ⟨by decide +kernel, rfl⟩
set_option maxRecDepth 100000 in
theorem ii_mo_row_19 : sm_D prog_9_method_9_code 19 1 20 (.aload_n 0) := ⟨by decide +kernel, rfl⟩
set_option maxRecDepth 100000 in
theorem ii_mo_row_20 : sm_D prog_9_method_9_code 20 1 21 (.iconst 5) := ⟨by decide +kernel, rfl⟩
set_option maxRecDepth 100000 in
theorem ii_mo_row_21 : sm_D prog_9_method_9_code 21 3 24 (.invokevirtual 81) := ⟨by decide +kernel, rfl⟩
set_option maxRecDepth 100000 in
theorem ii_mo_row_24 : sm_D prog_9_method_9_code 24 1 25 (.ireturn) := ⟨by decide +kernel, rfl⟩
set_option maxRecDepth 100000 in
theorem ii_mo_row_25 : sm_D prog_9_method_9_code 25 1 26 (.aload_n 0) := ⟨by decide +kernel, rfl⟩
set_option maxRecDepth 100000 in
theorem ii_mo_row_26 : sm_D prog_9_method_9_code 26 1 27 (.iload_n 1) := ⟨by decide +kernel, rfl⟩
set_option maxRecDepth 100000 in
theorem ii_mo_row_27 : sm_D prog_9_method_9_code 27 1 28 (.iload_n 2) := ⟨by decide +kernel, rfl⟩
set_option maxRecDepth 100000 in
theorem ii_mo_row_28 : sm_D prog_9_method_9_code 28 3 31 (.invokevirtual 85) := ⟨by decide +kernel, rfl⟩
set_option maxRecDepth 100000 in
theorem ii_mo_row_31 : sm_D prog_9_method_9_code 31 1 32 (.iload_n 2) := ⟨by decide +kernel, rfl⟩
set_option maxRecDepth 100000 in
theorem ii_mo_row_32 : sm_D prog_9_method_9_code 32 1 33 (.ireturn) := ⟨by decide +kernel, rfl⟩
noncomputable def ff_mo_row  (a1 : Int32) (a2 : Int32) (w : sm_Mem) : sm_R := (sm_cI (ff_mo_isRow (a1) w) fun x1 w2 => (if x1 = (0 : Int32) then (some (.int (-1 : Int32), w2)) else (if a2 ≤ (40 : Int32) then (if (0 : Int32) ≤ a2 then (sm_cV (ff_mo_makeRow (a1) (a2) w2) fun w4 => (some (.int a2, w4))) else (sm_cI (ff_mo_find ((5 : Int32)) w2) fun x5 w6 => (some (.int x5, w6)))) else (some (.int (-1 : Int32), w2)))))
set_option maxHeartbeats 4000000 in
set_option maxRecDepth 100000 in
theorem ss_mo_row_0 {E : Nat × (Nat → Int32)}  (a1 : Int32) (a2 : Int32) (w : sm_Mem) : sm_Sim E (mi_mo_row) 0 [some (.ref 62), some (.int a1), some (.int a2)] [] w (ff_mo_row  a1 a2 w) := by
  unfold ff_mo_row
  refine sm_iload_n ii_mo_row_0 rfl ?_
  refine sm_csI [.int a1] [] rfl ii_mo_row_1 ml_mo_77 (mf_mo_isRow) (mv_mo_isRow) (Nat.le_of_ble_eq_true rfl) rfl rfl rfl (mc_mo_isRow (a1) w) (fun x1 w2 => ?_)
  refine sm_if_eq 13 ii_mo_row_4 (by decide) ?_ ?_
  · refine sm_iconst (-1 : Int32) ii_mo_row_13 (by decide) ?_
    exact sm_iret ii_mo_row_14 rfl
  · refine sm_iload_n ii_mo_row_7 rfl ?_
    refine sm_bipush (40 : Int32) ii_mo_row_8 (by decide) ?_
    refine sm_icmp_le 15 ii_mo_row_10 (by decide) ?_ ?_
    · refine sm_iload_n ii_mo_row_15 rfl ?_
      refine sm_if_ge 25 ii_mo_row_16 (by decide) ?_ ?_
      · refine sm_aload_n ii_mo_row_25 rfl ?_
        refine sm_iload_n ii_mo_row_26 rfl ?_
        refine sm_iload_n ii_mo_row_27 rfl ?_
        refine sm_cvV [.int a1, .int a2] [] rfl ii_mo_row_28 ml_mo_85 (mf_mo_makeRow) (mv_mo_makeRow) (Nat.le_of_ble_eq_true rfl) rfl 7 rfl rfl rfl rfl (mc_mo_makeRow (a1) (a2) w2) (fun w4 => ?_)
        refine sm_iload_n ii_mo_row_31 rfl ?_
        exact sm_iret ii_mo_row_32 rfl
      · refine sm_aload_n ii_mo_row_19 rfl ?_
        refine sm_iconst (5 : Int32) ii_mo_row_20 (by decide) ?_
        refine sm_cvI [.int (5 : Int32)] [] rfl ii_mo_row_21 ml_mo_81 (mf_mo_find) (mv_mo_find) (Nat.le_of_ble_eq_true rfl) rfl 7 rfl rfl rfl rfl (mc_mo_find ((5 : Int32)) w2) (fun x5 w6 => ?_)
        exact sm_iret ii_mo_row_24 rfl
    · refine sm_iconst (-1 : Int32) ii_mo_row_13 (by decide) ?_
      exact sm_iret ii_mo_row_14 rfl
set_option maxHeartbeats 4000000 in
set_option maxRecDepth 100000 in
theorem mc_mo_row (a1 : Int32) (a2 : Int32) (w : sm_Mem) : sm_MC mi_mo_row [.ref 62, .int a1, .int a2] w (ff_mo_row a1 a2 w) := sm_MC_of (0, fun _ => 0) (by decide +kernel) (by decide) rfl (Nat.le_of_ble_eq_true rfl) (ss_mo_row_0 a1 a2 w)
abbrev mi_rw_isMissing : sm_MI := (⟨"HerOrders$Row", "isMissing", "()Z"⟩, prog_4_method_2_code, 1, (some .boolean), 1)
set_option maxRecDepth 100000 in
theorem mf_rw_isMissing : sm_MF mi_rw_isMissing 0 := ⟨List.mem_of_getElem? (i := 422) (by decide +kernel), List.mem_of_getElem? (i := 125) (by decide +kernel), ⟨by decide, by decide⟩, by decide +kernel⟩
set_option maxRecDepth 100000 in
theorem mv_rw_isMissing : sm_MFV mi_rw_isMissing := ⟨List.mem_of_getElem? (i := 421) (by decide +kernel), List.mem_of_getElem? (i := 5) (by decide +kernel)⟩
set_option maxRecDepth 100000 in
theorem ii_rw_isMissing_0 : sm_D prog_4_method_2_code 0 1 1 (.aload_n 0) := ⟨by decide +kernel, rfl⟩
set_option maxRecDepth 100000 in
theorem ii_rw_isMissing_1 : sm_D prog_4_method_2_code 1 3 4 (.getfield 21) := ⟨by decide +kernel, rfl⟩
set_option maxRecDepth 100000 in
theorem ii_rw_isMissing_4 : sm_D prog_4_method_2_code 4 3 7 (.ifCond .ge 7) := ⟨by decide +kernel, rfl⟩
set_option maxRecDepth 100000 in
theorem ii_rw_isMissing_7 : sm_D prog_4_method_2_code 7 1 8 (.iconst 1) := ⟨by decide +kernel, rfl⟩
set_option maxRecDepth 100000 in
theorem ii_rw_isMissing_8 : sm_D prog_4_method_2_code 8 3 11 (.goto 4) := ⟨by decide +kernel, rfl⟩
set_option maxRecDepth 100000 in
theorem ii_rw_isMissing_11 : sm_D prog_4_method_2_code 11 1 12 (.iconst 0) := ⟨by decide +kernel, rfl⟩
set_option maxRecDepth 100000 in
theorem ii_rw_isMissing_12 : sm_D prog_4_method_2_code 12 1 13 (.ireturn) := ⟨by decide +kernel, rfl⟩
noncomputable def ff_rw_isMissing  (a0 : Nat) (w : sm_Mem) : sm_R := (Option.bind (sm_gI w a0 2 1) fun x1 => (if (0 : Int32) ≤ x1 then (some (.int (0 : Int32), w)) else (some (.int (1 : Int32), w))))
set_option maxHeartbeats 4000000 in
set_option maxRecDepth 100000 in
theorem ss_rw_isMissing_0 {E : Nat × (Nat → Int32)}  (a0 : Nat) (w : sm_Mem) : sm_Sim E (mi_rw_isMissing) 0 [some (.ref a0)] [] w (ff_rw_isMissing  a0 w) := by
  unfold ff_rw_isMissing
  refine sm_aload_n ii_rw_isMissing_0 rfl ?_
  refine sm_getIs ii_rw_isMissing_1 fl_rw_21 (fun x1 => ?_)
  refine sm_if_ge 11 ii_rw_isMissing_4 (by decide) ?_ ?_
  · refine sm_iconst (0 : Int32) ii_rw_isMissing_11 (by decide) ?_
    exact sm_zret1 ii_rw_isMissing_12 rfl (by decide)
  · refine sm_iconst (1 : Int32) ii_rw_isMissing_7 (by decide) ?_
    refine sm_goto 12 ii_rw_isMissing_8 (by decide) ?_
    exact sm_zret1 ii_rw_isMissing_12 rfl (by decide)
set_option maxHeartbeats 4000000 in
set_option maxRecDepth 100000 in
theorem mc_rw_isMissing (a0 : Nat) (w : sm_Mem) : sm_MC mi_rw_isMissing [.ref a0] w (ff_rw_isMissing a0 w) := sm_MC_of (0, fun _ => 0) (by decide +kernel) (by decide) rfl (Nat.le_of_ble_eq_true rfl) (ss_rw_isMissing_0 a0 w)
abbrev mi_ho_refusalOfMissing : sm_MI := (⟨"HerOrders", "refusalOfMissing", "([LHerOrders$Row;I)I"⟩, prog_1_method_48_code, 3, (some .int), 2)
set_option maxRecDepth 100000 in
theorem mf_ho_refusalOfMissing : sm_MF mi_ho_refusalOfMissing 2 := ⟨List.mem_of_getElem? (i := 418) (by decide +kernel), List.mem_of_getElem? (i := 124) (by decide +kernel), ⟨by decide, by decide⟩, by decide +kernel⟩
set_option maxRecDepth 100000 in
theorem mv_ho_refusalOfMissing : sm_MFV mi_ho_refusalOfMissing := ⟨List.mem_of_getElem? (i := 417) (by decide +kernel), List.mem_of_getElem? (i := 4) (by decide +kernel)⟩
set_option maxRecDepth 100000 in
theorem ii_ho_refusalOfMissing_0 : sm_D prog_1_method_48_code 0 1 1 (.iload_n 2) := ⟨by decide +kernel, rfl⟩
set_option maxRecDepth 100000 in
theorem ii_ho_refusalOfMissing_1 : sm_D prog_1_method_48_code 1 1 2 (.aload_n 1) := ⟨by decide +kernel, rfl⟩
set_option maxRecDepth 100000 in
theorem ii_ho_refusalOfMissing_2 : sm_D prog_1_method_48_code 2 1 3 (.arraylength) := ⟨by decide +kernel, rfl⟩
set_option maxRecDepth 100000 in
theorem ii_ho_refusalOfMissing_3 : sm_D prog_1_method_48_code 3 3 6 (.invokestatic 81) := ⟨by decide +kernel, rfl⟩
set_option maxRecDepth 100000 in
theorem ii_ho_refusalOfMissing_6 : sm_D prog_1_method_48_code 6 3 9 (.ifCond .ne 5) := ⟨by decide +kernel, rfl⟩
set_option maxRecDepth 100000 in
theorem ii_ho_refusalOfMissing_9 : sm_D prog_1_method_48_code 9 1 10 (.iconst (-1)) := ⟨by decide +kernel, rfl⟩
set_option maxRecDepth 100000 in
theorem ii_ho_refusalOfMissing_10 : sm_D prog_1_method_48_code 10 1 11 (.ireturn) := ⟨by decide +kernel, rfl⟩
set_option maxRecDepth 100000 in
theorem ii_ho_refusalOfMissing_11 : sm_D prog_1_method_48_code 11 1 12 (.aload_n 1) := ⟨by decide +kernel, rfl⟩
set_option maxRecDepth 100000 in
theorem ii_ho_refusalOfMissing_12 : sm_D prog_1_method_48_code 12 1 13 (.iload_n 2) := ⟨by decide +kernel, rfl⟩
set_option maxRecDepth 100000 in
theorem ii_ho_refusalOfMissing_13 : sm_D prog_1_method_48_code 13 1 14 (.aaload) := ⟨by decide +kernel, rfl⟩
set_option maxRecDepth 100000 in
theorem ii_ho_refusalOfMissing_14 : sm_D prog_1_method_48_code 14 3 17 (.invokevirtual 89) := ⟨by decide +kernel, rfl⟩
set_option maxRecDepth 100000 in
theorem ii_ho_refusalOfMissing_17 : sm_D prog_1_method_48_code 17 3 20 (.ifCond .eq 14) := ⟨by decide +kernel, rfl⟩
set_option maxRecDepth 100000 in
theorem ii_ho_refusalOfMissing_20 : sm_D prog_1_method_48_code 20 1 21 (.aload_n 0) := ⟨by decide +kernel, rfl⟩
set_option maxRecDepth 100000 in
theorem ii_ho_refusalOfMissing_21 : sm_D prog_1_method_48_code 21 3 24 (.getfield 54) := ⟨by decide +kernel, rfl⟩
set_option maxRecDepth 100000 in
theorem ii_ho_refusalOfMissing_24 : sm_D prog_1_method_48_code 24 1 25 (.iconst 1) := ⟨by decide +kernel, rfl⟩
set_option maxRecDepth 100000 in
theorem ii_ho_refusalOfMissing_25 : sm_D prog_1_method_48_code 25 3 28 (.invokevirtual 85) := ⟨by decide +kernel, rfl⟩
set_option maxRecDepth 100000 in
theorem ii_ho_refusalOfMissing_28 : sm_D prog_1_method_48_code 28 3 31 (.goto 4) := ⟨by decide +kernel, rfl⟩
set_option maxRecDepth 100000 in
theorem ii_ho_refusalOfMissing_31 : sm_D prog_1_method_48_code 31 1 32 (.iconst 0) := ⟨by decide +kernel, rfl⟩
set_option maxRecDepth 100000 in
theorem ii_ho_refusalOfMissing_32 : sm_D prog_1_method_48_code 32 1 33 (.ireturn) := ⟨by decide +kernel, rfl⟩
noncomputable def ff_ho_refusalOfMissing  (a1 : Nat) (a2 : Int32) (w : sm_Mem) : sm_R := (Option.bind (sm_al a1) fun x1 => (sm_cI (ff_ho_isWithin (a2) (x1) w) fun x2 w3 => (if x2 = (0 : Int32) then (some (.int (-1 : Int32), w3)) else (Option.bind (sm_rr a1 a2) fun r4 => (sm_cI (sm_rc r4 2 (ff_rw_isMissing (r4) w3)) fun x5 w6 => (if x5 = (0 : Int32) then (some (.int (0 : Int32), w6)) else (sm_cI (ff_td_refuse ((1 : Int32)) w6) fun x7 w8 => (some (.int x7, w8)))))))))
set_option maxHeartbeats 4000000 in
set_option maxRecDepth 100000 in
theorem ss_ho_refusalOfMissing_0 {E : Nat × (Nat → Int32)}  (a1 : Nat) (a2 : Int32) (w : sm_Mem) : sm_Sim E (mi_ho_refusalOfMissing) 0 [some (.ref 0), some (.ref a1), some (.int a2)] [] w (ff_ho_refusalOfMissing  a1 a2 w) := by
  unfold ff_ho_refusalOfMissing
  refine sm_iload_n ii_ho_refusalOfMissing_0 rfl ?_
  refine sm_aload_n ii_ho_refusalOfMissing_1 rfl ?_
  refine sm_alen ii_ho_refusalOfMissing_2 (fun x1 => ?_)
  refine sm_csI [.int a2, .int x1] [] rfl ii_ho_refusalOfMissing_3 ml_ho_81 (mf_ho_isWithin) (mv_ho_isWithin) (Nat.le_of_ble_eq_true rfl) rfl rfl rfl (mc_ho_isWithin (a2) (x1) w) (fun x2 w3 => ?_)
  refine sm_if_ne 11 ii_ho_refusalOfMissing_6 (by decide) ?_ ?_
  · refine sm_iconst (-1 : Int32) ii_ho_refusalOfMissing_9 (by decide) ?_
    exact sm_iret ii_ho_refusalOfMissing_10 rfl
  · refine sm_aload_n ii_ho_refusalOfMissing_11 rfl ?_
    refine sm_iload_n ii_ho_refusalOfMissing_12 rfl ?_
    refine sm_aald ii_ho_refusalOfMissing_13 (fun r4 => ?_)
    refine sm_dvI [] [] rfl ii_ho_refusalOfMissing_14 ml_ho_89 (mf_rw_isMissing) (mv_rw_isMissing) (Nat.le_of_ble_eq_true rfl) rfl 2 rfl rfl rfl (mc_rw_isMissing (r4) w3) (fun x5 w6 => ?_)
    refine sm_if_eq 31 ii_ho_refusalOfMissing_17 (by decide) ?_ ?_
    · refine sm_iconst (0 : Int32) ii_ho_refusalOfMissing_31 (by decide) ?_
      exact sm_iret ii_ho_refusalOfMissing_32 rfl
    · refine sm_aload_n ii_ho_refusalOfMissing_20 rfl ?_
      refine sm_getR 60 ii_ho_refusalOfMissing_21 fl_ho_54 (k := 0) rfl ?_
      refine sm_iconst (1 : Int32) ii_ho_refusalOfMissing_24 (by decide) ?_
      refine sm_cvI [.int (1 : Int32)] [] rfl ii_ho_refusalOfMissing_25 ml_ho_85 (mf_td_refuse) (mv_td_refuse) (Nat.le_of_ble_eq_true rfl) rfl 3 rfl rfl rfl rfl (mc_td_refuse ((1 : Int32)) w6) (fun x7 w8 => ?_)
      refine sm_goto 32 ii_ho_refusalOfMissing_28 (by decide) ?_
      exact sm_iret ii_ho_refusalOfMissing_32 rfl
set_option maxHeartbeats 4000000 in
set_option maxRecDepth 100000 in
theorem mc_ho_refusalOfMissing (a1 : Nat) (a2 : Int32) (w : sm_Mem) : sm_MC mi_ho_refusalOfMissing [.ref 0, .ref a1, .int a2] w (ff_ho_refusalOfMissing a1 a2 w) := sm_MC_of (0, fun _ => 0) (by decide +kernel) (by decide) rfl (Nat.le_of_ble_eq_true rfl) (ss_ho_refusalOfMissing_0 a1 a2 w)
abbrev mi_ho_refusalOfPlace : sm_MI := (⟨"HerOrders", "refusalOfPlace", "([LHerOrders$Row;II)I"⟩, prog_1_method_49_code, 5, (some .int), 3)
set_option maxRecDepth 100000 in
theorem mf_ho_refusalOfPlace : sm_MF mi_ho_refusalOfPlace 3 := ⟨List.mem_of_getElem? (i := 414) (by decide +kernel), List.mem_of_getElem? (i := 124) (by decide +kernel), ⟨by decide, by decide⟩, by decide +kernel⟩
set_option maxRecDepth 100000 in
theorem mv_ho_refusalOfPlace : sm_MFV mi_ho_refusalOfPlace := ⟨List.mem_of_getElem? (i := 413) (by decide +kernel), List.mem_of_getElem? (i := 3) (by decide +kernel)⟩
set_option maxRecDepth 100000 in
theorem ii_ho_refusalOfPlace_0 : sm_D prog_1_method_49_code 0 1 1 (.aload_n 0) := ⟨by decide +kernel, rfl⟩
set_option maxRecDepth 100000 in
theorem ii_ho_refusalOfPlace_1 : sm_D prog_1_method_49_code 1 1 2 (.aload_n 1) := ⟨by decide +kernel, rfl⟩
set_option maxRecDepth 100000 in
theorem ii_ho_refusalOfPlace_2 : sm_D prog_1_method_49_code 2 1 3 (.iload_n 2) := ⟨by decide +kernel, rfl⟩
set_option maxRecDepth 100000 in
theorem ii_ho_refusalOfPlace_3 : sm_D prog_1_method_49_code 3 3 6 (.invokevirtual 74) := ⟨by decide +kernel, rfl⟩
set_option maxRecDepth 100000 in
theorem ii_ho_refusalOfPlace_6 : sm_D prog_1_method_49_code 6 2 8 (.istore 4) := ⟨by decide +kernel, rfl⟩
set_option maxRecDepth 100000 in
theorem ii_ho_refusalOfPlace_8 : sm_D prog_1_method_49_code 8 2 10 (.iload 4) := ⟨by decide +kernel, rfl⟩
set_option maxRecDepth 100000 in
theorem ii_ho_refusalOfPlace_10 : sm_D prog_1_method_49_code 10 3 13 (.ifCond .eq 6) := ⟨by decide +kernel, rfl⟩
set_option maxRecDepth 100000 in
theorem ii_ho_refusalOfPlace_13 : sm_D prog_1_method_49_code 13 2 15 (.iload 4) := ⟨by decide +kernel, rfl⟩
set_option maxRecDepth 100000 in
theorem ii_ho_refusalOfPlace_15 : sm_D prog_1_method_49_code 15 1 16 (.ireturn) := ⟨by decide +kernel, rfl⟩
set_option maxRecDepth 100000 in
theorem ii_ho_refusalOfPlace_16 : sm_D prog_1_method_49_code 16 1 17 (.iload_n 3) := ⟨by decide +kernel, rfl⟩
set_option maxRecDepth 100000 in
theorem ii_ho_refusalOfPlace_17 : sm_D prog_1_method_49_code 17 1 18 (.aload_n 1) := ⟨by decide +kernel, rfl⟩
set_option maxRecDepth 100000 in
theorem ii_ho_refusalOfPlace_18 : sm_D prog_1_method_49_code 18 1 19 (.iload_n 2) := ⟨by decide +kernel, rfl⟩
set_option maxRecDepth 100000 in
theorem ii_ho_refusalOfPlace_19 : sm_D prog_1_method_49_code 19 1 20 (.aaload) := ⟨by decide +kernel, rfl⟩
set_option maxRecDepth 100000 in
theorem ii_ho_refusalOfPlace_20 : sm_D prog_1_method_49_code 20 3 23 (.getfield 78) := ⟨by decide +kernel, rfl⟩
set_option maxRecDepth 100000 in
theorem ii_ho_refusalOfPlace_23 : sm_D prog_1_method_49_code 23 3 26 (.invokestatic 81) := ⟨by decide +kernel, rfl⟩
set_option maxRecDepth 100000 in
theorem ii_ho_refusalOfPlace_26 : sm_D prog_1_method_49_code 26 3 29 (.ifCond .eq 7) := ⟨by decide +kernel, rfl⟩
set_option maxRecDepth 100000 in
theorem ii_ho_refusalOfPlace_29 : sm_D prog_1_method_49_code 29 1 30 (.iconst 0) := ⟨by decide +kernel, rfl⟩
set_option maxRecDepth 100000 in
theorem ii_ho_refusalOfPlace_30 : sm_D prog_1_method_49_code 30 3 33 (.goto 11) := ⟨by decide +kernel, rfl⟩
set_option maxRecDepth 100000 in
theorem ii_ho_refusalOfPlace_33 : sm_D prog_1_method_49_code 33 1 34 (.aload_n 0) := ⟨by decide +kernel, rfl⟩
set_option maxRecDepth 100000 in
theorem ii_ho_refusalOfPlace_34 : sm_D prog_1_method_49_code 34 3 37 (.getfield 54) := ⟨by decide +kernel, rfl⟩
set_option maxRecDepth 100000 in
theorem ii_ho_refusalOfPlace_37 : sm_D prog_1_method_49_code 37 1 38 (.iconst 2) := ⟨by decide +kernel, rfl⟩
set_option maxRecDepth 100000 in
theorem ii_ho_refusalOfPlace_38 : sm_D prog_1_method_49_code 38 3 41 (.invokevirtual 85) := ⟨by decide +kernel, rfl⟩
set_option maxRecDepth 100000 in
theorem ii_ho_refusalOfPlace_41 : sm_D prog_1_method_49_code 41 1 42 (.ireturn) := ⟨by decide +kernel, rfl⟩
noncomputable def ff_ho_refusalOfPlace  (a1 : Nat) (a2 : Int32) (a3 : Int32) (w : sm_Mem) : sm_R := (sm_cI (ff_ho_refusalOfMissing (a1) (a2) w) fun x1 w2 => (if x1 = (0 : Int32) then (Option.bind (sm_rr a1 a2) fun r3 => (Option.bind (sm_gI w2 r3 2 1) fun x4 => (sm_cI (ff_ho_isWithin (a3) (x4) w2) fun x5 w6 => (if x5 = (0 : Int32) then (sm_cI (ff_td_refuse ((2 : Int32)) w6) fun x7 w8 => (some (.int x7, w8))) else (some (.int (0 : Int32), w6)))))) else (some (.int x1, w2))))
set_option maxHeartbeats 4000000 in
set_option maxRecDepth 100000 in
theorem ss_ho_refusalOfPlace_0 {E : Nat × (Nat → Int32)}  (a1 : Nat) (a2 : Int32) (a3 : Int32) (w : sm_Mem) : sm_Sim E (mi_ho_refusalOfPlace) 0 [some (.ref 0), some (.ref a1), some (.int a2), some (.int a3), none] [] w (ff_ho_refusalOfPlace  a1 a2 a3 w) := by
  unfold ff_ho_refusalOfPlace
  refine sm_aload_n ii_ho_refusalOfPlace_0 rfl ?_
  refine sm_aload_n ii_ho_refusalOfPlace_1 rfl ?_
  refine sm_iload_n ii_ho_refusalOfPlace_2 rfl ?_
  refine sm_cvI [.ref a1, .int a2] [] rfl ii_ho_refusalOfPlace_3 ml_ho_74 (mf_ho_refusalOfMissing) (mv_ho_refusalOfMissing) (Nat.le_of_ble_eq_true rfl) rfl 6 rfl rfl rfl rfl (mc_ho_refusalOfMissing (a1) (a2) w) (fun x1 w2 => ?_)
  refine sm_istore [some (.ref 0), some (.ref a1), some (.int a2), some (.int a3), some (.int x1)] ii_ho_refusalOfPlace_6 rfl rfl ?_
  refine sm_iload ii_ho_refusalOfPlace_8 rfl ?_
  refine sm_if_eq 16 ii_ho_refusalOfPlace_10 (by decide) ?_ ?_
  · refine sm_iload_n ii_ho_refusalOfPlace_16 rfl ?_
    refine sm_aload_n ii_ho_refusalOfPlace_17 rfl ?_
    refine sm_iload_n ii_ho_refusalOfPlace_18 rfl ?_
    refine sm_aald ii_ho_refusalOfPlace_19 (fun r3 => ?_)
    refine sm_getIs ii_ho_refusalOfPlace_20 fl_ho_78 (fun x4 => ?_)
    refine sm_csI [.int a3, .int x4] [] rfl ii_ho_refusalOfPlace_23 ml_ho_81 (mf_ho_isWithin) (mv_ho_isWithin) (Nat.le_of_ble_eq_true rfl) rfl rfl rfl (mc_ho_isWithin (a3) (x4) w2) (fun x5 w6 => ?_)
    refine sm_if_eq 33 ii_ho_refusalOfPlace_26 (by decide) ?_ ?_
    · refine sm_aload_n ii_ho_refusalOfPlace_33 rfl ?_
      refine sm_getR 60 ii_ho_refusalOfPlace_34 fl_ho_54 (k := 0) rfl ?_
      refine sm_iconst (2 : Int32) ii_ho_refusalOfPlace_37 (by decide) ?_
      refine sm_cvI [.int (2 : Int32)] [] rfl ii_ho_refusalOfPlace_38 ml_ho_85 (mf_td_refuse) (mv_td_refuse) (Nat.le_of_ble_eq_true rfl) rfl 3 rfl rfl rfl rfl (mc_td_refuse ((2 : Int32)) w6) (fun x7 w8 => ?_)
      exact sm_iret ii_ho_refusalOfPlace_41 rfl
    · refine sm_iconst (0 : Int32) ii_ho_refusalOfPlace_29 (by decide) ?_
      refine sm_goto 41 ii_ho_refusalOfPlace_30 (by decide) ?_
      exact sm_iret ii_ho_refusalOfPlace_41 rfl
  · refine sm_iload ii_ho_refusalOfPlace_13 rfl ?_
    exact sm_iret ii_ho_refusalOfPlace_15 rfl
set_option maxHeartbeats 4000000 in
set_option maxRecDepth 100000 in
theorem mc_ho_refusalOfPlace (a1 : Nat) (a2 : Int32) (a3 : Int32) (w : sm_Mem) : sm_MC mi_ho_refusalOfPlace [.ref 0, .ref a1, .int a2, .int a3] w (ff_ho_refusalOfPlace a1 a2 a3 w) := sm_MC_of (0, fun _ => 0) (by decide +kernel) (by decide) rfl (Nat.le_of_ble_eq_true rfl) (ss_ho_refusalOfPlace_0 a1 a2 a3 w)
abbrev mi_ho_lay : sm_MI := (⟨"HerOrders", "lay", "(III)I"⟩, prog_1_method_3_code, 5, (some .int), 4)
set_option maxRecDepth 100000 in
theorem mf_ho_lay : sm_MF mi_ho_lay 3 := ⟨List.mem_of_getElem? (i := 410) (by decide +kernel), List.mem_of_getElem? (i := 124) (by decide +kernel), ⟨by decide, by decide⟩, by decide +kernel⟩
set_option maxRecDepth 100000 in
theorem mv_ho_lay : sm_MFV mi_ho_lay := ⟨List.mem_of_getElem? (i := 408) (by decide +kernel), List.mem_of_getElem? (i := 409) (by decide +kernel)⟩
set_option maxRecDepth 100000 in
theorem ii_ho_lay_0 : sm_D prog_1_method_3_code 0 1 1 (.aload_n 0) := ⟨by decide +kernel, rfl⟩
set_option maxRecDepth 100000 in
theorem ii_ho_lay_1 : sm_D prog_1_method_3_code 1 1 2 (.aload_n 0) := ⟨by decide +kernel, rfl⟩
set_option maxRecDepth 100000 in
theorem ii_ho_lay_2 : sm_D prog_1_method_3_code 2 3 5 (.getfield 11) := ⟨by decide +kernel, rfl⟩
set_option maxRecDepth 100000 in
theorem ii_ho_lay_5 : sm_D prog_1_method_3_code 5 1 6 (.iload_n 1) := ⟨by decide +kernel, rfl⟩
set_option maxRecDepth 100000 in
theorem ii_ho_lay_6 : sm_D prog_1_method_3_code 6 1 7 (.iload_n 2) := ⟨by decide +kernel, rfl⟩
set_option maxRecDepth 100000 in
theorem ii_ho_lay_7 : sm_D prog_1_method_3_code 7 3 10 (.invokevirtual 62) := ⟨by decide +kernel, rfl⟩
set_option maxRecDepth 100000 in
theorem ii_ho_lay_10 : sm_D prog_1_method_3_code 10 2 12 (.istore 4) := ⟨by decide +kernel, rfl⟩
set_option maxRecDepth 100000 in
theorem ii_ho_lay_12 : sm_D prog_1_method_3_code 12 2 14 (.iload 4) := ⟨by decide +kernel, rfl⟩
set_option maxRecDepth 100000 in
theorem ii_ho_lay_14 : sm_D prog_1_method_3_code 14 3 17 (.ifCond .eq 6) := ⟨by decide +kernel, rfl⟩
set_option maxRecDepth 100000 in
theorem ii_ho_lay_17 : sm_D prog_1_method_3_code 17 2 19 (.iload 4) := ⟨by decide +kernel, rfl⟩
set_option maxRecDepth 100000 in
theorem ii_ho_lay_19 : sm_D prog_1_method_3_code 19 1 20 (.ireturn) := ⟨by decide +kernel, rfl⟩
set_option maxRecDepth 100000 in
theorem ii_ho_lay_20 : sm_D prog_1_method_3_code 20 1 21 (.aload_n 0) := ⟨by decide +kernel, rfl⟩
set_option maxRecDepth 100000 in
theorem ii_ho_lay_21 : sm_D prog_1_method_3_code 21 3 24 (.getfield 54) := ⟨by decide +kernel, rfl⟩
set_option maxRecDepth 100000 in
theorem ii_ho_lay_24 : sm_D prog_1_method_3_code 24 1 25 (.aload_n 0) := ⟨by decide +kernel, rfl⟩
set_option maxRecDepth 100000 in
theorem ii_ho_lay_25 : sm_D prog_1_method_3_code 25 3 28 (.getfield 11) := ⟨by decide +kernel, rfl⟩
set_option maxRecDepth 100000 in
theorem ii_ho_lay_28 : sm_D prog_1_method_3_code 28 1 29 (.iload_n 1) := ⟨by decide +kernel, rfl⟩
set_option maxRecDepth 100000 in
theorem ii_ho_lay_29 : sm_D prog_1_method_3_code 29 1 30 (.aaload) := ⟨by decide +kernel, rfl⟩
set_option maxRecDepth 100000 in
theorem ii_ho_lay_30 : sm_D prog_1_method_3_code 30 3 33 (.getfield 66) := ⟨by decide +kernel, rfl⟩
set_option maxRecDepth 100000 in
theorem ii_ho_lay_33 : sm_D prog_1_method_3_code 33 1 34 (.iload_n 2) := ⟨by decide +kernel, rfl⟩
set_option maxRecDepth 100000 in
theorem ii_ho_lay_34 : sm_D prog_1_method_3_code 34 1 35 (.iaload) := ⟨by decide +kernel, rfl⟩
set_option maxRecDepth 100000 in
theorem ii_ho_lay_35 : sm_D prog_1_method_3_code 35 3 38 (.putfield 70) := ⟨by decide +kernel, rfl⟩
set_option maxRecDepth 100000 in
theorem ii_ho_lay_38 : sm_D prog_1_method_3_code 38 1 39 (.aload_n 0) := ⟨by decide +kernel, rfl⟩
set_option maxRecDepth 100000 in
theorem ii_ho_lay_39 : sm_D prog_1_method_3_code 39 3 42 (.getfield 11) := ⟨by decide +kernel, rfl⟩
set_option maxRecDepth 100000 in
theorem ii_ho_lay_42 : sm_D prog_1_method_3_code 42 1 43 (.iload_n 1) := ⟨by decide +kernel, rfl⟩
set_option maxRecDepth 100000 in
theorem ii_ho_lay_43 : sm_D prog_1_method_3_code 43 1 44 (.aaload) := ⟨by decide +kernel, rfl⟩
set_option maxRecDepth 100000 in
theorem ii_ho_lay_44 : sm_D prog_1_method_3_code 44 3 47 (.getfield 66) := ⟨by decide +kernel, rfl⟩
set_option maxRecDepth 100000 in
theorem ii_ho_lay_47 : sm_D prog_1_method_3_code 47 1 48 (.iload_n 2) := ⟨by decide +kernel, rfl⟩
set_option maxRecDepth 100000 in
theorem ii_ho_lay_48 : sm_D prog_1_method_3_code 48 1 49 (.iload_n 3) := ⟨by decide +kernel, rfl⟩
set_option maxRecDepth 100000 in
theorem ii_ho_lay_49 : sm_D prog_1_method_3_code 49 1 50 (.iastore) := ⟨by decide +kernel, rfl⟩
set_option maxRecDepth 100000 in
theorem ii_ho_lay_50 : sm_D prog_1_method_3_code 50 1 51 (.iconst 1) := ⟨by decide +kernel, rfl⟩
set_option maxRecDepth 100000 in
theorem ii_ho_lay_51 : sm_D prog_1_method_3_code 51 1 52 (.ireturn) := ⟨by decide +kernel, rfl⟩
noncomputable def ff_ho_lay  (a1 : Int32) (a2 : Int32) (a3 : Int32) (w : sm_Mem) : sm_R := (sm_cI (ff_ho_refusalOfPlace (1) (a1) (a2) w) fun x1 w2 => (if x1 = (0 : Int32) then (Option.bind (sm_rr 1 a1) fun r3 => (Option.bind (sm_fk r3 2 0 2) fun r4 => (Option.bind (sm_rds w2 r4 a2) fun x5 => (sm_let (sm_wI w2 60 0 x5) fun w6 => (Option.bind (sm_rr 1 a1) fun r7 => (Option.bind (sm_fk r7 2 0 2) fun r8 => (Option.bind (sm_wrs w6 r8 a2 a3) fun w9 => (some (.int (1 : Int32), w9))))))))) else (some (.int x1, w2))))
set_option maxHeartbeats 4000000 in
set_option maxRecDepth 100000 in
theorem ss_ho_lay_0 {E : Nat × (Nat → Int32)}  (a1 : Int32) (a2 : Int32) (a3 : Int32) (w : sm_Mem) : sm_Sim E (mi_ho_lay) 0 [some (.ref 0), some (.int a1), some (.int a2), some (.int a3), none] [] w (ff_ho_lay  a1 a2 a3 w) := by
  unfold ff_ho_lay
  refine sm_aload_n ii_ho_lay_0 rfl ?_
  refine sm_aload_n ii_ho_lay_1 rfl ?_
  refine sm_getR 1 ii_ho_lay_2 fl_ho_11 (k := 0) rfl ?_
  refine sm_iload_n ii_ho_lay_5 rfl ?_
  refine sm_iload_n ii_ho_lay_6 rfl ?_
  refine sm_cvI [.ref 1, .int a1, .int a2] [] rfl ii_ho_lay_7 ml_ho_62 (mf_ho_refusalOfPlace) (mv_ho_refusalOfPlace) (Nat.le_of_ble_eq_true rfl) rfl 6 rfl rfl rfl rfl (mc_ho_refusalOfPlace (1) (a1) (a2) w) (fun x1 w2 => ?_)
  refine sm_istore [some (.ref 0), some (.int a1), some (.int a2), some (.int a3), some (.int x1)] ii_ho_lay_10 rfl rfl ?_
  refine sm_iload ii_ho_lay_12 rfl ?_
  refine sm_if_eq 20 ii_ho_lay_14 (by decide) ?_ ?_
  · refine sm_aload_n ii_ho_lay_20 rfl ?_
    refine sm_getR 60 ii_ho_lay_21 fl_ho_54 (k := 0) rfl ?_
    refine sm_aload_n ii_ho_lay_24 rfl ?_
    refine sm_getR 1 ii_ho_lay_25 fl_ho_11 (k := 0) rfl ?_
    refine sm_iload_n ii_ho_lay_28 rfl ?_
    refine sm_aald ii_ho_lay_29 (fun r3 => ?_)
    refine sm_getRs ii_ho_lay_30 fl_ho_66 (fun r4 => ?_)
    refine sm_iload_n ii_ho_lay_33 rfl ?_
    refine sm_ialds ii_ho_lay_34 (fun x5 => ?_)
    refine sm_putI ii_ho_lay_35 fp_ho_70 (k := 60) rfl (fun w6 => ?_)
    refine sm_aload_n ii_ho_lay_38 rfl ?_
    refine sm_getR 1 ii_ho_lay_39 fl_ho_11 (k := 0) rfl ?_
    refine sm_iload_n ii_ho_lay_42 rfl ?_
    refine sm_aald ii_ho_lay_43 (fun r7 => ?_)
    refine sm_getRs ii_ho_lay_44 fl_ho_66 (fun r8 => ?_)
    refine sm_iload_n ii_ho_lay_47 rfl ?_
    refine sm_iload_n ii_ho_lay_48 rfl ?_
    refine sm_iasts ii_ho_lay_49 (fun w9 => ?_)
    refine sm_iconst (1 : Int32) ii_ho_lay_50 (by decide) ?_
    exact sm_iret ii_ho_lay_51 rfl
  · refine sm_iload ii_ho_lay_17 rfl ?_
    exact sm_iret ii_ho_lay_19 rfl
set_option maxHeartbeats 4000000 in
set_option maxRecDepth 100000 in
theorem mc_ho_lay (a1 : Int32) (a2 : Int32) (a3 : Int32) (w : sm_Mem) : sm_MC mi_ho_lay [.ref 0, .int a1, .int a2, .int a3] w (ff_ho_lay a1 a2 a3 w) := sm_MC_of (0, fun _ => 0) (by decide +kernel) (by decide) rfl (Nat.le_of_ble_eq_true rfl) (ss_ho_lay_0 a1 a2 a3 w)
abbrev mi_mo_refused : sm_MI := (⟨"HerOrdersModel", "refused", "(II)I"⟩, prog_9_method_11_code, 3, (some .int), 3)
set_option maxRecDepth 100000 in
theorem mf_mo_refused : sm_MF mi_mo_refused 2 := ⟨List.mem_of_getElem? (i := 1059) (by decide +kernel), List.mem_of_getElem? (i := 132) (by decide +kernel), ⟨by decide, by decide⟩, by decide +kernel⟩
set_option maxRecDepth 100000 in
theorem mv_mo_refused : sm_MFV mi_mo_refused := ⟨List.mem_of_getElem? (i := 1058) (by decide +kernel), List.mem_of_getElem? (i := 75) (by decide +kernel)⟩
set_option maxRecDepth 100000 in
theorem ii_mo_refused_0 : sm_D prog_9_method_11_code 0 1 1 (.iload_n 1) := ⟨by decide +kernel, rfl⟩
set_option maxRecDepth 100000 in
theorem ii_mo_refused_1 : sm_D prog_9_method_11_code 1 3 4 (.invokestatic 77) := ⟨by decide +kernel, rfl⟩
set_option maxRecDepth 100000 in
theorem ii_mo_refused_4 : sm_D prog_9_method_11_code 4 3 7 (.ifCond .ne 7) := ⟨by decide +kernel, rfl⟩
set_option maxRecDepth 100000 in
theorem ii_mo_refused_7 : sm_D prog_9_method_11_code 7 1 8 (.iconst (-1)) := ⟨by decide +kernel, rfl⟩
set_option maxRecDepth 100000 in
theorem ii_mo_refused_8 : sm_D prog_9_method_11_code 8 3 11 (.goto 47) := ⟨by decide +kernel, rfl⟩
set_option maxRecDepth 100000 in
theorem ii_mo_refused_11 : sm_D prog_9_method_11_code 11 1 12 (.aload_n 0) := ⟨by decide +kernel, rfl⟩
set_option maxRecDepth 100000 in
theorem ii_mo_refused_12 : sm_D prog_9_method_11_code 12 3 15 (.getfield 22) := ⟨by decide +kernel, rfl⟩
set_option maxRecDepth 100000 in
theorem ii_mo_refused_15 : sm_D prog_9_method_11_code 15 1 16 (.iload_n 1) := ⟨by decide +kernel, rfl⟩
set_option maxRecDepth 100000 in
theorem ii_mo_refused_16 : sm_D prog_9_method_11_code 16 1 17 (.iaload) := ⟨by decide +kernel, rfl⟩
set_option maxRecDepth 100000 in
theorem ii_mo_refused_17 : sm_D prog_9_method_11_code 17 3 20 (.ifCond .ge 11) := ⟨by decide +kernel, rfl⟩
set_option maxRecDepth 100000 in
theorem ii_mo_refused_20 : sm_D prog_9_method_11_code 20 1 21 (.aload_n 0) := ⟨by decide +kernel, rfl⟩
set_option maxRecDepth 100000 in
theorem ii_mo_refused_21 : sm_D prog_9_method_11_code 21 1 22 (.iconst 1) := ⟨by decide +kernel, rfl⟩
set_option maxRecDepth 100000 in
theorem ii_mo_refused_22 : sm_D prog_9_method_11_code 22 3 25 (.invokevirtual 81) := ⟨by decide +kernel, rfl⟩
set_option maxRecDepth 100000 in
theorem ii_mo_refused_25 : sm_D prog_9_method_11_code 25 3 28 (.goto 30) := ⟨by decide +kernel, rfl⟩
set_option maxRecDepth 100000 in
theorem ii_mo_refused_28 : sm_D prog_9_method_11_code 28 1 29 (.iload_n 2) := ⟨by decide +kernel, rfl⟩
set_option maxRecDepth 100000 in
theorem ii_mo_refused_29 : sm_D prog_9_method_11_code 29 1 30 (.i2l) := ⟨by decide +kernel, rfl⟩
set_option maxRecDepth 100000 in
theorem ii_mo_refused_30 : sm_D prog_9_method_11_code 30 1 31 (.lconst 0) := ⟨by decide +kernel, rfl⟩
set_option maxRecDepth 100000 in
theorem ii_mo_refused_31 : sm_D prog_9_method_11_code 31 1 32 (.aload_n 0) := ⟨by decide +kernel, rfl⟩
set_option maxRecDepth 100000 in
theorem ii_mo_refused_32 : sm_D prog_9_method_11_code 32 3 35 (.getfield 22) := ⟨by decide +kernel, rfl⟩
set_option maxRecDepth 100000 in
theorem ii_mo_refused_35 : sm_D prog_9_method_11_code 35 1 36 (.iload_n 1) := ⟨by decide +kernel, rfl⟩
set_option maxRecDepth 100000 in
theorem ii_mo_refused_36 : sm_D prog_9_method_11_code 36 1 37 (.iaload) := ⟨by decide +kernel, rfl⟩
set_option maxRecDepth 100000 in
theorem ii_mo_refused_37 : sm_D prog_9_method_11_code 37 1 38 (.iconst 1) := ⟨by decide +kernel, rfl⟩
set_option maxRecDepth 100000 in
theorem ii_mo_refused_38 : sm_D prog_9_method_11_code 38 1 39 (.isub) := ⟨by decide +kernel, rfl⟩
set_option maxRecDepth 100000 in
theorem ii_mo_refused_39 : sm_D prog_9_method_11_code 39 1 40 (.i2l) := ⟨by decide +kernel, rfl⟩
set_option maxRecDepth 100000 in
theorem ii_mo_refused_40 : sm_D prog_9_method_11_code 40 3 43 (.invokestatic 71) := ⟨by decide +kernel, rfl⟩
set_option maxRecDepth 100000 in
theorem ii_mo_refused_43 : sm_D prog_9_method_11_code 43 3 46 (.ifCond .eq 7) := ⟨by decide +kernel, rfl⟩
set_option maxRecDepth 100000 in
theorem ii_mo_refused_46 : sm_D prog_9_method_11_code 46 1 47 (.iconst 0) := ⟨by decide +kernel, rfl⟩
set_option maxRecDepth 100000 in
theorem ii_mo_refused_47 : sm_D prog_9_method_11_code 47 3 50 (.goto 8) := ⟨by decide +kernel, rfl⟩
set_option maxRecDepth 100000 in
theorem ii_mo_refused_50 : sm_D prog_9_method_11_code 50 1 51 (.aload_n 0) := ⟨by decide +kernel, rfl⟩
set_option maxRecDepth 100000 in
theorem ii_mo_refused_51 : sm_D prog_9_method_11_code 51 1 52 (.iconst 2) := ⟨by decide +kernel, rfl⟩
set_option maxRecDepth 100000 in
theorem ii_mo_refused_52 : sm_D prog_9_method_11_code 52 3 55 (.invokevirtual 81) := ⟨by decide +kernel, rfl⟩
set_option maxRecDepth 100000 in
theorem ii_mo_refused_55 : sm_D prog_9_method_11_code 55 1 56 (.ireturn) := ⟨by decide +kernel, rfl⟩
noncomputable def ff_mo_refused  (a1 : Int32) (a2 : Int32) (w : sm_Mem) : sm_R := (sm_cI (ff_mo_isRow (a1) w) fun x1 w2 => (if x1 = (0 : Int32) then (some (.int (-1 : Int32), w2)) else (Option.bind (sm_rd w2 67 6 a1) fun x3 => (if (0 : Int32) ≤ x3 then (Option.bind (sm_rd w2 67 6 a1) fun x4 => (sm_cI (ff_mo_in ((Int32.toInt64 a2)) ((0 : Int64)) ((Int32.toInt64 (x4 - (1 : Int32)))) w2) fun x5 w6 => (if x5 = (0 : Int32) then (sm_cI (ff_mo_find ((2 : Int32)) w6) fun x7 w8 => (some (.int x7, w8))) else (some (.int (0 : Int32), w6))))) else (sm_cI (ff_mo_find ((1 : Int32)) w2) fun x9 w10 => (some (.int x9, w10)))))))
set_option maxHeartbeats 4000000 in
set_option maxRecDepth 100000 in
theorem ss_mo_refused_0 {E : Nat × (Nat → Int32)}  (a1 : Int32) (a2 : Int32) (w : sm_Mem) : sm_Sim E (mi_mo_refused) 0 [some (.ref 62), some (.int a1), some (.int a2)] [] w (ff_mo_refused  a1 a2 w) := by
  unfold ff_mo_refused
  refine sm_iload_n ii_mo_refused_0 rfl ?_
  refine sm_csI [.int a1] [] rfl ii_mo_refused_1 ml_mo_77 (mf_mo_isRow) (mv_mo_isRow) (Nat.le_of_ble_eq_true rfl) rfl rfl rfl (mc_mo_isRow (a1) w) (fun x1 w2 => ?_)
  refine sm_if_ne 11 ii_mo_refused_4 (by decide) ?_ ?_
  · refine sm_iconst (-1 : Int32) ii_mo_refused_7 (by decide) ?_
    refine sm_goto 55 ii_mo_refused_8 (by decide) ?_
    exact sm_iret ii_mo_refused_55 rfl
  · refine sm_aload_n ii_mo_refused_11 rfl ?_
    refine sm_getR 67 ii_mo_refused_12 fl_mo_22 (k := 62) rfl ?_
    refine sm_iload_n ii_mo_refused_15 rfl ?_
    refine sm_iald ii_mo_refused_16 (k := 67) rfl (fun x3 => ?_)
    refine sm_if_ge 28 ii_mo_refused_17 (by decide) ?_ ?_
    · refine sm_iload_n ii_mo_refused_28 rfl ?_
      refine sm_i2l ii_mo_refused_29 ?_
      refine sm_lconst (0 : Int64) ii_mo_refused_30 (by decide) ?_
      refine sm_aload_n ii_mo_refused_31 rfl ?_
      refine sm_getR 67 ii_mo_refused_32 fl_mo_22 (k := 62) rfl ?_
      refine sm_iload_n ii_mo_refused_35 rfl ?_
      refine sm_iald ii_mo_refused_36 (k := 67) rfl (fun x4 => ?_)
      refine sm_iconst (1 : Int32) ii_mo_refused_37 (by decide) ?_
      refine sm_isub ii_mo_refused_38 ?_
      refine sm_i2l ii_mo_refused_39 ?_
      refine sm_csI [.long (Int32.toInt64 a2), .long (0 : Int64), .long (Int32.toInt64 (x4 - (1 : Int32)))] [] rfl ii_mo_refused_40 ml_mo_71 (mf_mo_in) (mv_mo_in) (Nat.le_of_ble_eq_true rfl) rfl rfl rfl (mc_mo_in ((Int32.toInt64 a2)) ((0 : Int64)) ((Int32.toInt64 (x4 - (1 : Int32)))) w2) (fun x5 w6 => ?_)
      refine sm_if_eq 50 ii_mo_refused_43 (by decide) ?_ ?_
      · refine sm_aload_n ii_mo_refused_50 rfl ?_
        refine sm_iconst (2 : Int32) ii_mo_refused_51 (by decide) ?_
        refine sm_cvI [.int (2 : Int32)] [] rfl ii_mo_refused_52 ml_mo_81 (mf_mo_find) (mv_mo_find) (Nat.le_of_ble_eq_true rfl) rfl 7 rfl rfl rfl rfl (mc_mo_find ((2 : Int32)) w6) (fun x7 w8 => ?_)
        exact sm_iret ii_mo_refused_55 rfl
      · refine sm_iconst (0 : Int32) ii_mo_refused_46 (by decide) ?_
        refine sm_goto 55 ii_mo_refused_47 (by decide) ?_
        exact sm_iret ii_mo_refused_55 rfl
    · refine sm_aload_n ii_mo_refused_20 rfl ?_
      refine sm_iconst (1 : Int32) ii_mo_refused_21 (by decide) ?_
      refine sm_cvI [.int (1 : Int32)] [] rfl ii_mo_refused_22 ml_mo_81 (mf_mo_find) (mv_mo_find) (Nat.le_of_ble_eq_true rfl) rfl 7 rfl rfl rfl rfl (mc_mo_find ((1 : Int32)) w2) (fun x9 w10 => ?_)
      refine sm_goto 55 ii_mo_refused_25 (by decide) ?_
      exact sm_iret ii_mo_refused_55 rfl
set_option maxHeartbeats 4000000 in
set_option maxRecDepth 100000 in
theorem mc_mo_refused (a1 : Int32) (a2 : Int32) (w : sm_Mem) : sm_MC mi_mo_refused [.ref 62, .int a1, .int a2] w (ff_mo_refused a1 a2 w) := sm_MC_of (0, fun _ => 0) (by decide +kernel) (by decide) rfl (Nat.le_of_ble_eq_true rfl) (ss_mo_refused_0 a1 a2 w)
abbrev mi_mo_tell : sm_MI := (⟨"HerOrdersModel", "tell", "(I)I"⟩, prog_9_method_6_code, 2, (some .int), 1)
set_option maxRecDepth 100000 in
theorem mf_mo_tell : sm_MF mi_mo_tell 1 := ⟨List.mem_of_getElem? (i := 1063) (by decide +kernel), List.mem_of_getElem? (i := 132) (by decide +kernel), ⟨by decide, by decide⟩, by decide +kernel⟩
set_option maxRecDepth 100000 in
theorem mv_mo_tell : sm_MFV mi_mo_tell := ⟨List.mem_of_getElem? (i := 1062) (by decide +kernel), List.mem_of_getElem? (i := 76) (by decide +kernel)⟩
set_option maxRecDepth 100000 in
theorem ii_mo_tell_0 : sm_D prog_9_method_6_code 0 1 1 (.aload_n 0) := ⟨by decide +kernel, rfl⟩
set_option maxRecDepth 100000 in
theorem ii_mo_tell_1 : sm_D prog_9_method_6_code 1 1 2 (.iload_n 1) := ⟨by decide +kernel, rfl⟩
set_option maxRecDepth 100000 in
theorem ii_mo_tell_2 : sm_D prog_9_method_6_code 2 3 5 (.putfield 66) := ⟨by decide +kernel, rfl⟩
set_option maxRecDepth 100000 in
theorem ii_mo_tell_5 : sm_D prog_9_method_6_code 5 1 6 (.iconst 1) := ⟨by decide +kernel, rfl⟩
set_option maxRecDepth 100000 in
theorem ii_mo_tell_6 : sm_D prog_9_method_6_code 6 1 7 (.ireturn) := ⟨by decide +kernel, rfl⟩
noncomputable def ff_mo_tell  (a1 : Int32) (w : sm_Mem) : sm_R := (sm_let (sm_wI w 62 9 a1) fun w1 => (some (.int (1 : Int32), w1)))
set_option maxHeartbeats 4000000 in
set_option maxRecDepth 100000 in
theorem ss_mo_tell_0 {E : Nat × (Nat → Int32)}  (a1 : Int32) (w : sm_Mem) : sm_Sim E (mi_mo_tell) 0 [some (.ref 62), some (.int a1)] [] w (ff_mo_tell  a1 w) := by
  unfold ff_mo_tell
  refine sm_aload_n ii_mo_tell_0 rfl ?_
  refine sm_iload_n ii_mo_tell_1 rfl ?_
  refine sm_putI ii_mo_tell_2 fp_mo_66 (k := 62) rfl (fun w1 => ?_)
  refine sm_iconst (1 : Int32) ii_mo_tell_5 (by decide) ?_
  exact sm_iret ii_mo_tell_6 rfl
set_option maxHeartbeats 4000000 in
set_option maxRecDepth 100000 in
theorem mc_mo_tell (a1 : Int32) (w : sm_Mem) : sm_MC mi_mo_tell [.ref 62, .int a1] w (ff_mo_tell a1 w) := sm_MC_of (0, fun _ => 0) (by decide +kernel) (by decide) rfl (Nat.le_of_ble_eq_true rfl) (ss_mo_tell_0 a1 w)
abbrev mi_mo_lay : sm_MI := (⟨"HerOrdersModel", "lay", "(III)I"⟩, prog_9_method_12_code, 6, (some .int), 4)
set_option maxRecDepth 100000 in
theorem mf_mo_lay : sm_MF mi_mo_lay 3 := ⟨List.mem_of_getElem? (i := 1055) (by decide +kernel), List.mem_of_getElem? (i := 132) (by decide +kernel), ⟨by decide, by decide⟩, by decide +kernel⟩
set_option maxRecDepth 100000 in
theorem mv_mo_lay : sm_MFV mi_mo_lay := ⟨List.mem_of_getElem? (i := 1053) (by decide +kernel), List.mem_of_getElem? (i := 1054) (by decide +kernel)⟩
set_option maxRecDepth 100000 in
theorem ii_mo_lay_0 : sm_D prog_9_method_12_code 0 1 1 (.aload_n 0) := ⟨by decide +kernel, rfl⟩
set_option maxRecDepth 100000 in
theorem ii_mo_lay_1 : sm_D prog_9_method_12_code 1 1 2 (.iload_n 1) := ⟨by decide +kernel, rfl⟩
set_option maxRecDepth 100000 in
theorem ii_mo_lay_2 : sm_D prog_9_method_12_code 2 1 3 (.iload_n 2) := ⟨by decide +kernel, rfl⟩
set_option maxRecDepth 100000 in
theorem ii_mo_lay_3 : sm_D prog_9_method_12_code 3 3 6 (.invokevirtual 89) := ⟨by decide +kernel, rfl⟩
set_option maxRecDepth 100000 in
theorem ii_mo_lay_6 : sm_D prog_9_method_12_code 6 2 8 (.istore 4) := ⟨by decide +kernel, rfl⟩
set_option maxRecDepth 100000 in
theorem ii_mo_lay_8 : sm_D prog_9_method_12_code 8 2 10 (.iload 4) := ⟨by decide +kernel, rfl⟩
set_option maxRecDepth 100000 in
theorem ii_mo_lay_10 : sm_D prog_9_method_12_code 10 3 13 (.ifCond .eq 6) := ⟨by decide +kernel, rfl⟩
set_option maxRecDepth 100000 in
theorem ii_mo_lay_13 : sm_D prog_9_method_12_code 13 2 15 (.iload 4) := ⟨by decide +kernel, rfl⟩
set_option maxRecDepth 100000 in
theorem ii_mo_lay_15 : sm_D prog_9_method_12_code 15 1 16 (.ireturn) := ⟨by decide +kernel, rfl⟩
set_option maxRecDepth 100000 in
theorem ii_mo_lay_16 : sm_D prog_9_method_12_code 16 1 17 (.aload_n 0) := ⟨by decide +kernel, rfl⟩
set_option maxRecDepth 100000 in
theorem ii_mo_lay_17 : sm_D prog_9_method_12_code 17 3 20 (.getfield 25) := ⟨by decide +kernel, rfl⟩
set_option maxRecDepth 100000 in
theorem ii_mo_lay_20 : sm_D prog_9_method_12_code 20 2 22 (.bipush 40) := ⟨by decide +kernel, rfl⟩
set_option maxRecDepth 100000 in
theorem ii_mo_lay_22 : sm_D prog_9_method_12_code 22 1 23 (.iload_n 1) := ⟨by decide +kernel, rfl⟩
set_option maxRecDepth 100000 in
theorem ii_mo_lay_23 : sm_D prog_9_method_12_code 23 1 24 (.imul) := ⟨by decide +kernel, rfl⟩
set_option maxRecDepth 100000 in
theorem ii_mo_lay_24 : sm_D prog_9_method_12_code 24 1 25 (.iload_n 2) := ⟨by decide +kernel, rfl⟩
set_option maxRecDepth 100000 in
theorem ii_mo_lay_25 : sm_D prog_9_method_12_code 25 1 26 (.iadd) := ⟨by decide +kernel, rfl⟩
set_option maxRecDepth 100000 in
theorem ii_mo_lay_26 : sm_D prog_9_method_12_code 26 1 27 (.iaload) := ⟨by decide +kernel, rfl⟩
set_option maxRecDepth 100000 in
theorem ii_mo_lay_27 : sm_D prog_9_method_12_code 27 2 29 (.istore 5) := ⟨by decide +kernel, rfl⟩
set_option maxRecDepth 100000 in
theorem ii_mo_lay_29 : sm_D prog_9_method_12_code 29 1 30 (.aload_n 0) := ⟨by decide +kernel, rfl⟩
set_option maxRecDepth 100000 in
theorem ii_mo_lay_30 : sm_D prog_9_method_12_code 30 3 33 (.getfield 25) := ⟨by decide +kernel, rfl⟩
set_option maxRecDepth 100000 in
theorem ii_mo_lay_33 : sm_D prog_9_method_12_code 33 2 35 (.bipush 40) := ⟨by decide +kernel, rfl⟩
set_option maxRecDepth 100000 in
theorem ii_mo_lay_35 : sm_D prog_9_method_12_code 35 1 36 (.iload_n 1) := ⟨by decide +kernel, rfl⟩
set_option maxRecDepth 100000 in
theorem ii_mo_lay_36 : sm_D prog_9_method_12_code 36 1 37 (.imul) := ⟨by decide +kernel, rfl⟩
set_option maxRecDepth 100000 in
theorem ii_mo_lay_37 : sm_D prog_9_method_12_code 37 1 38 (.iload_n 2) := ⟨by decide +kernel, rfl⟩
set_option maxRecDepth 100000 in
theorem ii_mo_lay_38 : sm_D prog_9_method_12_code 38 1 39 (.iadd) := ⟨by decide +kernel, rfl⟩
set_option maxRecDepth 100000 in
theorem ii_mo_lay_39 : sm_D prog_9_method_12_code 39 1 40 (.iload_n 3) := ⟨by decide +kernel, rfl⟩
set_option maxRecDepth 100000 in
theorem ii_mo_lay_40 : sm_D prog_9_method_12_code 40 1 41 (.iastore) := ⟨by decide +kernel, rfl⟩
set_option maxRecDepth 100000 in
theorem ii_mo_lay_41 : sm_D prog_9_method_12_code 41 1 42 (.aload_n 0) := ⟨by decide +kernel, rfl⟩
set_option maxRecDepth 100000 in
theorem ii_mo_lay_42 : sm_D prog_9_method_12_code 42 2 44 (.iload 5) := ⟨by decide +kernel, rfl⟩
set_option maxRecDepth 100000 in
theorem ii_mo_lay_44 : sm_D prog_9_method_12_code 44 3 47 (.invokevirtual 93) := ⟨by decide +kernel, rfl⟩
set_option maxRecDepth 100000 in
theorem ii_mo_lay_47 : sm_D prog_9_method_12_code 47 1 48 (.ireturn) := ⟨by decide +kernel, rfl⟩
noncomputable def ff_mo_lay  (a1 : Int32) (a2 : Int32) (a3 : Int32) (w : sm_Mem) : sm_R := (sm_cI (ff_mo_refused (a1) (a2) w) fun x1 w2 => (if x1 = (0 : Int32) then (Option.bind (sm_rd w2 68 240 (((40 : Int32) * a1) + a2)) fun x3 => (Option.bind (sm_wr w2 68 240 (((40 : Int32) * a1) + a2) a3) fun w4 => (sm_cI (ff_mo_tell (x3) w4) fun x5 w6 => (some (.int x5, w6))))) else (some (.int x1, w2))))
set_option maxHeartbeats 4000000 in
set_option maxRecDepth 100000 in
theorem ss_mo_lay_0 {E : Nat × (Nat → Int32)}  (a1 : Int32) (a2 : Int32) (a3 : Int32) (w : sm_Mem) : sm_Sim E (mi_mo_lay) 0 [some (.ref 62), some (.int a1), some (.int a2), some (.int a3), none, none] [] w (ff_mo_lay  a1 a2 a3 w) := by
  unfold ff_mo_lay
  refine sm_aload_n ii_mo_lay_0 rfl ?_
  refine sm_iload_n ii_mo_lay_1 rfl ?_
  refine sm_iload_n ii_mo_lay_2 rfl ?_
  refine sm_cvI [.int a1, .int a2] [] rfl ii_mo_lay_3 ml_mo_89 (mf_mo_refused) (mv_mo_refused) (Nat.le_of_ble_eq_true rfl) rfl 7 rfl rfl rfl rfl (mc_mo_refused (a1) (a2) w) (fun x1 w2 => ?_)
  refine sm_istore [some (.ref 62), some (.int a1), some (.int a2), some (.int a3), some (.int x1), none] ii_mo_lay_6 rfl rfl ?_
  refine sm_iload ii_mo_lay_8 rfl ?_
  refine sm_if_eq 16 ii_mo_lay_10 (by decide) ?_ ?_
  · refine sm_aload_n ii_mo_lay_16 rfl ?_
    refine sm_getR 68 ii_mo_lay_17 fl_mo_25 (k := 62) rfl ?_
    refine sm_bipush (40 : Int32) ii_mo_lay_20 (by decide) ?_
    refine sm_iload_n ii_mo_lay_22 rfl ?_
    refine sm_imul ii_mo_lay_23 ?_
    refine sm_iload_n ii_mo_lay_24 rfl ?_
    refine sm_iadd ii_mo_lay_25 ?_
    refine sm_iald ii_mo_lay_26 (k := 68) rfl (fun x3 => ?_)
    refine sm_istore [some (.ref 62), some (.int a1), some (.int a2), some (.int a3), some (.int x1), some (.int x3)] ii_mo_lay_27 rfl rfl ?_
    refine sm_aload_n ii_mo_lay_29 rfl ?_
    refine sm_getR 68 ii_mo_lay_30 fl_mo_25 (k := 62) rfl ?_
    refine sm_bipush (40 : Int32) ii_mo_lay_33 (by decide) ?_
    refine sm_iload_n ii_mo_lay_35 rfl ?_
    refine sm_imul ii_mo_lay_36 ?_
    refine sm_iload_n ii_mo_lay_37 rfl ?_
    refine sm_iadd ii_mo_lay_38 ?_
    refine sm_iload_n ii_mo_lay_39 rfl ?_
    refine sm_iast ii_mo_lay_40 (k := 68) rfl (fun w4 => ?_)
    refine sm_aload_n ii_mo_lay_41 rfl ?_
    refine sm_iload ii_mo_lay_42 rfl ?_
    refine sm_cvI [.int x3] [] rfl ii_mo_lay_44 ml_mo_93 (mf_mo_tell) (mv_mo_tell) (Nat.le_of_ble_eq_true rfl) rfl 7 rfl rfl rfl rfl (mc_mo_tell (x3) w4) (fun x5 w6 => ?_)
    exact sm_iret ii_mo_lay_47 rfl
  · refine sm_iload ii_mo_lay_13 rfl ?_
    exact sm_iret ii_mo_lay_15 rfl
set_option maxHeartbeats 4000000 in
set_option maxRecDepth 100000 in
theorem mc_mo_lay (a1 : Int32) (a2 : Int32) (a3 : Int32) (w : sm_Mem) : sm_MC mi_mo_lay [.ref 62, .int a1, .int a2, .int a3] w (ff_mo_lay a1 a2 a3 w) := sm_MC_of (0, fun _ => 0) (by decide +kernel) (by decide) rfl (Nat.le_of_ble_eq_true rfl) (ss_mo_lay_0 a1 a2 a3 w)
abbrev mi_ho_at : sm_MI := (⟨"HerOrders", "at", "(II)I"⟩, prog_1_method_4_code, 4, (some .int), 4)
set_option maxRecDepth 100000 in
theorem mf_ho_at : sm_MF mi_ho_at 2 := ⟨List.mem_of_getElem? (i := 426) (by decide +kernel), List.mem_of_getElem? (i := 124) (by decide +kernel), ⟨by decide, by decide⟩, by decide +kernel⟩
set_option maxRecDepth 100000 in
theorem mv_ho_at : sm_MFV mi_ho_at := ⟨List.mem_of_getElem? (i := 424) (by decide +kernel), List.mem_of_getElem? (i := 425) (by decide +kernel)⟩
set_option maxRecDepth 100000 in
theorem ii_ho_at_0 : sm_D prog_1_method_4_code 0 1 1 (.aload_n 0) := ⟨by decide +kernel, rfl⟩
set_option maxRecDepth 100000 in
theorem ii_ho_at_1 : sm_D prog_1_method_4_code 1 1 2 (.aload_n 0) := ⟨by decide +kernel, rfl⟩
set_option maxRecDepth 100000 in
theorem ii_ho_at_2 : sm_D prog_1_method_4_code 2 3 5 (.getfield 11) := ⟨by decide +kernel, rfl⟩
set_option maxRecDepth 100000 in
theorem ii_ho_at_5 : sm_D prog_1_method_4_code 5 1 6 (.iload_n 1) := ⟨by decide +kernel, rfl⟩
set_option maxRecDepth 100000 in
theorem ii_ho_at_6 : sm_D prog_1_method_4_code 6 1 7 (.iload_n 2) := ⟨by decide +kernel, rfl⟩
set_option maxRecDepth 100000 in
theorem ii_ho_at_7 : sm_D prog_1_method_4_code 7 3 10 (.invokevirtual 62) := ⟨by decide +kernel, rfl⟩
set_option maxRecDepth 100000 in
theorem ii_ho_at_10 : sm_D prog_1_method_4_code 10 1 11 (.istore_n 3) := ⟨by decide +kernel, rfl⟩
set_option maxRecDepth 100000 in
theorem ii_ho_at_11 : sm_D prog_1_method_4_code 11 1 12 (.iload_n 3) := ⟨by decide +kernel, rfl⟩
set_option maxRecDepth 100000 in
theorem ii_ho_at_12 : sm_D prog_1_method_4_code 12 3 15 (.ifCond .eq 5) := ⟨by decide +kernel, rfl⟩
set_option maxRecDepth 100000 in
theorem ii_ho_at_15 : sm_D prog_1_method_4_code 15 1 16 (.iload_n 3) := ⟨by decide +kernel, rfl⟩
set_option maxRecDepth 100000 in
theorem ii_ho_at_16 : sm_D prog_1_method_4_code 16 1 17 (.ireturn) := ⟨by decide +kernel, rfl⟩
set_option maxRecDepth 100000 in
theorem ii_ho_at_17 : sm_D prog_1_method_4_code 17 1 18 (.aload_n 0) := ⟨by decide +kernel, rfl⟩
set_option maxRecDepth 100000 in
theorem ii_ho_at_18 : sm_D prog_1_method_4_code 18 3 21 (.getfield 54) := ⟨by decide +kernel, rfl⟩
set_option maxRecDepth 100000 in
theorem ii_ho_at_21 : sm_D prog_1_method_4_code 21 1 22 (.aload_n 0) := ⟨by decide +kernel, rfl⟩
set_option maxRecDepth 100000 in
theorem ii_ho_at_22 : sm_D prog_1_method_4_code 22 3 25 (.getfield 11) := ⟨by decide +kernel, rfl⟩
set_option maxRecDepth 100000 in
theorem ii_ho_at_25 : sm_D prog_1_method_4_code 25 1 26 (.iload_n 1) := ⟨by decide +kernel, rfl⟩
set_option maxRecDepth 100000 in
theorem ii_ho_at_26 : sm_D prog_1_method_4_code 26 1 27 (.aaload) := ⟨by decide +kernel, rfl⟩
set_option maxRecDepth 100000 in
theorem ii_ho_at_27 : sm_D prog_1_method_4_code 27 3 30 (.getfield 66) := ⟨by decide +kernel, rfl⟩
set_option maxRecDepth 100000 in
theorem ii_ho_at_30 : sm_D prog_1_method_4_code 30 1 31 (.iload_n 2) := ⟨by decide +kernel, rfl⟩
set_option maxRecDepth 100000 in
theorem ii_ho_at_31 : sm_D prog_1_method_4_code 31 1 32 (.iaload) := ⟨by decide +kernel, rfl⟩
set_option maxRecDepth 100000 in
theorem ii_ho_at_32 : sm_D prog_1_method_4_code 32 3 35 (.putfield 70) := ⟨by decide +kernel, rfl⟩
set_option maxRecDepth 100000 in
theorem ii_ho_at_35 : sm_D prog_1_method_4_code 35 1 36 (.iconst 1) := ⟨by decide +kernel, rfl⟩
set_option maxRecDepth 100000 in
theorem ii_ho_at_36 : sm_D prog_1_method_4_code 36 1 37 (.ireturn) := ⟨by decide +kernel, rfl⟩
noncomputable def ff_ho_at  (a1 : Int32) (a2 : Int32) (w : sm_Mem) : sm_R := (sm_cI (ff_ho_refusalOfPlace (1) (a1) (a2) w) fun x1 w2 => (if x1 = (0 : Int32) then (Option.bind (sm_rr 1 a1) fun r3 => (Option.bind (sm_fk r3 2 0 2) fun r4 => (Option.bind (sm_rds w2 r4 a2) fun x5 => (sm_let (sm_wI w2 60 0 x5) fun w6 => (some (.int (1 : Int32), w6)))))) else (some (.int x1, w2))))
set_option maxHeartbeats 4000000 in
set_option maxRecDepth 100000 in
theorem ss_ho_at_0 {E : Nat × (Nat → Int32)}  (a1 : Int32) (a2 : Int32) (w : sm_Mem) : sm_Sim E (mi_ho_at) 0 [some (.ref 0), some (.int a1), some (.int a2), none] [] w (ff_ho_at  a1 a2 w) := by
  unfold ff_ho_at
  refine sm_aload_n ii_ho_at_0 rfl ?_
  refine sm_aload_n ii_ho_at_1 rfl ?_
  refine sm_getR 1 ii_ho_at_2 fl_ho_11 (k := 0) rfl ?_
  refine sm_iload_n ii_ho_at_5 rfl ?_
  refine sm_iload_n ii_ho_at_6 rfl ?_
  refine sm_cvI [.ref 1, .int a1, .int a2] [] rfl ii_ho_at_7 ml_ho_62 (mf_ho_refusalOfPlace) (mv_ho_refusalOfPlace) (Nat.le_of_ble_eq_true rfl) rfl 6 rfl rfl rfl rfl (mc_ho_refusalOfPlace (1) (a1) (a2) w) (fun x1 w2 => ?_)
  refine sm_istore_n [some (.ref 0), some (.int a1), some (.int a2), some (.int x1)] ii_ho_at_10 rfl rfl ?_
  refine sm_iload_n ii_ho_at_11 rfl ?_
  refine sm_if_eq 17 ii_ho_at_12 (by decide) ?_ ?_
  · refine sm_aload_n ii_ho_at_17 rfl ?_
    refine sm_getR 60 ii_ho_at_18 fl_ho_54 (k := 0) rfl ?_
    refine sm_aload_n ii_ho_at_21 rfl ?_
    refine sm_getR 1 ii_ho_at_22 fl_ho_11 (k := 0) rfl ?_
    refine sm_iload_n ii_ho_at_25 rfl ?_
    refine sm_aald ii_ho_at_26 (fun r3 => ?_)
    refine sm_getRs ii_ho_at_27 fl_ho_66 (fun r4 => ?_)
    refine sm_iload_n ii_ho_at_30 rfl ?_
    refine sm_ialds ii_ho_at_31 (fun x5 => ?_)
    refine sm_putI ii_ho_at_32 fp_ho_70 (k := 60) rfl (fun w6 => ?_)
    refine sm_iconst (1 : Int32) ii_ho_at_35 (by decide) ?_
    exact sm_iret ii_ho_at_36 rfl
  · refine sm_iload_n ii_ho_at_15 rfl ?_
    exact sm_iret ii_ho_at_16 rfl
set_option maxHeartbeats 4000000 in
set_option maxRecDepth 100000 in
theorem mc_ho_at (a1 : Int32) (a2 : Int32) (w : sm_Mem) : sm_MC mi_ho_at [.ref 0, .int a1, .int a2] w (ff_ho_at a1 a2 w) := sm_MC_of (0, fun _ => 0) (by decide +kernel) (by decide) rfl (Nat.le_of_ble_eq_true rfl) (ss_ho_at_0 a1 a2 w)
abbrev mi_mo_at : sm_MI := (⟨"HerOrdersModel", "at", "(II)I"⟩, prog_9_method_13_code, 4, (some .int), 4)
set_option maxRecDepth 100000 in
theorem mf_mo_at : sm_MF mi_mo_at 2 := ⟨List.mem_of_getElem? (i := 1067) (by decide +kernel), List.mem_of_getElem? (i := 132) (by decide +kernel), ⟨by decide, by decide⟩, by decide +kernel⟩
set_option maxRecDepth 100000 in
theorem mv_mo_at : sm_MFV mi_mo_at := ⟨List.mem_of_getElem? (i := 1065) (by decide +kernel), List.mem_of_getElem? (i := 1066) (by decide +kernel)⟩
set_option maxRecDepth 100000 in
theorem ii_mo_at_0 : sm_D prog_9_method_13_code 0 1 1 (.aload_n 0) := ⟨by decide +kernel, rfl⟩
set_option maxRecDepth 100000 in
theorem ii_mo_at_1 : sm_D prog_9_method_13_code 1 1 2 (.iload_n 1) := ⟨by decide +kernel, rfl⟩
set_option maxRecDepth 100000 in
theorem ii_mo_at_2 : sm_D prog_9_method_13_code 2 1 3 (.iload_n 2) := ⟨by decide +kernel, rfl⟩
set_option maxRecDepth 100000 in
theorem ii_mo_at_3 : sm_D prog_9_method_13_code 3 3 6 (.invokevirtual 89) := ⟨by decide +kernel, rfl⟩
set_option maxRecDepth 100000 in
theorem ii_mo_at_6 : sm_D prog_9_method_13_code 6 1 7 (.istore_n 3) := ⟨by decide +kernel, rfl⟩
set_option maxRecDepth 100000 in
theorem ii_mo_at_7 : sm_D prog_9_method_13_code 7 1 8 (.iload_n 3) := ⟨by decide +kernel, rfl⟩
set_option maxRecDepth 100000 in
theorem ii_mo_at_8 : sm_D prog_9_method_13_code 8 3 11 (.ifCond .eq 7) := ⟨by decide +kernel, rfl⟩
set_option maxRecDepth 100000 in
theorem ii_mo_at_11 : sm_D prog_9_method_13_code 11 1 12 (.iload_n 3) := ⟨by decide +kernel, rfl⟩
set_option maxRecDepth 100000 in
theorem ii_mo_at_12 : sm_D prog_9_method_13_code 12 3 15 (.goto 18) := ⟨by decide +kernel, rfl⟩
set_option maxRecDepth 100000 in
theorem ii_mo_at_15 : sm_D prog_9_method_13_code 15 1 16 (.aload_n 0) := ⟨by decide +kernel, rfl⟩
set_option maxRecDepth 100000 in
theorem ii_mo_at_16 : sm_D prog_9_method_13_code 16 1 17 (.aload_n 0) := ⟨by decide +kernel, rfl⟩
set_option maxRecDepth 100000 in
theorem ii_mo_at_17 : sm_D prog_9_method_13_code 17 3 20 (.getfield 25) := ⟨by decide +kernel, rfl⟩
set_option maxRecDepth 100000 in
theorem ii_mo_at_20 : sm_D prog_9_method_13_code 20 2 22 (.bipush 40) := ⟨by decide +kernel, rfl⟩
set_option maxRecDepth 100000 in
theorem ii_mo_at_22 : sm_D prog_9_method_13_code 22 1 23 (.iload_n 1) := ⟨by decide +kernel, rfl⟩
set_option maxRecDepth 100000 in
theorem ii_mo_at_23 : sm_D prog_9_method_13_code 23 1 24 (.imul) := ⟨by decide +kernel, rfl⟩
set_option maxRecDepth 100000 in
theorem ii_mo_at_24 : sm_D prog_9_method_13_code 24 1 25 (.iload_n 2) := ⟨by decide +kernel, rfl⟩
set_option maxRecDepth 100000 in
theorem ii_mo_at_25 : sm_D prog_9_method_13_code 25 1 26 (.iadd) := ⟨by decide +kernel, rfl⟩
set_option maxRecDepth 100000 in
theorem ii_mo_at_26 : sm_D prog_9_method_13_code 26 1 27 (.iaload) := ⟨by decide +kernel, rfl⟩
set_option maxRecDepth 100000 in
theorem ii_mo_at_27 : sm_D prog_9_method_13_code 27 3 30 (.invokevirtual 93) := ⟨by decide +kernel, rfl⟩
set_option maxRecDepth 100000 in
theorem ii_mo_at_30 : sm_D prog_9_method_13_code 30 1 31 (.ireturn) := ⟨by decide +kernel, rfl⟩
noncomputable def ff_mo_at  (a1 : Int32) (a2 : Int32) (w : sm_Mem) : sm_R := (sm_cI (ff_mo_refused (a1) (a2) w) fun x1 w2 => (if x1 = (0 : Int32) then (Option.bind (sm_rd w2 68 240 (((40 : Int32) * a1) + a2)) fun x3 => (sm_cI (ff_mo_tell (x3) w2) fun x4 w5 => (some (.int x4, w5)))) else (some (.int x1, w2))))
set_option maxHeartbeats 4000000 in
set_option maxRecDepth 100000 in
theorem ss_mo_at_0 {E : Nat × (Nat → Int32)}  (a1 : Int32) (a2 : Int32) (w : sm_Mem) : sm_Sim E (mi_mo_at) 0 [some (.ref 62), some (.int a1), some (.int a2), none] [] w (ff_mo_at  a1 a2 w) := by
  unfold ff_mo_at
  refine sm_aload_n ii_mo_at_0 rfl ?_
  refine sm_iload_n ii_mo_at_1 rfl ?_
  refine sm_iload_n ii_mo_at_2 rfl ?_
  refine sm_cvI [.int a1, .int a2] [] rfl ii_mo_at_3 ml_mo_89 (mf_mo_refused) (mv_mo_refused) (Nat.le_of_ble_eq_true rfl) rfl 7 rfl rfl rfl rfl (mc_mo_refused (a1) (a2) w) (fun x1 w2 => ?_)
  refine sm_istore_n [some (.ref 62), some (.int a1), some (.int a2), some (.int x1)] ii_mo_at_6 rfl rfl ?_
  refine sm_iload_n ii_mo_at_7 rfl ?_
  refine sm_if_eq 15 ii_mo_at_8 (by decide) ?_ ?_
  · refine sm_aload_n ii_mo_at_15 rfl ?_
    refine sm_aload_n ii_mo_at_16 rfl ?_
    refine sm_getR 68 ii_mo_at_17 fl_mo_25 (k := 62) rfl ?_
    refine sm_bipush (40 : Int32) ii_mo_at_20 (by decide) ?_
    refine sm_iload_n ii_mo_at_22 rfl ?_
    refine sm_imul ii_mo_at_23 ?_
    refine sm_iload_n ii_mo_at_24 rfl ?_
    refine sm_iadd ii_mo_at_25 ?_
    refine sm_iald ii_mo_at_26 (k := 68) rfl (fun x3 => ?_)
    refine sm_cvI [.int x3] [] rfl ii_mo_at_27 ml_mo_93 (mf_mo_tell) (mv_mo_tell) (Nat.le_of_ble_eq_true rfl) rfl 7 rfl rfl rfl rfl (mc_mo_tell (x3) w2) (fun x4 w5 => ?_)
    exact sm_iret ii_mo_at_30 rfl
  · refine sm_iload_n ii_mo_at_11 rfl ?_
    refine sm_goto 30 ii_mo_at_12 (by decide) ?_
    exact sm_iret ii_mo_at_30 rfl
set_option maxHeartbeats 4000000 in
set_option maxRecDepth 100000 in
theorem mc_mo_at (a1 : Int32) (a2 : Int32) (w : sm_Mem) : sm_MC mi_mo_at [.ref 62, .int a1, .int a2] w (ff_mo_at a1 a2 w) := sm_MC_of (0, fun _ => 0) (by decide +kernel) (by decide) rfl (Nat.le_of_ble_eq_true rfl) (ss_mo_at_0 a1 a2 w)
abbrev mi_ho_tear : sm_MI := (⟨"HerOrders", "tear", "(I)I"⟩, prog_1_method_5_code, 3, (some .int), 3)
set_option maxRecDepth 100000 in
theorem mf_ho_tear : sm_MF mi_ho_tear 1 := ⟨List.mem_of_getElem? (i := 430) (by decide +kernel), List.mem_of_getElem? (i := 124) (by decide +kernel), ⟨by decide, by decide⟩, by decide +kernel⟩
set_option maxRecDepth 100000 in
theorem mv_ho_tear : sm_MFV mi_ho_tear := ⟨List.mem_of_getElem? (i := 428) (by decide +kernel), List.mem_of_getElem? (i := 429) (by decide +kernel)⟩
set_option maxRecDepth 100000 in
theorem ii_ho_tear_0 : sm_D prog_1_method_5_code 0 1 1 (.aload_n 0) := ⟨by decide +kernel, rfl⟩
set_option maxRecDepth 100000 in
theorem ii_ho_tear_1 : sm_D prog_1_method_5_code 1 1 2 (.aload_n 0) := ⟨by decide +kernel, rfl⟩
set_option maxRecDepth 100000 in
theorem ii_ho_tear_2 : sm_D prog_1_method_5_code 2 3 5 (.getfield 11) := ⟨by decide +kernel, rfl⟩
set_option maxRecDepth 100000 in
theorem ii_ho_tear_5 : sm_D prog_1_method_5_code 5 1 6 (.iload_n 1) := ⟨by decide +kernel, rfl⟩
set_option maxRecDepth 100000 in
theorem ii_ho_tear_6 : sm_D prog_1_method_5_code 6 3 9 (.invokevirtual 74) := ⟨by decide +kernel, rfl⟩
set_option maxRecDepth 100000 in
theorem ii_ho_tear_9 : sm_D prog_1_method_5_code 9 1 10 (.istore_n 2) := ⟨by decide +kernel, rfl⟩
set_option maxRecDepth 100000 in
theorem ii_ho_tear_10 : sm_D prog_1_method_5_code 10 1 11 (.iload_n 2) := ⟨by decide +kernel, rfl⟩
set_option maxRecDepth 100000 in
theorem ii_ho_tear_11 : sm_D prog_1_method_5_code 11 3 14 (.ifCond .eq 5) := ⟨by decide +kernel, rfl⟩
set_option maxRecDepth 100000 in
theorem ii_ho_tear_14 : sm_D prog_1_method_5_code 14 1 15 (.iload_n 2) := ⟨by decide +kernel, rfl⟩
set_option maxRecDepth 100000 in
theorem ii_ho_tear_15 : sm_D prog_1_method_5_code 15 1 16 (.ireturn) := ⟨by decide +kernel, rfl⟩
set_option maxRecDepth 100000 in
theorem ii_ho_tear_16 : sm_D prog_1_method_5_code 16 1 17 (.aload_n 0) := ⟨by decide +kernel, rfl⟩
set_option maxRecDepth 100000 in
theorem ii_ho_tear_17 : sm_D prog_1_method_5_code 17 3 20 (.getfield 11) := ⟨by decide +kernel, rfl⟩
set_option maxRecDepth 100000 in
theorem ii_ho_tear_20 : sm_D prog_1_method_5_code 20 1 21 (.iload_n 1) := ⟨by decide +kernel, rfl⟩
set_option maxRecDepth 100000 in
theorem ii_ho_tear_21 : sm_D prog_1_method_5_code 21 1 22 (.aaload) := ⟨by decide +kernel, rfl⟩
set_option maxRecDepth 100000 in
theorem ii_ho_tear_22 : sm_D prog_1_method_5_code 22 2 24 (.bipush (-9)) := ⟨by decide +kernel, rfl⟩
set_option maxRecDepth 100000 in
theorem ii_ho_tear_24 : sm_D prog_1_method_5_code 24 3 27 (.putfield 78) := ⟨by decide +kernel, rfl⟩
set_option maxRecDepth 100000 in
theorem ii_ho_tear_27 : sm_D prog_1_method_5_code 27 1 28 (.iconst 1) := ⟨by decide +kernel, rfl⟩
set_option maxRecDepth 100000 in
theorem ii_ho_tear_28 : sm_D prog_1_method_5_code 28 1 29 (.ireturn) := ⟨by decide +kernel, rfl⟩
noncomputable def ff_ho_tear  (a1 : Int32) (w : sm_Mem) : sm_R := (sm_cI (ff_ho_refusalOfMissing (1) (a1) w) fun x1 w2 => (if x1 = (0 : Int32) then (Option.bind (sm_rr 1 a1) fun r3 => (Option.bind (sm_pI w2 r3 2 1 (-9 : Int32)) fun w4 => (some (.int (1 : Int32), w4)))) else (some (.int x1, w2))))
set_option maxHeartbeats 4000000 in
set_option maxRecDepth 100000 in
theorem ss_ho_tear_0 {E : Nat × (Nat → Int32)}  (a1 : Int32) (w : sm_Mem) : sm_Sim E (mi_ho_tear) 0 [some (.ref 0), some (.int a1), none] [] w (ff_ho_tear  a1 w) := by
  unfold ff_ho_tear
  refine sm_aload_n ii_ho_tear_0 rfl ?_
  refine sm_aload_n ii_ho_tear_1 rfl ?_
  refine sm_getR 1 ii_ho_tear_2 fl_ho_11 (k := 0) rfl ?_
  refine sm_iload_n ii_ho_tear_5 rfl ?_
  refine sm_cvI [.ref 1, .int a1] [] rfl ii_ho_tear_6 ml_ho_74 (mf_ho_refusalOfMissing) (mv_ho_refusalOfMissing) (Nat.le_of_ble_eq_true rfl) rfl 6 rfl rfl rfl rfl (mc_ho_refusalOfMissing (1) (a1) w) (fun x1 w2 => ?_)
  refine sm_istore_n [some (.ref 0), some (.int a1), some (.int x1)] ii_ho_tear_9 rfl rfl ?_
  refine sm_iload_n ii_ho_tear_10 rfl ?_
  refine sm_if_eq 16 ii_ho_tear_11 (by decide) ?_ ?_
  · refine sm_aload_n ii_ho_tear_16 rfl ?_
    refine sm_getR 1 ii_ho_tear_17 fl_ho_11 (k := 0) rfl ?_
    refine sm_iload_n ii_ho_tear_20 rfl ?_
    refine sm_aald ii_ho_tear_21 (fun r3 => ?_)
    refine sm_bipush (-9 : Int32) ii_ho_tear_22 (by decide) ?_
    refine sm_putIs ii_ho_tear_24 fp_ho_78 (fun w4 => ?_)
    refine sm_iconst (1 : Int32) ii_ho_tear_27 (by decide) ?_
    exact sm_iret ii_ho_tear_28 rfl
  · refine sm_iload_n ii_ho_tear_14 rfl ?_
    exact sm_iret ii_ho_tear_15 rfl
set_option maxHeartbeats 4000000 in
set_option maxRecDepth 100000 in
theorem mc_ho_tear (a1 : Int32) (w : sm_Mem) : sm_MC mi_ho_tear [.ref 0, .int a1] w (ff_ho_tear a1 w) := sm_MC_of (0, fun _ => 0) (by decide +kernel) (by decide) rfl (Nat.le_of_ble_eq_true rfl) (ss_ho_tear_0 a1 w)
abbrev mi_mo_tear : sm_MI := (⟨"HerOrdersModel", "tear", "(I)I"⟩, prog_9_method_14_code, 2, (some .int), 3)
set_option maxRecDepth 100000 in
theorem mf_mo_tear : sm_MF mi_mo_tear 1 := ⟨List.mem_of_getElem? (i := 1071) (by decide +kernel), List.mem_of_getElem? (i := 132) (by decide +kernel), ⟨by decide, by decide⟩, by decide +kernel⟩
set_option maxRecDepth 100000 in
theorem mv_mo_tear : sm_MFV mi_mo_tear := ⟨List.mem_of_getElem? (i := 1069) (by decide +kernel), List.mem_of_getElem? (i := 1070) (by decide +kernel)⟩
set_option maxRecDepth 100000 in
theorem ii_mo_tear_0 : sm_D prog_9_method_14_code 0 1 1 (.iload_n 1) := ⟨by decide +kernel, rfl⟩
set_option maxRecDepth 100000 in
theorem ii_mo_tear_1 : sm_D prog_9_method_14_code 1 3 4 (.invokestatic 77) := ⟨by decide +kernel, rfl⟩
set_option maxRecDepth 100000 in
theorem ii_mo_tear_4 : sm_D prog_9_method_14_code 4 3 7 (.ifCond .ne 5) := ⟨by decide +kernel, rfl⟩
set_option maxRecDepth 100000 in
theorem ii_mo_tear_7 : sm_D prog_9_method_14_code 7 1 8 (.iconst (-1)) := ⟨by decide +kernel, rfl⟩
set_option maxRecDepth 100000 in
theorem ii_mo_tear_8 : sm_D prog_9_method_14_code 8 1 9 (.ireturn) := ⟨by decide +kernel, rfl⟩
set_option maxRecDepth 100000 in
theorem ii_mo_tear_9 : sm_D prog_9_method_14_code 9 1 10 (.aload_n 0) := ⟨by decide +kernel, rfl⟩
set_option maxRecDepth 100000 in
theorem ii_mo_tear_10 : sm_D prog_9_method_14_code 10 3 13 (.getfield 22) := ⟨by decide +kernel, rfl⟩
set_option maxRecDepth 100000 in
theorem ii_mo_tear_13 : sm_D prog_9_method_14_code 13 1 14 (.iload_n 1) := ⟨by decide +kernel, rfl⟩
set_option maxRecDepth 100000 in
theorem ii_mo_tear_14 : sm_D prog_9_method_14_code 14 1 15 (.iaload) := ⟨by decide +kernel, rfl⟩
set_option maxRecDepth 100000 in
theorem ii_mo_tear_15 : sm_D prog_9_method_14_code 15 3 18 (.ifCond .ge 9) := ⟨by decide +kernel, rfl⟩
set_option maxRecDepth 100000 in
theorem ii_mo_tear_18 : sm_D prog_9_method_14_code 18 1 19 (.aload_n 0) := ⟨by decide +kernel, rfl⟩
set_option maxRecDepth 100000 in
theorem ii_mo_tear_19 : sm_D prog_9_method_14_code 19 1 20 (.iconst 1) := ⟨by decide +kernel, rfl⟩
set_option maxRecDepth 100000 in
theorem ii_mo_tear_20 : sm_D prog_9_method_14_code 20 3 23 (.invokevirtual 81) := ⟨by decide +kernel, rfl⟩
set_option maxRecDepth 100000 in
theorem ii_mo_tear_23 : sm_D prog_9_method_14_code 23 1 24 (.ireturn) := ⟨by decide +kernel, rfl⟩
set_option maxRecDepth 100000 in
theorem ii_mo_tear_24 : sm_D prog_9_method_14_code 24 1 25 (.aload_n 0) := ⟨by decide +kernel, rfl⟩
set_option maxRecDepth 100000 in
theorem ii_mo_tear_25 : sm_D prog_9_method_14_code 25 3 28 (.getfield 22) := ⟨by decide +kernel, rfl⟩
set_option maxRecDepth 100000 in
theorem ii_mo_tear_28 : sm_D prog_9_method_14_code 28 1 29 (.iload_n 1) := ⟨by decide +kernel, rfl⟩
set_option maxRecDepth 100000 in
theorem ii_mo_tear_29 : sm_D prog_9_method_14_code 29 1 30 (.iconst (-1)) := ⟨by decide +kernel, rfl⟩
set_option maxRecDepth 100000 in
theorem ii_mo_tear_30 : sm_D prog_9_method_14_code 30 1 31 (.iastore) := ⟨by decide +kernel, rfl⟩
set_option maxRecDepth 100000 in
theorem ii_mo_tear_31 : sm_D prog_9_method_14_code 31 1 32 (.iconst 1) := ⟨by decide +kernel, rfl⟩
set_option maxRecDepth 100000 in
theorem ii_mo_tear_32 : sm_D prog_9_method_14_code 32 1 33 (.ireturn) := ⟨by decide +kernel, rfl⟩
noncomputable def ff_mo_tear  (a1 : Int32) (w : sm_Mem) : sm_R := (sm_cI (ff_mo_isRow (a1) w) fun x1 w2 => (if x1 = (0 : Int32) then (some (.int (-1 : Int32), w2)) else (Option.bind (sm_rd w2 67 6 a1) fun x3 => (if (0 : Int32) ≤ x3 then (Option.bind (sm_wr w2 67 6 a1 (-1 : Int32)) fun w4 => (some (.int (1 : Int32), w4))) else (sm_cI (ff_mo_find ((1 : Int32)) w2) fun x5 w6 => (some (.int x5, w6)))))))
set_option maxHeartbeats 4000000 in
set_option maxRecDepth 100000 in
theorem ss_mo_tear_0 {E : Nat × (Nat → Int32)}  (a1 : Int32) (w : sm_Mem) : sm_Sim E (mi_mo_tear) 0 [some (.ref 62), some (.int a1)] [] w (ff_mo_tear  a1 w) := by
  unfold ff_mo_tear
  refine sm_iload_n ii_mo_tear_0 rfl ?_
  refine sm_csI [.int a1] [] rfl ii_mo_tear_1 ml_mo_77 (mf_mo_isRow) (mv_mo_isRow) (Nat.le_of_ble_eq_true rfl) rfl rfl rfl (mc_mo_isRow (a1) w) (fun x1 w2 => ?_)
  refine sm_if_ne 9 ii_mo_tear_4 (by decide) ?_ ?_
  · refine sm_iconst (-1 : Int32) ii_mo_tear_7 (by decide) ?_
    exact sm_iret ii_mo_tear_8 rfl
  · refine sm_aload_n ii_mo_tear_9 rfl ?_
    refine sm_getR 67 ii_mo_tear_10 fl_mo_22 (k := 62) rfl ?_
    refine sm_iload_n ii_mo_tear_13 rfl ?_
    refine sm_iald ii_mo_tear_14 (k := 67) rfl (fun x3 => ?_)
    refine sm_if_ge 24 ii_mo_tear_15 (by decide) ?_ ?_
    · refine sm_aload_n ii_mo_tear_24 rfl ?_
      refine sm_getR 67 ii_mo_tear_25 fl_mo_22 (k := 62) rfl ?_
      refine sm_iload_n ii_mo_tear_28 rfl ?_
      refine sm_iconst (-1 : Int32) ii_mo_tear_29 (by decide) ?_
      refine sm_iast ii_mo_tear_30 (k := 67) rfl (fun w4 => ?_)
      refine sm_iconst (1 : Int32) ii_mo_tear_31 (by decide) ?_
      exact sm_iret ii_mo_tear_32 rfl
    · refine sm_aload_n ii_mo_tear_18 rfl ?_
      refine sm_iconst (1 : Int32) ii_mo_tear_19 (by decide) ?_
      refine sm_cvI [.int (1 : Int32)] [] rfl ii_mo_tear_20 ml_mo_81 (mf_mo_find) (mv_mo_find) (Nat.le_of_ble_eq_true rfl) rfl 7 rfl rfl rfl rfl (mc_mo_find ((1 : Int32)) w2) (fun x5 w6 => ?_)
      exact sm_iret ii_mo_tear_23 rfl
set_option maxHeartbeats 4000000 in
set_option maxRecDepth 100000 in
theorem mc_mo_tear (a1 : Int32) (w : sm_Mem) : sm_MC mi_mo_tear [.ref 62, .int a1] w (ff_mo_tear a1 w) := sm_MC_of (0, fun _ => 0) (by decide +kernel) (by decide) rfl (Nat.le_of_ble_eq_true rfl) (ss_mo_tear_0 a1 w)
abbrev mi_rw_hasPart : sm_MI := (⟨"HerOrders$Row", "hasPart", "(II)Z"⟩, prog_4_method_5_code, 3, (some .boolean), 1)
set_option maxRecDepth 100000 in
theorem mf_rw_hasPart : sm_MF mi_rw_hasPart 2 := ⟨List.mem_of_getElem? (i := 438) (by decide +kernel), List.mem_of_getElem? (i := 125) (by decide +kernel), ⟨by decide, by decide⟩, by decide +kernel⟩
set_option maxRecDepth 100000 in
theorem mv_rw_hasPart : sm_MFV mi_rw_hasPart := ⟨List.mem_of_getElem? (i := 437) (by decide +kernel), List.mem_of_getElem? (i := 6) (by decide +kernel)⟩
set_option maxRecDepth 100000 in
theorem ii_rw_hasPart_0 : sm_D prog_4_method_5_code 0 1 1 (.iload_n 1) := ⟨by decide +kernel, rfl⟩
set_option maxRecDepth 100000 in
theorem ii_rw_hasPart_1 : sm_D prog_4_method_5_code 1 3 4 (.ifCond .lt 25) := ⟨by decide +kernel, rfl⟩
set_option maxRecDepth 100000 in
theorem ii_rw_hasPart_4 : sm_D prog_4_method_5_code 4 1 5 (.iload_n 1) := ⟨by decide +kernel, rfl⟩
set_option maxRecDepth 100000 in
theorem ii_rw_hasPart_5 : sm_D prog_4_method_5_code 5 1 6 (.aload_n 0) := ⟨by decide +kernel, rfl⟩
set_option maxRecDepth 100000 in
theorem ii_rw_hasPart_6 : sm_D prog_4_method_5_code 6 3 9 (.getfield 21) := ⟨by decide +kernel, rfl⟩
set_option maxRecDepth 100000 in
theorem ii_rw_hasPart_9 : sm_D prog_4_method_5_code 9 3 12 (.if_icmp .gt 17) := ⟨by decide +kernel, rfl⟩
set_option maxRecDepth 100000 in
theorem ii_rw_hasPart_12 : sm_D prog_4_method_5_code 12 1 13 (.iload_n 2) := ⟨by decide +kernel, rfl⟩
set_option maxRecDepth 100000 in
theorem ii_rw_hasPart_13 : sm_D prog_4_method_5_code 13 1 14 (.aload_n 0) := ⟨by decide +kernel, rfl⟩
set_option maxRecDepth 100000 in
theorem ii_rw_hasPart_14 : sm_D prog_4_method_5_code 14 3 17 (.getfield 21) := ⟨by decide +kernel, rfl⟩
set_option maxRecDepth 100000 in
theorem ii_rw_hasPart_17 : sm_D prog_4_method_5_code 17 1 18 (.iload_n 1) := ⟨by decide +kernel, rfl⟩
set_option maxRecDepth 100000 in
theorem ii_rw_hasPart_18 : sm_D prog_4_method_5_code 18 1 19 (.isub) := ⟨by decide +kernel, rfl⟩
set_option maxRecDepth 100000 in
theorem ii_rw_hasPart_19 : sm_D prog_4_method_5_code 19 3 22 (.if_icmp .gt 7) := ⟨by decide +kernel, rfl⟩
set_option maxRecDepth 100000 in
theorem ii_rw_hasPart_22 : sm_D prog_4_method_5_code 22 1 23 (.iconst 1) := ⟨by decide +kernel, rfl⟩
set_option maxRecDepth 100000 in
theorem ii_rw_hasPart_23 : sm_D prog_4_method_5_code 23 3 26 (.goto 4) := ⟨by decide +kernel, rfl⟩
set_option maxRecDepth 100000 in
theorem ii_rw_hasPart_26 : sm_D prog_4_method_5_code 26 1 27 (.iconst 0) := ⟨by decide +kernel, rfl⟩
set_option maxRecDepth 100000 in
theorem ii_rw_hasPart_27 : sm_D prog_4_method_5_code 27 1 28 (.ireturn) := ⟨by decide +kernel, rfl⟩
noncomputable def ff_rw_hasPart  (a0 : Nat) (a1 : Int32) (a2 : Int32) (w : sm_Mem) : sm_R := (if a1 < (0 : Int32) then (some (.int (0 : Int32), w)) else (Option.bind (sm_gI w a0 2 1) fun x1 => (if x1 < a1 then (some (.int (0 : Int32), w)) else (Option.bind (sm_gI w a0 2 1) fun x2 => (if (x2 - a1) < a2 then (some (.int (0 : Int32), w)) else (some (.int (1 : Int32), w)))))))
set_option maxHeartbeats 4000000 in
set_option maxRecDepth 100000 in
theorem ss_rw_hasPart_0 {E : Nat × (Nat → Int32)}  (a0 : Nat) (a1 : Int32) (a2 : Int32) (w : sm_Mem) : sm_Sim E (mi_rw_hasPart) 0 [some (.ref a0), some (.int a1), some (.int a2)] [] w (ff_rw_hasPart  a0 a1 a2 w) := by
  unfold ff_rw_hasPart
  refine sm_iload_n ii_rw_hasPart_0 rfl ?_
  refine sm_if_lt 26 ii_rw_hasPart_1 (by decide) ?_ ?_
  · refine sm_iconst (0 : Int32) ii_rw_hasPart_26 (by decide) ?_
    exact sm_zret1 ii_rw_hasPart_27 rfl (by decide)
  · refine sm_iload_n ii_rw_hasPart_4 rfl ?_
    refine sm_aload_n ii_rw_hasPart_5 rfl ?_
    refine sm_getIs ii_rw_hasPart_6 fl_rw_21 (fun x1 => ?_)
    refine sm_icmp_gt 26 ii_rw_hasPart_9 (by decide) ?_ ?_
    · refine sm_iconst (0 : Int32) ii_rw_hasPart_26 (by decide) ?_
      exact sm_zret1 ii_rw_hasPart_27 rfl (by decide)
    · refine sm_iload_n ii_rw_hasPart_12 rfl ?_
      refine sm_aload_n ii_rw_hasPart_13 rfl ?_
      refine sm_getIs ii_rw_hasPart_14 fl_rw_21 (fun x2 => ?_)
      refine sm_iload_n ii_rw_hasPart_17 rfl ?_
      refine sm_isub ii_rw_hasPart_18 ?_
      refine sm_icmp_gt 26 ii_rw_hasPart_19 (by decide) ?_ ?_
      · refine sm_iconst (0 : Int32) ii_rw_hasPart_26 (by decide) ?_
        exact sm_zret1 ii_rw_hasPart_27 rfl (by decide)
      · refine sm_iconst (1 : Int32) ii_rw_hasPart_22 (by decide) ?_
        refine sm_goto 27 ii_rw_hasPart_23 (by decide) ?_
        exact sm_zret1 ii_rw_hasPart_27 rfl (by decide)
set_option maxHeartbeats 4000000 in
set_option maxRecDepth 100000 in
theorem mc_rw_hasPart (a0 : Nat) (a1 : Int32) (a2 : Int32) (w : sm_Mem) : sm_MC mi_rw_hasPart [.ref a0, .int a1, .int a2] w (ff_rw_hasPart a0 a1 a2 w) := sm_MC_of (0, fun _ => 0) (by decide +kernel) (by decide) rfl (Nat.le_of_ble_eq_true rfl) (ss_rw_hasPart_0 a0 a1 a2 w)
abbrev mi_ho_copy : sm_MI := (⟨"HerOrders", "copy", "(IIIII)I"⟩, prog_1_method_6_code, 8, (some .int), 2)
set_option maxRecDepth 100000 in
theorem mf_ho_copy : sm_MF mi_ho_copy 5 := ⟨List.mem_of_getElem? (i := 434) (by decide +kernel), List.mem_of_getElem? (i := 124) (by decide +kernel), ⟨by decide, by decide⟩, by decide +kernel⟩
set_option maxRecDepth 100000 in
theorem mv_ho_copy : sm_MFV mi_ho_copy := ⟨List.mem_of_getElem? (i := 432) (by decide +kernel), List.mem_of_getElem? (i := 433) (by decide +kernel)⟩
set_option maxRecDepth 100000 in
theorem ii_ho_copy_0 : sm_D prog_1_method_6_code 0 1 1 (.iload_n 1) := ⟨by decide +kernel, rfl⟩
set_option maxRecDepth 100000 in
theorem ii_ho_copy_1 : sm_D prog_1_method_6_code 1 2 3 (.bipush 6) := ⟨by decide +kernel, rfl⟩
set_option maxRecDepth 100000 in
theorem ii_ho_copy_3 : sm_D prog_1_method_6_code 3 3 6 (.invokestatic 81) := ⟨by decide +kernel, rfl⟩
set_option maxRecDepth 100000 in
theorem ii_ho_copy_6 : sm_D prog_1_method_6_code 6 3 9 (.ifCond .eq 12) := ⟨by decide +kernel, rfl⟩
set_option maxRecDepth 100000 in
theorem ii_ho_copy_9 : sm_D prog_1_method_6_code 9 1 10 (.iload_n 3) := ⟨by decide +kernel, rfl⟩
set_option maxRecDepth 100000 in
theorem ii_ho_copy_10 : sm_D prog_1_method_6_code 10 2 12 (.bipush 6) := ⟨by decide +kernel, rfl⟩
set_option maxRecDepth 100000 in
theorem ii_ho_copy_12 : sm_D prog_1_method_6_code 12 3 15 (.invokestatic 81) := ⟨by decide +kernel, rfl⟩
set_option maxRecDepth 100000 in
theorem ii_ho_copy_15 : sm_D prog_1_method_6_code 15 3 18 (.ifCond .ne 5) := ⟨by decide +kernel, rfl⟩
set_option maxRecDepth 100000 in
theorem ii_ho_copy_18 : sm_D prog_1_method_6_code 18 1 19 (.iconst (-1)) := ⟨by decide +kernel, rfl⟩
set_option maxRecDepth 100000 in
theorem ii_ho_copy_19 : sm_D prog_1_method_6_code 19 1 20 (.ireturn) := ⟨by decide +kernel, rfl⟩
set_option maxRecDepth 100000 in
theorem ii_ho_copy_20 : sm_D prog_1_method_6_code 20 2 22 (.iload 5) := ⟨by decide +kernel, rfl⟩
set_option maxRecDepth 100000 in
theorem ii_ho_copy_22 : sm_D prog_1_method_6_code 22 3 25 (.ifCond .ge 12) := ⟨by decide +kernel, rfl⟩
set_option maxRecDepth 100000 in
theorem ii_ho_copy_25 : sm_D prog_1_method_6_code 25 1 26 (.aload_n 0) := ⟨by decide +kernel, rfl⟩
set_option maxRecDepth 100000 in
theorem ii_ho_copy_26 : sm_D prog_1_method_6_code 26 3 29 (.getfield 54) := ⟨by decide +kernel, rfl⟩
set_option maxRecDepth 100000 in
theorem ii_ho_copy_29 : sm_D prog_1_method_6_code 29 1 30 (.iconst 5) := ⟨by decide +kernel, rfl⟩
set_option maxRecDepth 100000 in
theorem ii_ho_copy_30 : sm_D prog_1_method_6_code 30 3 33 (.invokevirtual 85) := ⟨by decide +kernel, rfl⟩
set_option maxRecDepth 100000 in
theorem ii_ho_copy_33 : sm_D prog_1_method_6_code 33 1 34 (.ireturn) := ⟨by decide +kernel, rfl⟩
set_option maxRecDepth 100000 in
theorem ii_ho_copy_34 : sm_D prog_1_method_6_code 34 1 35 (.aload_n 0) := ⟨by decide +kernel, rfl⟩
set_option maxRecDepth 100000 in
theorem ii_ho_copy_35 : sm_D prog_1_method_6_code 35 3 38 (.getfield 11) := ⟨by decide +kernel, rfl⟩
set_option maxRecDepth 100000 in
theorem ii_ho_copy_38 : sm_D prog_1_method_6_code 38 1 39 (.iload_n 1) := ⟨by decide +kernel, rfl⟩
set_option maxRecDepth 100000 in
theorem ii_ho_copy_39 : sm_D prog_1_method_6_code 39 1 40 (.aaload) := ⟨by decide +kernel, rfl⟩
set_option maxRecDepth 100000 in
theorem ii_ho_copy_40 : sm_D prog_1_method_6_code 40 2 42 (.astore 6) := ⟨by decide +kernel, rfl⟩
set_option maxRecDepth 100000 in
theorem ii_ho_copy_42 : sm_D prog_1_method_6_code 42 1 43 (.aload_n 0) := ⟨by decide +kernel, rfl⟩
set_option maxRecDepth 100000 in
theorem ii_ho_copy_43 : sm_D prog_1_method_6_code 43 3 46 (.getfield 11) := ⟨by decide +kernel, rfl⟩
set_option maxRecDepth 100000 in
theorem ii_ho_copy_46 : sm_D prog_1_method_6_code 46 1 47 (.iload_n 3) := ⟨by decide +kernel, rfl⟩
set_option maxRecDepth 100000 in
theorem ii_ho_copy_47 : sm_D prog_1_method_6_code 47 1 48 (.aaload) := ⟨by decide +kernel, rfl⟩
set_option maxRecDepth 100000 in
theorem ii_ho_copy_48 : sm_D prog_1_method_6_code 48 2 50 (.astore 7) := ⟨by decide +kernel, rfl⟩
set_option maxRecDepth 100000 in
theorem ii_ho_copy_50 : sm_D prog_1_method_6_code 50 2 52 (.aload 6) := ⟨by decide +kernel, rfl⟩
set_option maxRecDepth 100000 in
theorem ii_ho_copy_52 : sm_D prog_1_method_6_code 52 3 55 (.invokevirtual 89) := ⟨by decide +kernel, rfl⟩
set_option maxRecDepth 100000 in
theorem ii_ho_copy_55 : sm_D prog_1_method_6_code 55 3 58 (.ifCond .ne 11) := ⟨by decide +kernel, rfl⟩
set_option maxRecDepth 100000 in
theorem ii_ho_copy_58 : sm_D prog_1_method_6_code 58 2 60 (.aload 7) := ⟨by decide +kernel, rfl⟩
set_option maxRecDepth 100000 in
theorem ii_ho_copy_60 : sm_D prog_1_method_6_code 60 3 63 (.invokevirtual 89) := ⟨by decide +kernel, rfl⟩
set_option maxRecDepth 100000 in
theorem ii_ho_copy_63 : sm_D prog_1_method_6_code 63 3 66 (.ifCond .eq 12) := ⟨by decide +kernel, rfl⟩
set_option maxRecDepth 100000 in
theorem ii_ho_copy_66 : sm_D prog_1_method_6_code 66 1 67 (.aload_n 0) := ⟨by decide +kernel, rfl⟩
set_option maxRecDepth 100000 in
theorem ii_ho_copy_67 : sm_D prog_1_method_6_code 67 3 70 (.getfield 54) := ⟨by decide +kernel, rfl⟩
set_option maxRecDepth 100000 in
theorem ii_ho_copy_70 : sm_D prog_1_method_6_code 70 1 71 (.iconst 1) := ⟨by decide +kernel, rfl⟩
set_option maxRecDepth 100000 in
theorem ii_ho_copy_71 : sm_D prog_1_method_6_code 71 3 74 (.invokevirtual 85) := ⟨by decide +kernel, rfl⟩
set_option maxRecDepth 100000 in
theorem ii_ho_copy_74 : sm_D prog_1_method_6_code 74 1 75 (.ireturn) := ⟨by decide +kernel, rfl⟩
set_option maxRecDepth 100000 in
theorem ii_ho_copy_75 : sm_D prog_1_method_6_code 75 2 77 (.aload 6) := ⟨by decide +kernel, rfl⟩
set_option maxRecDepth 100000 in
theorem ii_ho_copy_77 : sm_D prog_1_method_6_code 77 1 78 (.iload_n 2) := ⟨by decide +kernel, rfl⟩
set_option maxRecDepth 100000 in
theorem ii_ho_copy_78 : sm_D prog_1_method_6_code 78 2 80 (.iload 5) := ⟨by decide +kernel, rfl⟩
set_option maxRecDepth 100000 in
theorem ii_ho_copy_80 : sm_D prog_1_method_6_code 80 3 83 (.invokevirtual 93) := ⟨by decide +kernel, rfl⟩
set_option maxRecDepth 100000 in
theorem ii_ho_copy_83 : sm_D prog_1_method_6_code 83 3 86 (.ifCond .eq 15) := ⟨by decide +kernel, rfl⟩
set_option maxRecDepth 100000 in
theorem ii_ho_copy_86 : sm_D prog_1_method_6_code 86 2 88 (.aload 7) := ⟨by decide +kernel, rfl⟩
set_option maxRecDepth 100000 in
theorem ii_ho_copy_88 : sm_D prog_1_method_6_code 88 2 90 (.iload 4) := ⟨by decide +kernel, rfl⟩
set_option maxRecDepth 100000 in
theorem ii_ho_copy_90 : sm_D prog_1_method_6_code 90 2 92 (.iload 5) := ⟨by decide +kernel, rfl⟩
set_option maxRecDepth 100000 in
theorem ii_ho_copy_92 : sm_D prog_1_method_6_code 92 3 95 (.invokevirtual 93) := ⟨by decide +kernel, rfl⟩
set_option maxRecDepth 100000 in
theorem ii_ho_copy_95 : sm_D prog_1_method_6_code 95 3 98 (.ifCond .ne 12) := ⟨by decide +kernel, rfl⟩
set_option maxRecDepth 100000 in
theorem ii_ho_copy_98 : sm_D prog_1_method_6_code 98 1 99 (.aload_n 0) := ⟨by decide +kernel, rfl⟩
set_option maxRecDepth 100000 in
theorem ii_ho_copy_99 : sm_D prog_1_method_6_code 99 3 102 (.getfield 54) := ⟨by decide +kernel, rfl⟩
set_option maxRecDepth 100000 in
theorem ii_ho_copy_102 : sm_D prog_1_method_6_code 102 1 103 (.iconst 2) := ⟨by decide +kernel, rfl⟩
set_option maxRecDepth 100000 in
theorem ii_ho_copy_103 : sm_D prog_1_method_6_code 103 3 106 (.invokevirtual 85) := ⟨by decide +kernel, rfl⟩
set_option maxRecDepth 100000 in
theorem ii_ho_copy_106 : sm_D prog_1_method_6_code 106 1 107 (.ireturn) := ⟨by decide +kernel, rfl⟩
set_option maxRecDepth 100000 in
theorem ii_ho_copy_107 : sm_D prog_1_method_6_code 107 2 109 (.aload 6) := ⟨by decide +kernel, rfl⟩
set_option maxRecDepth 100000 in
theorem ii_ho_copy_109 : sm_D prog_1_method_6_code 109 3 112 (.getfield 66) := ⟨by decide +kernel, rfl⟩
set_option maxRecDepth 100000 in
theorem ii_ho_copy_112 : sm_D prog_1_method_6_code 112 1 113 (.iload_n 2) := ⟨by decide +kernel, rfl⟩
set_option maxRecDepth 100000 in
theorem ii_ho_copy_113 : sm_D prog_1_method_6_code 113 2 115 (.aload 7) := ⟨by decide +kernel, rfl⟩
set_option maxRecDepth 100000 in
theorem ii_ho_copy_115 : sm_D prog_1_method_6_code 115 3 118 (.getfield 66) := ⟨by decide +kernel, rfl⟩
set_option maxRecDepth 100000 in
theorem ii_ho_copy_118 : sm_D prog_1_method_6_code 118 2 120 (.iload 4) := ⟨by decide +kernel, rfl⟩
set_option maxRecDepth 100000 in
theorem ii_ho_copy_120 : sm_D prog_1_method_6_code 120 2 122 (.iload 5) := ⟨by decide +kernel, rfl⟩
set_option maxRecDepth 100000 in
theorem ii_ho_copy_122 : sm_D prog_1_method_6_code 122 3 125 (.invokestatic 96) := ⟨by decide +kernel, rfl⟩
set_option maxRecDepth 100000 in
theorem ii_ho_copy_125 : sm_D prog_1_method_6_code 125 1 126 (.iconst 1) := ⟨by decide +kernel, rfl⟩
set_option maxRecDepth 100000 in
theorem ii_ho_copy_126 : sm_D prog_1_method_6_code 126 1 127 (.ireturn) := ⟨by decide +kernel, rfl⟩
noncomputable def ff_ho_copy_98   (w : sm_Mem) : sm_R := (sm_cI (ff_td_refuse ((2 : Int32)) w) fun x1 w2 => (some (.int x1, w2)))
set_option maxHeartbeats 4000000 in
set_option maxRecDepth 100000 in
theorem ss_ho_copy_98 {E : Nat × (Nat → Int32)}   (w : sm_Mem) : sm_Sim E (mi_ho_copy) 98 [some (.ref 0), none, none, none, none, none, none, none] [] w (ff_ho_copy_98   w) := by
  unfold ff_ho_copy_98
  refine sm_aload_n ii_ho_copy_98 rfl ?_
  refine sm_getR 60 ii_ho_copy_99 fl_ho_54 (k := 0) rfl ?_
  refine sm_iconst (2 : Int32) ii_ho_copy_102 (by decide) ?_
  refine sm_cvI [.int (2 : Int32)] [] rfl ii_ho_copy_103 ml_ho_85 (mf_td_refuse) (mv_td_refuse) (Nat.le_of_ble_eq_true rfl) rfl 3 rfl rfl rfl rfl (mc_td_refuse ((2 : Int32)) w) (fun x1 w2 => ?_)
  exact sm_iret ii_ho_copy_106 rfl
noncomputable def ff_ho_copy_66   (w : sm_Mem) : sm_R := (sm_cI (ff_td_refuse ((1 : Int32)) w) fun x3 w4 => (some (.int x3, w4)))
set_option maxHeartbeats 4000000 in
set_option maxRecDepth 100000 in
theorem ss_ho_copy_66 {E : Nat × (Nat → Int32)}   (w : sm_Mem) : sm_Sim E (mi_ho_copy) 66 [some (.ref 0), none, none, none, none, none, none, none] [] w (ff_ho_copy_66   w) := by
  unfold ff_ho_copy_66
  refine sm_aload_n ii_ho_copy_66 rfl ?_
  refine sm_getR 60 ii_ho_copy_67 fl_ho_54 (k := 0) rfl ?_
  refine sm_iconst (1 : Int32) ii_ho_copy_70 (by decide) ?_
  refine sm_cvI [.int (1 : Int32)] [] rfl ii_ho_copy_71 ml_ho_85 (mf_td_refuse) (mv_td_refuse) (Nat.le_of_ble_eq_true rfl) rfl 3 rfl rfl rfl rfl (mc_td_refuse ((1 : Int32)) w) (fun x3 w4 => ?_)
  exact sm_iret ii_ho_copy_74 rfl
noncomputable def ff_ho_copy  (a1 : Int32) (a2 : Int32) (a3 : Int32) (a4 : Int32) (a5 : Int32) (w : sm_Mem) : sm_R := (sm_cI (ff_ho_isWithin (a1) ((6 : Int32)) w) fun x5 w6 => (if x5 = (0 : Int32) then (some (.int (-1 : Int32), w6)) else (sm_cI (ff_ho_isWithin (a3) ((6 : Int32)) w6) fun x7 w8 => (if x7 = (0 : Int32) then (some (.int (-1 : Int32), w8)) else (if (0 : Int32) ≤ a5 then (Option.bind (sm_rr 1 a1) fun r9 => (Option.bind (sm_rr 1 a3) fun r10 => (sm_cI (sm_rc r9 2 (ff_rw_isMissing (r9) w8)) fun x11 w12 => (if x11 = (0 : Int32) then (sm_cI (sm_rc r10 2 (ff_rw_isMissing (r10) w12)) fun x13 w14 => (if x13 = (0 : Int32) then (sm_cI (sm_rc r9 2 (ff_rw_hasPart (r9) (a2) (a5) w14)) fun x15 w16 => (if x15 = (0 : Int32) then ff_ho_copy_98  w16 else (sm_cI (sm_rc r10 2 (ff_rw_hasPart (r10) (a4) (a5) w16)) fun x17 w18 => (if x17 = (0 : Int32) then ff_ho_copy_98  w18 else (Option.bind (sm_fk r9 2 0 2) fun r19 => (Option.bind (sm_fk r10 2 0 2) fun r20 => (Option.bind (sm_acp w18 r19 a2 r20 a4 a5) fun w21 => (some (.int (1 : Int32), w21))))))))) else ff_ho_copy_66  w14)) else ff_ho_copy_66  w12)))) else (sm_cI (ff_td_refuse ((5 : Int32)) w8) fun x22 w23 => (some (.int x22, w23))))))))
set_option maxHeartbeats 4000000 in
set_option maxRecDepth 100000 in
theorem ss_ho_copy_0 {E : Nat × (Nat → Int32)}  (a1 : Int32) (a2 : Int32) (a3 : Int32) (a4 : Int32) (a5 : Int32) (w : sm_Mem) : sm_Sim E (mi_ho_copy) 0 [some (.ref 0), some (.int a1), some (.int a2), some (.int a3), some (.int a4), some (.int a5), none, none] [] w (ff_ho_copy  a1 a2 a3 a4 a5 w) := by
  unfold ff_ho_copy
  refine sm_iload_n ii_ho_copy_0 rfl ?_
  refine sm_bipush (6 : Int32) ii_ho_copy_1 (by decide) ?_
  refine sm_csI [.int a1, .int (6 : Int32)] [] rfl ii_ho_copy_3 ml_ho_81 (mf_ho_isWithin) (mv_ho_isWithin) (Nat.le_of_ble_eq_true rfl) rfl rfl rfl (mc_ho_isWithin (a1) ((6 : Int32)) w) (fun x5 w6 => ?_)
  refine sm_if_eq 18 ii_ho_copy_6 (by decide) ?_ ?_
  · refine sm_iconst (-1 : Int32) ii_ho_copy_18 (by decide) ?_
    exact sm_iret ii_ho_copy_19 rfl
  · refine sm_iload_n ii_ho_copy_9 rfl ?_
    refine sm_bipush (6 : Int32) ii_ho_copy_10 (by decide) ?_
    refine sm_csI [.int a3, .int (6 : Int32)] [] rfl ii_ho_copy_12 ml_ho_81 (mf_ho_isWithin) (mv_ho_isWithin) (Nat.le_of_ble_eq_true rfl) rfl rfl rfl (mc_ho_isWithin (a3) ((6 : Int32)) w6) (fun x7 w8 => ?_)
    refine sm_if_ne 20 ii_ho_copy_15 (by decide) ?_ ?_
    · refine sm_iconst (-1 : Int32) ii_ho_copy_18 (by decide) ?_
      exact sm_iret ii_ho_copy_19 rfl
    · refine sm_iload ii_ho_copy_20 rfl ?_
      refine sm_if_ge 34 ii_ho_copy_22 (by decide) ?_ ?_
      · refine sm_aload_n ii_ho_copy_34 rfl ?_
        refine sm_getR 1 ii_ho_copy_35 fl_ho_11 (k := 0) rfl ?_
        refine sm_iload_n ii_ho_copy_38 rfl ?_
        refine sm_aald ii_ho_copy_39 (fun r9 => ?_)
        refine sm_astore [some (.ref 0), some (.int a1), some (.int a2), some (.int a3), some (.int a4), some (.int a5), some (.ref r9), none] ii_ho_copy_40 rfl rfl ?_
        refine sm_aload_n ii_ho_copy_42 rfl ?_
        refine sm_getR 1 ii_ho_copy_43 fl_ho_11 (k := 0) rfl ?_
        refine sm_iload_n ii_ho_copy_46 rfl ?_
        refine sm_aald ii_ho_copy_47 (fun r10 => ?_)
        refine sm_astore [some (.ref 0), some (.int a1), some (.int a2), some (.int a3), some (.int a4), some (.int a5), some (.ref r9), some (.ref r10)] ii_ho_copy_48 rfl rfl ?_
        refine sm_aload ii_ho_copy_50 rfl ?_
        refine sm_dvI [] [] rfl ii_ho_copy_52 ml_ho_89 (mf_rw_isMissing) (mv_rw_isMissing) (Nat.le_of_ble_eq_true rfl) rfl 2 rfl rfl rfl (mc_rw_isMissing (r9) w8) (fun x11 w12 => ?_)
        refine sm_if_ne 66 ii_ho_copy_55 (by decide) ?_ ?_
        · refine sm_aload ii_ho_copy_58 rfl ?_
          refine sm_dvI [] [] rfl ii_ho_copy_60 ml_ho_89 (mf_rw_isMissing) (mv_rw_isMissing) (Nat.le_of_ble_eq_true rfl) rfl 2 rfl rfl rfl (mc_rw_isMissing (r10) w12) (fun x13 w14 => ?_)
          refine sm_if_eq 75 ii_ho_copy_63 (by decide) ?_ ?_
          · refine sm_aload ii_ho_copy_75 rfl ?_
            refine sm_iload_n ii_ho_copy_77 rfl ?_
            refine sm_iload ii_ho_copy_78 rfl ?_
            refine sm_dvI [.int a2, .int a5] [] rfl ii_ho_copy_80 ml_ho_93 (mf_rw_hasPart) (mv_rw_hasPart) (Nat.le_of_ble_eq_true rfl) rfl 2 rfl rfl rfl (mc_rw_hasPart (r9) (a2) (a5) w14) (fun x15 w16 => ?_)
            refine sm_if_eq 98 ii_ho_copy_83 (by decide) ?_ ?_
            · refine sm_msk [true, false, false, false, false, false, false, false] [some (.ref 0), none, none, none, none, none, none, none] rfl ?_
              exact ss_ho_copy_98  w16
            · refine sm_aload ii_ho_copy_86 rfl ?_
              refine sm_iload ii_ho_copy_88 rfl ?_
              refine sm_iload ii_ho_copy_90 rfl ?_
              refine sm_dvI [.int a4, .int a5] [] rfl ii_ho_copy_92 ml_ho_93 (mf_rw_hasPart) (mv_rw_hasPart) (Nat.le_of_ble_eq_true rfl) rfl 2 rfl rfl rfl (mc_rw_hasPart (r10) (a4) (a5) w16) (fun x17 w18 => ?_)
              refine sm_if_ne 107 ii_ho_copy_95 (by decide) ?_ ?_
              · refine sm_msk [true, false, false, false, false, false, false, false] [some (.ref 0), none, none, none, none, none, none, none] rfl ?_
                exact ss_ho_copy_98  w18
              · refine sm_aload ii_ho_copy_107 rfl ?_
                refine sm_getRs ii_ho_copy_109 fl_ho_66 (fun r19 => ?_)
                refine sm_iload_n ii_ho_copy_112 rfl ?_
                refine sm_aload ii_ho_copy_113 rfl ?_
                refine sm_getRs ii_ho_copy_115 fl_ho_66 (fun r20 => ?_)
                refine sm_iload ii_ho_copy_118 rfl ?_
                refine sm_iload ii_ho_copy_120 rfl ?_
                refine sm_copy ii_ho_copy_122 (by decide) (List.mem_of_getElem? (i := 439) (by decide +kernel)) (List.mem_of_getElem? (i := 441) (by decide +kernel)) (List.mem_of_getElem? (i := 440) (by decide +kernel)) (List.mem_of_getElem? (i := 133) (by decide +kernel)) (fun w21 => ?_)
                refine sm_iconst (1 : Int32) ii_ho_copy_125 (by decide) ?_
                exact sm_iret ii_ho_copy_126 rfl
          · refine sm_msk [true, false, false, false, false, false, false, false] [some (.ref 0), none, none, none, none, none, none, none] rfl ?_
            exact ss_ho_copy_66  w14
        · refine sm_msk [true, false, false, false, false, false, false, false] [some (.ref 0), none, none, none, none, none, none, none] rfl ?_
          exact ss_ho_copy_66  w12
      · refine sm_aload_n ii_ho_copy_25 rfl ?_
        refine sm_getR 60 ii_ho_copy_26 fl_ho_54 (k := 0) rfl ?_
        refine sm_iconst (5 : Int32) ii_ho_copy_29 (by decide) ?_
        refine sm_cvI [.int (5 : Int32)] [] rfl ii_ho_copy_30 ml_ho_85 (mf_td_refuse) (mv_td_refuse) (Nat.le_of_ble_eq_true rfl) rfl 3 rfl rfl rfl rfl (mc_td_refuse ((5 : Int32)) w8) (fun x22 w23 => ?_)
        exact sm_iret ii_ho_copy_33 rfl
set_option maxHeartbeats 4000000 in
set_option maxRecDepth 100000 in
theorem mc_ho_copy (a1 : Int32) (a2 : Int32) (a3 : Int32) (a4 : Int32) (a5 : Int32) (w : sm_Mem) : sm_MC mi_ho_copy [.ref 0, .int a1, .int a2, .int a3, .int a4, .int a5] w (ff_ho_copy a1 a2 a3 a4 a5 w) := sm_MC_of (0, fun _ => 0) (by decide +kernel) (by decide) rfl (Nat.le_of_ble_eq_true rfl) (ss_ho_copy_0 a1 a2 a3 a4 a5 w)
abbrev mi_mo_isSpan : sm_MI := (⟨"HerOrdersModel", "isSpan", "(III)Z"⟩, prog_9_method_15_code, 4, (some .boolean), 1)
set_option maxRecDepth 100000 in
theorem mf_mo_isSpan : sm_MF mi_mo_isSpan 3 := ⟨List.mem_of_getElem? (i := 1079) (by decide +kernel), List.mem_of_getElem? (i := 132) (by decide +kernel), ⟨by decide, by decide⟩, by decide +kernel⟩
set_option maxRecDepth 100000 in
theorem mv_mo_isSpan : sm_MFV mi_mo_isSpan := ⟨List.mem_of_getElem? (i := 1078) (by decide +kernel), List.mem_of_getElem? (i := 77) (by decide +kernel)⟩
set_option maxRecDepth 100000 in
theorem ii_mo_isSpan_0 : sm_D prog_9_method_15_code 0 1 1 (.iload_n 2) := ⟨by decide +kernel, rfl⟩
set_option maxRecDepth 100000 in
theorem ii_mo_isSpan_1 : sm_D prog_9_method_15_code 1 3 4 (.ifCond .lt 23) := ⟨by decide +kernel, rfl⟩
set_option maxRecDepth 100000 in
theorem ii_mo_isSpan_4 : sm_D prog_9_method_15_code 4 1 5 (.iload_n 2) := ⟨by decide +kernel, rfl⟩
set_option maxRecDepth 100000 in
theorem ii_mo_isSpan_5 : sm_D prog_9_method_15_code 5 1 6 (.i2l) := ⟨by decide +kernel, rfl⟩
set_option maxRecDepth 100000 in
theorem ii_mo_isSpan_6 : sm_D prog_9_method_15_code 6 1 7 (.iload_n 3) := ⟨by decide +kernel, rfl⟩
set_option maxRecDepth 100000 in
theorem ii_mo_isSpan_7 : sm_D prog_9_method_15_code 7 1 8 (.i2l) := ⟨by decide +kernel, rfl⟩
set_option maxRecDepth 100000 in
theorem ii_mo_isSpan_8 : sm_D prog_9_method_15_code 8 1 9 (.ladd) := ⟨by decide +kernel, rfl⟩
set_option maxRecDepth 100000 in
theorem ii_mo_isSpan_9 : sm_D prog_9_method_15_code 9 1 10 (.aload_n 0) := ⟨by decide +kernel, rfl⟩
set_option maxRecDepth 100000 in
theorem ii_mo_isSpan_10 : sm_D prog_9_method_15_code 10 3 13 (.getfield 22) := ⟨by decide +kernel, rfl⟩
set_option maxRecDepth 100000 in
theorem ii_mo_isSpan_13 : sm_D prog_9_method_15_code 13 1 14 (.iload_n 1) := ⟨by decide +kernel, rfl⟩
set_option maxRecDepth 100000 in
theorem ii_mo_isSpan_14 : sm_D prog_9_method_15_code 14 1 15 (.iaload) := ⟨by decide +kernel, rfl⟩
set_option maxRecDepth 100000 in
theorem ii_mo_isSpan_15 : sm_D prog_9_method_15_code 15 1 16 (.i2l) := ⟨by decide +kernel, rfl⟩
set_option maxRecDepth 100000 in
theorem ii_mo_isSpan_16 : sm_D prog_9_method_15_code 16 1 17 (.lcmp) := ⟨by decide +kernel, rfl⟩
set_option maxRecDepth 100000 in
theorem ii_mo_isSpan_17 : sm_D prog_9_method_15_code 17 3 20 (.ifCond .gt 7) := ⟨by decide +kernel, rfl⟩
set_option maxRecDepth 100000 in
theorem ii_mo_isSpan_20 : sm_D prog_9_method_15_code 20 1 21 (.iconst 1) := ⟨by decide +kernel, rfl⟩
set_option maxRecDepth 100000 in
theorem ii_mo_isSpan_21 : sm_D prog_9_method_15_code 21 3 24 (.goto 4) := ⟨by decide +kernel, rfl⟩
set_option maxRecDepth 100000 in
theorem ii_mo_isSpan_24 : sm_D prog_9_method_15_code 24 1 25 (.iconst 0) := ⟨by decide +kernel, rfl⟩
set_option maxRecDepth 100000 in
theorem ii_mo_isSpan_25 : sm_D prog_9_method_15_code 25 1 26 (.ireturn) := ⟨by decide +kernel, rfl⟩
noncomputable def ff_mo_isSpan  (a1 : Int32) (a2 : Int32) (a3 : Int32) (w : sm_Mem) : sm_R := (if a2 < (0 : Int32) then (some (.int (0 : Int32), w)) else (Option.bind (sm_rd w 67 6 a1) fun x1 => (if (0 : Int32) < (lg_cmp ((Int32.toInt64 a2) + (Int32.toInt64 a3)) (Int32.toInt64 x1)) then (some (.int (0 : Int32), w)) else (some (.int (1 : Int32), w)))))
set_option maxHeartbeats 4000000 in
set_option maxRecDepth 100000 in
theorem ss_mo_isSpan_0 {E : Nat × (Nat → Int32)}  (a1 : Int32) (a2 : Int32) (a3 : Int32) (w : sm_Mem) : sm_Sim E (mi_mo_isSpan) 0 [some (.ref 62), some (.int a1), some (.int a2), some (.int a3)] [] w (ff_mo_isSpan  a1 a2 a3 w) := by
  unfold ff_mo_isSpan
  refine sm_iload_n ii_mo_isSpan_0 rfl ?_
  refine sm_if_lt 24 ii_mo_isSpan_1 (by decide) ?_ ?_
  · refine sm_iconst (0 : Int32) ii_mo_isSpan_24 (by decide) ?_
    exact sm_zret1 ii_mo_isSpan_25 rfl (by decide)
  · refine sm_iload_n ii_mo_isSpan_4 rfl ?_
    refine sm_i2l ii_mo_isSpan_5 ?_
    refine sm_iload_n ii_mo_isSpan_6 rfl ?_
    refine sm_i2l ii_mo_isSpan_7 ?_
    refine sm_ladd ii_mo_isSpan_8 ?_
    refine sm_aload_n ii_mo_isSpan_9 rfl ?_
    refine sm_getR 67 ii_mo_isSpan_10 fl_mo_22 (k := 62) rfl ?_
    refine sm_iload_n ii_mo_isSpan_13 rfl ?_
    refine sm_iald ii_mo_isSpan_14 (k := 67) rfl (fun x1 => ?_)
    refine sm_i2l ii_mo_isSpan_15 ?_
    refine sm_lcmp ii_mo_isSpan_16 ?_
    refine sm_if_gt 24 ii_mo_isSpan_17 (by decide) ?_ ?_
    · refine sm_iconst (0 : Int32) ii_mo_isSpan_24 (by decide) ?_
      exact sm_zret1 ii_mo_isSpan_25 rfl (by decide)
    · refine sm_iconst (1 : Int32) ii_mo_isSpan_20 (by decide) ?_
      refine sm_goto 25 ii_mo_isSpan_21 (by decide) ?_
      exact sm_zret1 ii_mo_isSpan_25 rfl (by decide)
set_option maxHeartbeats 4000000 in
set_option maxRecDepth 100000 in
theorem mc_mo_isSpan (a1 : Int32) (a2 : Int32) (a3 : Int32) (w : sm_Mem) : sm_MC mi_mo_isSpan [.ref 62, .int a1, .int a2, .int a3] w (ff_mo_isSpan a1 a2 a3 w) := sm_MC_of (0, fun _ => 0) (by decide +kernel) (by decide) rfl (Nat.le_of_ble_eq_true rfl) (ss_mo_isSpan_0 a1 a2 a3 w)
abbrev mi_mo_copy : sm_MI := (⟨"HerOrdersModel", "copy", "(IIIII)I"⟩, prog_9_method_16_code, 9, (some .int), 3)
set_option maxRecDepth 100000 in
theorem mf_mo_copy : sm_MF mi_mo_copy 5 := ⟨List.mem_of_getElem? (i := 1075) (by decide +kernel), List.mem_of_getElem? (i := 132) (by decide +kernel), ⟨by decide, by decide⟩, by decide +kernel⟩
set_option maxRecDepth 100000 in
theorem mv_mo_copy : sm_MFV mi_mo_copy := ⟨List.mem_of_getElem? (i := 1073) (by decide +kernel), List.mem_of_getElem? (i := 1074) (by decide +kernel)⟩
set_option maxRecDepth 100000 in
theorem ii_mo_copy_0 : sm_D prog_9_method_16_code 0 1 1 (.iload_n 1) := ⟨by decide +kernel, rfl⟩
set_option maxRecDepth 100000 in
theorem ii_mo_copy_1 : sm_D prog_9_method_16_code 1 3 4 (.invokestatic 77) := ⟨by decide +kernel, rfl⟩
set_option maxRecDepth 100000 in
theorem ii_mo_copy_4 : sm_D prog_9_method_16_code 4 3 7 (.ifCond .eq 10) := ⟨by decide +kernel, rfl⟩
set_option maxRecDepth 100000 in
theorem ii_mo_copy_7 : sm_D prog_9_method_16_code 7 1 8 (.iload_n 3) := ⟨by decide +kernel, rfl⟩
set_option maxRecDepth 100000 in
theorem ii_mo_copy_8 : sm_D prog_9_method_16_code 8 3 11 (.invokestatic 77) := ⟨by decide +kernel, rfl⟩
set_option maxRecDepth 100000 in
theorem ii_mo_copy_11 : sm_D prog_9_method_16_code 11 3 14 (.ifCond .ne 5) := ⟨by decide +kernel, rfl⟩
set_option maxRecDepth 100000 in
theorem ii_mo_copy_14 : sm_D prog_9_method_16_code 14 1 15 (.iconst (-1)) := ⟨by decide +kernel, rfl⟩
set_option maxRecDepth 100000 in
theorem ii_mo_copy_15 : sm_D prog_9_method_16_code 15 1 16 (.ireturn) := ⟨by decide +kernel, rfl⟩
set_option maxRecDepth 100000 in
theorem ii_mo_copy_16 : sm_D prog_9_method_16_code 16 2 18 (.iload 5) := ⟨by decide +kernel, rfl⟩
set_option maxRecDepth 100000 in
theorem ii_mo_copy_18 : sm_D prog_9_method_16_code 18 3 21 (.ifCond .ge 9) := ⟨by decide +kernel, rfl⟩
set_option maxRecDepth 100000 in
theorem ii_mo_copy_21 : sm_D prog_9_method_16_code 21 1 22 (.aload_n 0) := ⟨by decide +kernel, rfl⟩
set_option maxRecDepth 100000 in
theorem ii_mo_copy_22 : sm_D prog_9_method_16_code 22 1 23 (.iconst 5) := ⟨by decide +kernel, rfl⟩
set_option maxRecDepth 100000 in
theorem ii_mo_copy_23 : sm_D prog_9_method_16_code 23 3 26 (.invokevirtual 81) := ⟨by decide +kernel, rfl⟩
set_option maxRecDepth 100000 in
theorem ii_mo_copy_26 : sm_D prog_9_method_16_code 26 1 27 (.ireturn) := ⟨by decide +kernel, rfl⟩
set_option maxRecDepth 100000 in
theorem ii_mo_copy_27 : sm_D prog_9_method_16_code 27 1 28 (.aload_n 0) := ⟨by decide +kernel, rfl⟩
set_option maxRecDepth 100000 in
theorem ii_mo_copy_28 : sm_D prog_9_method_16_code 28 3 31 (.getfield 22) := ⟨by decide +kernel, rfl⟩
set_option maxRecDepth 100000 in
theorem ii_mo_copy_31 : sm_D prog_9_method_16_code 31 1 32 (.iload_n 1) := ⟨by decide +kernel, rfl⟩
set_option maxRecDepth 100000 in
theorem ii_mo_copy_32 : sm_D prog_9_method_16_code 32 1 33 (.iaload) := ⟨by decide +kernel, rfl⟩
set_option maxRecDepth 100000 in
theorem ii_mo_copy_33 : sm_D prog_9_method_16_code 33 3 36 (.ifCond .lt 12) := ⟨by decide +kernel, rfl⟩
set_option maxRecDepth 100000 in
theorem ii_mo_copy_36 : sm_D prog_9_method_16_code 36 1 37 (.aload_n 0) := ⟨by decide +kernel, rfl⟩
set_option maxRecDepth 100000 in
theorem ii_mo_copy_37 : sm_D prog_9_method_16_code 37 3 40 (.getfield 22) := ⟨by decide +kernel, rfl⟩
set_option maxRecDepth 100000 in
theorem ii_mo_copy_40 : sm_D prog_9_method_16_code 40 1 41 (.iload_n 3) := ⟨by decide +kernel, rfl⟩
set_option maxRecDepth 100000 in
theorem ii_mo_copy_41 : sm_D prog_9_method_16_code 41 1 42 (.iaload) := ⟨by decide +kernel, rfl⟩
set_option maxRecDepth 100000 in
theorem ii_mo_copy_42 : sm_D prog_9_method_16_code 42 3 45 (.ifCond .ge 9) := ⟨by decide +kernel, rfl⟩
set_option maxRecDepth 100000 in
theorem ii_mo_copy_45 : sm_D prog_9_method_16_code 45 1 46 (.aload_n 0) := ⟨by decide +kernel, rfl⟩
set_option maxRecDepth 100000 in
theorem ii_mo_copy_46 : sm_D prog_9_method_16_code 46 1 47 (.iconst 1) := ⟨by decide +kernel, rfl⟩
set_option maxRecDepth 100000 in
theorem ii_mo_copy_47 : sm_D prog_9_method_16_code 47 3 50 (.invokevirtual 81) := ⟨by decide +kernel, rfl⟩
set_option maxRecDepth 100000 in
theorem ii_mo_copy_50 : sm_D prog_9_method_16_code 50 1 51 (.ireturn) := ⟨by decide +kernel, rfl⟩
set_option maxRecDepth 100000 in
theorem ii_mo_copy_51 : sm_D prog_9_method_16_code 51 1 52 (.aload_n 0) := ⟨by decide +kernel, rfl⟩
set_option maxRecDepth 100000 in
theorem ii_mo_copy_52 : sm_D prog_9_method_16_code 52 1 53 (.iload_n 1) := ⟨by decide +kernel, rfl⟩
set_option maxRecDepth 100000 in
theorem ii_mo_copy_53 : sm_D prog_9_method_16_code 53 1 54 (.iload_n 2) := ⟨by decide +kernel, rfl⟩
set_option maxRecDepth 100000 in
theorem ii_mo_copy_54 : sm_D prog_9_method_16_code 54 2 56 (.iload 5) := ⟨by decide +kernel, rfl⟩
set_option maxRecDepth 100000 in
theorem ii_mo_copy_56 : sm_D prog_9_method_16_code 56 3 59 (.invokevirtual 96) := ⟨by decide +kernel, rfl⟩
set_option maxRecDepth 100000 in
theorem ii_mo_copy_59 : sm_D prog_9_method_16_code 59 3 62 (.ifCond .eq 15) := ⟨by decide +kernel, rfl⟩
set_option maxRecDepth 100000 in
theorem ii_mo_copy_62 : sm_D prog_9_method_16_code 62 1 63 (.aload_n 0) := ⟨by decide +kernel, rfl⟩
set_option maxRecDepth 100000 in
theorem ii_mo_copy_63 : sm_D prog_9_method_16_code 63 1 64 (.iload_n 3) := ⟨by decide +kernel, rfl⟩
set_option maxRecDepth 100000 in
theorem ii_mo_copy_64 : sm_D prog_9_method_16_code 64 2 66 (.iload 4) := ⟨by decide +kernel, rfl⟩
set_option maxRecDepth 100000 in
theorem ii_mo_copy_66 : sm_D prog_9_method_16_code 66 2 68 (.iload 5) := ⟨by decide +kernel, rfl⟩
set_option maxRecDepth 100000 in
theorem ii_mo_copy_68 : sm_D prog_9_method_16_code 68 3 71 (.invokevirtual 96) := ⟨by decide +kernel, rfl⟩
set_option maxRecDepth 100000 in
theorem ii_mo_copy_71 : sm_D prog_9_method_16_code 71 3 74 (.ifCond .ne 9) := ⟨by decide +kernel, rfl⟩
set_option maxRecDepth 100000 in
theorem ii_mo_copy_74 : sm_D prog_9_method_16_code 74 1 75 (.aload_n 0) := ⟨by decide +kernel, rfl⟩
set_option maxRecDepth 100000 in
theorem ii_mo_copy_75 : sm_D prog_9_method_16_code 75 1 76 (.iconst 2) := ⟨by decide +kernel, rfl⟩
set_option maxRecDepth 100000 in
theorem ii_mo_copy_76 : sm_D prog_9_method_16_code 76 3 79 (.invokevirtual 81) := ⟨by decide +kernel, rfl⟩
set_option maxRecDepth 100000 in
theorem ii_mo_copy_79 : sm_D prog_9_method_16_code 79 1 80 (.ireturn) := ⟨by decide +kernel, rfl⟩
set_option maxRecDepth 100000 in
theorem ii_mo_copy_80 : sm_D prog_9_method_16_code 80 1 81 (.iload_n 2) := ⟨by decide +kernel, rfl⟩
set_option maxRecDepth 100000 in
theorem ii_mo_copy_81 : sm_D prog_9_method_16_code 81 2 83 (.iload 4) := ⟨by decide +kernel, rfl⟩
set_option maxRecDepth 100000 in
theorem ii_mo_copy_83 : sm_D prog_9_method_16_code 83 3 86 (.if_icmp .ge 7) := ⟨by decide +kernel, rfl⟩
set_option maxRecDepth 100000 in
theorem ii_mo_copy_86 : sm_D prog_9_method_16_code 86 1 87 (.iconst 1) := ⟨by decide +kernel, rfl⟩
set_option maxRecDepth 100000 in
theorem ii_mo_copy_87 : sm_D prog_9_method_16_code 87 3 90 (.goto 4) := ⟨by decide +kernel, rfl⟩
set_option maxRecDepth 100000 in
theorem ii_mo_copy_90 : sm_D prog_9_method_16_code 90 1 91 (.iconst 0) := ⟨by decide +kernel, rfl⟩
set_option maxRecDepth 100000 in
theorem ii_mo_copy_91 : sm_D prog_9_method_16_code 91 2 93 (.istore 6) := ⟨by decide +kernel, rfl⟩
set_option maxRecDepth 100000 in
theorem ii_mo_copy_93 : sm_D prog_9_method_16_code 93 1 94 (.iconst 0) := ⟨by decide +kernel, rfl⟩
set_option maxRecDepth 100000 in
theorem ii_mo_copy_94 : sm_D prog_9_method_16_code 94 2 96 (.istore 7) := ⟨by decide +kernel, rfl⟩
set_option maxRecDepth 100000 in
theorem ii_mo_copy_96 : sm_D prog_9_method_16_code 96 2 98 (.iload 7) := ⟨by decide +kernel, rfl⟩
set_option maxRecDepth 100000 in
theorem ii_mo_copy_98 : sm_D prog_9_method_16_code 98 2 100 (.iload 5) := ⟨by decide +kernel, rfl⟩
set_option maxRecDepth 100000 in
theorem ii_mo_copy_100 : sm_D prog_9_method_16_code 100 3 103 (.if_icmp .ge 57) := ⟨by decide +kernel, rfl⟩
set_option maxRecDepth 100000 in
theorem ii_mo_copy_103 : sm_D prog_9_method_16_code 103 2 105 (.iload 6) := ⟨by decide +kernel, rfl⟩
set_option maxRecDepth 100000 in
theorem ii_mo_copy_105 : sm_D prog_9_method_16_code 105 3 108 (.ifCond .eq 13) := ⟨by decide +kernel, rfl⟩
set_option maxRecDepth 100000 in
theorem ii_mo_copy_108 : sm_D prog_9_method_16_code 108 2 110 (.iload 5) := ⟨by decide +kernel, rfl⟩
set_option maxRecDepth 100000 in
theorem ii_mo_copy_110 : sm_D prog_9_method_16_code 110 1 111 (.iconst 1) := ⟨by decide +kernel, rfl⟩
set_option maxRecDepth 100000 in
theorem ii_mo_copy_111 : sm_D prog_9_method_16_code 111 1 112 (.isub) := ⟨by decide +kernel, rfl⟩
set_option maxRecDepth 100000 in
theorem ii_mo_copy_112 : sm_D prog_9_method_16_code 112 2 114 (.iload 7) := ⟨by decide +kernel, rfl⟩
set_option maxRecDepth 100000 in
theorem ii_mo_copy_114 : sm_D prog_9_method_16_code 114 1 115 (.isub) := ⟨by decide +kernel, rfl⟩
set_option maxRecDepth 100000 in
theorem ii_mo_copy_115 : sm_D prog_9_method_16_code 115 3 118 (.goto 5) := ⟨by decide +kernel, rfl⟩
set_option maxRecDepth 100000 in
theorem ii_mo_copy_118 : sm_D prog_9_method_16_code 118 2 120 (.iload 7) := ⟨by decide +kernel, rfl⟩
set_option maxRecDepth 100000 in
theorem ii_mo_copy_120 : sm_D prog_9_method_16_code 120 2 122 (.istore 8) := ⟨by decide +kernel, rfl⟩
set_option maxRecDepth 100000 in
theorem ii_mo_copy_122 : sm_D prog_9_method_16_code 122 1 123 (.aload_n 0) := ⟨by decide +kernel, rfl⟩
set_option maxRecDepth 100000 in
theorem ii_mo_copy_123 : sm_D prog_9_method_16_code 123 3 126 (.getfield 25) := ⟨by decide +kernel, rfl⟩
set_option maxRecDepth 100000 in
theorem ii_mo_copy_126 : sm_D prog_9_method_16_code 126 2 128 (.bipush 40) := ⟨by decide +kernel, rfl⟩
set_option maxRecDepth 100000 in
theorem ii_mo_copy_128 : sm_D prog_9_method_16_code 128 1 129 (.iload_n 3) := ⟨by decide +kernel, rfl⟩
set_option maxRecDepth 100000 in
theorem ii_mo_copy_129 : sm_D prog_9_method_16_code 129 1 130 (.imul) := ⟨by decide +kernel, rfl⟩
set_option maxRecDepth 100000 in
theorem ii_mo_copy_130 : sm_D prog_9_method_16_code 130 2 132 (.iload 4) := ⟨by decide +kernel, rfl⟩
set_option maxRecDepth 100000 in
theorem ii_mo_copy_132 : sm_D prog_9_method_16_code 132 1 133 (.iadd) := ⟨by decide +kernel, rfl⟩
set_option maxRecDepth 100000 in
theorem ii_mo_copy_133 : sm_D prog_9_method_16_code 133 2 135 (.iload 8) := ⟨by decide +kernel, rfl⟩
set_option maxRecDepth 100000 in
theorem ii_mo_copy_135 : sm_D prog_9_method_16_code 135 1 136 (.iadd) := ⟨by decide +kernel, rfl⟩
set_option maxRecDepth 100000 in
theorem ii_mo_copy_136 : sm_D prog_9_method_16_code 136 1 137 (.aload_n 0) := ⟨by decide +kernel, rfl⟩
set_option maxRecDepth 100000 in
theorem ii_mo_copy_137 : sm_D prog_9_method_16_code 137 3 140 (.getfield 25) := ⟨by decide +kernel, rfl⟩
set_option maxRecDepth 100000 in
theorem ii_mo_copy_140 : sm_D prog_9_method_16_code 140 2 142 (.bipush 40) := ⟨by decide +kernel, rfl⟩
set_option maxRecDepth 100000 in
theorem ii_mo_copy_142 : sm_D prog_9_method_16_code 142 1 143 (.iload_n 1) := ⟨by decide +kernel, rfl⟩
set_option maxRecDepth 100000 in
theorem ii_mo_copy_143 : sm_D prog_9_method_16_code 143 1 144 (.imul) := ⟨by decide +kernel, rfl⟩
set_option maxRecDepth 100000 in
theorem ii_mo_copy_144 : sm_D prog_9_method_16_code 144 1 145 (.iload_n 2) := ⟨by decide +kernel, rfl⟩
set_option maxRecDepth 100000 in
theorem ii_mo_copy_145 : sm_D prog_9_method_16_code 145 1 146 (.iadd) := ⟨by decide +kernel, rfl⟩
set_option maxRecDepth 100000 in
theorem ii_mo_copy_146 : sm_D prog_9_method_16_code 146 2 148 (.iload 8) := ⟨by decide +kernel, rfl⟩
set_option maxRecDepth 100000 in
theorem ii_mo_copy_148 : sm_D prog_9_method_16_code 148 1 149 (.iadd) := ⟨by decide +kernel, rfl⟩
set_option maxRecDepth 100000 in
theorem ii_mo_copy_149 : sm_D prog_9_method_16_code 149 1 150 (.iaload) := ⟨by decide +kernel, rfl⟩
set_option maxRecDepth 100000 in
theorem ii_mo_copy_150 : sm_D prog_9_method_16_code 150 1 151 (.iastore) := ⟨by decide +kernel, rfl⟩
set_option maxRecDepth 100000 in
theorem ii_mo_copy_151 : sm_D prog_9_method_16_code 151 3 154 (.iinc 7 1) := ⟨by decide +kernel, rfl⟩
set_option maxRecDepth 100000 in
theorem ii_mo_copy_154 : sm_D prog_9_method_16_code 154 3 157 (.goto (-58)) := ⟨by decide +kernel, rfl⟩
set_option maxRecDepth 100000 in
theorem ii_mo_copy_157 : sm_D prog_9_method_16_code 157 1 158 (.iconst 1) := ⟨by decide +kernel, rfl⟩
set_option maxRecDepth 100000 in
theorem ii_mo_copy_158 : sm_D prog_9_method_16_code 158 1 159 (.ireturn) := ⟨by decide +kernel, rfl⟩
noncomputable def ff_mo_copy_120 (self96 : Int32 → Int32 → Int32 → Int32 → Int32 → Int32 → Int32 → sm_Mem → sm_R) (a1 : Int32) (a2 : Int32) (a3 : Int32) (a4 : Int32) (a5 : Int32) (a6 : Int32) (a7 : Int32) (b0 : Int32) (w : sm_Mem) : sm_R := (Option.bind (sm_rd w 68 240 ((((40 : Int32) * a1) + a2) + b0)) fun x1 => (Option.bind (sm_wr w 68 240 ((((40 : Int32) * a3) + a4) + b0) x1) fun w2 => self96 (a1) (a2) (a3) (a4) (a5) (a6) ((a7 + (1 : Int32))) w2))
set_option maxHeartbeats 4000000 in
set_option maxRecDepth 100000 in
theorem ss_mo_copy_120 {E : Nat × (Nat → Int32)} (self96 : Int32 → Int32 → Int32 → Int32 → Int32 → Int32 → Int32 → sm_Mem → sm_R) (hself96 : ∀ (a1 : Int32) (a2 : Int32) (a3 : Int32) (a4 : Int32) (a5 : Int32) (a6 : Int32) (a7 : Int32) (w : sm_Mem), sm_Sim E (mi_mo_copy) 96 [some (.ref 62), some (.int a1), some (.int a2), some (.int a3), some (.int a4), some (.int a5), some (.int a6), some (.int a7), none] [] w (self96 a1 a2 a3 a4 a5 a6 a7 w)) (a1 : Int32) (a2 : Int32) (a3 : Int32) (a4 : Int32) (a5 : Int32) (a6 : Int32) (a7 : Int32) (b0 : Int32) (w : sm_Mem) : sm_Sim E (mi_mo_copy) 120 [some (.ref 62), some (.int a1), some (.int a2), some (.int a3), some (.int a4), some (.int a5), some (.int a6), some (.int a7), none] [.int b0] w (ff_mo_copy_120 self96 a1 a2 a3 a4 a5 a6 a7 b0 w) := by
  unfold ff_mo_copy_120
  refine sm_istore [some (.ref 62), some (.int a1), some (.int a2), some (.int a3), some (.int a4), some (.int a5), some (.int a6), some (.int a7), some (.int b0)] ii_mo_copy_120 rfl rfl ?_
  refine sm_aload_n ii_mo_copy_122 rfl ?_
  refine sm_getR 68 ii_mo_copy_123 fl_mo_25 (k := 62) rfl ?_
  refine sm_bipush (40 : Int32) ii_mo_copy_126 (by decide) ?_
  refine sm_iload_n ii_mo_copy_128 rfl ?_
  refine sm_imul ii_mo_copy_129 ?_
  refine sm_iload ii_mo_copy_130 rfl ?_
  refine sm_iadd ii_mo_copy_132 ?_
  refine sm_iload ii_mo_copy_133 rfl ?_
  refine sm_iadd ii_mo_copy_135 ?_
  refine sm_aload_n ii_mo_copy_136 rfl ?_
  refine sm_getR 68 ii_mo_copy_137 fl_mo_25 (k := 62) rfl ?_
  refine sm_bipush (40 : Int32) ii_mo_copy_140 (by decide) ?_
  refine sm_iload_n ii_mo_copy_142 rfl ?_
  refine sm_imul ii_mo_copy_143 ?_
  refine sm_iload_n ii_mo_copy_144 rfl ?_
  refine sm_iadd ii_mo_copy_145 ?_
  refine sm_iload ii_mo_copy_146 rfl ?_
  refine sm_iadd ii_mo_copy_148 ?_
  refine sm_iald ii_mo_copy_149 (k := 68) rfl (fun x1 => ?_)
  refine sm_iast ii_mo_copy_150 (k := 68) rfl (fun w2 => ?_)
  refine sm_iinc (a7 + (1 : Int32)) [some (.ref 62), some (.int a1), some (.int a2), some (.int a3), some (.int a4), some (.int a5), some (.int a6), some (.int (a7 + (1 : Int32))), some (.int b0)] ii_mo_copy_151 rfl rfl rfl rfl ?_
  refine sm_goto 96 ii_mo_copy_154 (by decide) ?_
  refine sm_msk [true, true, true, true, true, true, true, true, false] [some (.ref 62), some (.int a1), some (.int a2), some (.int a3), some (.int a4), some (.int a5), some (.int a6), some (.int (a7 + (1 : Int32))), none] rfl ?_
  exact hself96 (a1) (a2) (a3) (a4) (a5) (a6) ((a7 + (1 : Int32))) w2
noncomputable def ff_mo_copy_96_b  (self96 : Int32 → Int32 → Int32 → Int32 → Int32 → Int32 → Int32 → sm_Mem → sm_R) (a1 : Int32) (a2 : Int32) (a3 : Int32) (a4 : Int32) (a5 : Int32) (a6 : Int32) (a7 : Int32) (w : sm_Mem) : sm_R := (if a5 ≤ a7 then (some (.int (1 : Int32), w)) else (if a6 = (0 : Int32) then ff_mo_copy_120 self96 (a1) (a2) (a3) (a4) (a5) (a6) (a7) (a7) w else ff_mo_copy_120 self96 (a1) (a2) (a3) (a4) (a5) (a6) (a7) (((a5 - (1 : Int32)) - a7)) w))
noncomputable def ff_mo_copy_96_f  : Nat → Int32 → Int32 → Int32 → Int32 → Int32 → Int32 → Int32 → sm_Mem → sm_R
  | 0, _, _, _, _, _, _, _, _ => none
  | n + 1, a1, a2, a3, a4, a5, a6, a7, w => ff_mo_copy_96_b  (ff_mo_copy_96_f  n) a1 a2 a3 a4 a5 a6 a7 w
noncomputable def ff_mo_copy_96  (a1 : Int32) (a2 : Int32) (a3 : Int32) (a4 : Int32) (a5 : Int32) (a6 : Int32) (a7 : Int32) (w : sm_Mem) : sm_R := ff_mo_copy_96_f  sm_N a1 a2 a3 a4 a5 a6 a7 w
set_option maxHeartbeats 4000000 in
set_option maxRecDepth 100000 in
theorem ss_mo_copy_96_b {E : Nat × (Nat → Int32)}  (self96 : Int32 → Int32 → Int32 → Int32 → Int32 → Int32 → Int32 → sm_Mem → sm_R) (hself96 : ∀ (a1 : Int32) (a2 : Int32) (a3 : Int32) (a4 : Int32) (a5 : Int32) (a6 : Int32) (a7 : Int32) (w : sm_Mem), sm_Sim E (mi_mo_copy) 96 [some (.ref 62), some (.int a1), some (.int a2), some (.int a3), some (.int a4), some (.int a5), some (.int a6), some (.int a7), none] [] w (self96 a1 a2 a3 a4 a5 a6 a7 w)) (a1 : Int32) (a2 : Int32) (a3 : Int32) (a4 : Int32) (a5 : Int32) (a6 : Int32) (a7 : Int32) (w : sm_Mem) : sm_Sim E (mi_mo_copy) 96 [some (.ref 62), some (.int a1), some (.int a2), some (.int a3), some (.int a4), some (.int a5), some (.int a6), some (.int a7), none] [] w (ff_mo_copy_96_b  self96 a1 a2 a3 a4 a5 a6 a7 w) := by
  unfold ff_mo_copy_96_b
  refine sm_iload ii_mo_copy_96 rfl ?_
  refine sm_iload ii_mo_copy_98 rfl ?_
  refine sm_icmp_ge 157 ii_mo_copy_100 (by decide) ?_ ?_
  · refine sm_iconst (1 : Int32) ii_mo_copy_157 (by decide) ?_
    exact sm_iret ii_mo_copy_158 rfl
  · refine sm_iload ii_mo_copy_103 rfl ?_
    refine sm_if_eq 118 ii_mo_copy_105 (by decide) ?_ ?_
    · refine sm_iload ii_mo_copy_118 rfl ?_
      exact ss_mo_copy_120 self96 hself96 (a1) (a2) (a3) (a4) (a5) (a6) (a7) (a7) w
    · refine sm_iload ii_mo_copy_108 rfl ?_
      refine sm_iconst (1 : Int32) ii_mo_copy_110 (by decide) ?_
      refine sm_isub ii_mo_copy_111 ?_
      refine sm_iload ii_mo_copy_112 rfl ?_
      refine sm_isub ii_mo_copy_114 ?_
      refine sm_goto 120 ii_mo_copy_115 (by decide) ?_
      exact ss_mo_copy_120 self96 hself96 (a1) (a2) (a3) (a4) (a5) (a6) (a7) (((a5 - (1 : Int32)) - a7)) w
set_option maxHeartbeats 4000000 in
set_option maxRecDepth 100000 in
theorem ss_mo_copy_96_f {E : Nat × (Nat → Int32)}  : ∀ (n : Nat) (a1 : Int32) (a2 : Int32) (a3 : Int32) (a4 : Int32) (a5 : Int32) (a6 : Int32) (a7 : Int32) (w : sm_Mem), sm_Sim E (mi_mo_copy) 96 [some (.ref 62), some (.int a1), some (.int a2), some (.int a3), some (.int a4), some (.int a5), some (.int a6), some (.int a7), none] [] w (ff_mo_copy_96_f  n a1 a2 a3 a4 a5 a6 a7 w)
  | 0, _, _, _, _, _, _, _, _ => fun _ _ h => by cases h
  | n + 1, a1, a2, a3, a4, a5, a6, a7, w => ss_mo_copy_96_b  _ (ss_mo_copy_96_f  n) a1 a2 a3 a4 a5 a6 a7 w
set_option maxHeartbeats 4000000 in
set_option maxRecDepth 100000 in
theorem ss_mo_copy_96 {E : Nat × (Nat → Int32)}  (a1 : Int32) (a2 : Int32) (a3 : Int32) (a4 : Int32) (a5 : Int32) (a6 : Int32) (a7 : Int32) (w : sm_Mem) : sm_Sim E (mi_mo_copy) 96 [some (.ref 62), some (.int a1), some (.int a2), some (.int a3), some (.int a4), some (.int a5), some (.int a6), some (.int a7), none] [] w (ff_mo_copy_96  a1 a2 a3 a4 a5 a6 a7 w) := ss_mo_copy_96_f  sm_N a1 a2 a3 a4 a5 a6 a7 w
noncomputable def ff_mo_copy_74   (w : sm_Mem) : sm_R := (sm_cI (ff_mo_find ((2 : Int32)) w) fun x3 w4 => (some (.int x3, w4)))
set_option maxHeartbeats 4000000 in
set_option maxRecDepth 100000 in
theorem ss_mo_copy_74 {E : Nat × (Nat → Int32)}   (w : sm_Mem) : sm_Sim E (mi_mo_copy) 74 [some (.ref 62), none, none, none, none, none, none, none, none] [] w (ff_mo_copy_74   w) := by
  unfold ff_mo_copy_74
  refine sm_aload_n ii_mo_copy_74 rfl ?_
  refine sm_iconst (2 : Int32) ii_mo_copy_75 (by decide) ?_
  refine sm_cvI [.int (2 : Int32)] [] rfl ii_mo_copy_76 ml_mo_81 (mf_mo_find) (mv_mo_find) (Nat.le_of_ble_eq_true rfl) rfl 7 rfl rfl rfl rfl (mc_mo_find ((2 : Int32)) w) (fun x3 w4 => ?_)
  exact sm_iret ii_mo_copy_79 rfl
noncomputable def ff_mo_copy_45   (w : sm_Mem) : sm_R := (sm_cI (ff_mo_find ((1 : Int32)) w) fun x5 w6 => (some (.int x5, w6)))
set_option maxHeartbeats 4000000 in
set_option maxRecDepth 100000 in
theorem ss_mo_copy_45 {E : Nat × (Nat → Int32)}   (w : sm_Mem) : sm_Sim E (mi_mo_copy) 45 [some (.ref 62), none, none, none, none, none, none, none, none] [] w (ff_mo_copy_45   w) := by
  unfold ff_mo_copy_45
  refine sm_aload_n ii_mo_copy_45 rfl ?_
  refine sm_iconst (1 : Int32) ii_mo_copy_46 (by decide) ?_
  refine sm_cvI [.int (1 : Int32)] [] rfl ii_mo_copy_47 ml_mo_81 (mf_mo_find) (mv_mo_find) (Nat.le_of_ble_eq_true rfl) rfl 7 rfl rfl rfl rfl (mc_mo_find ((1 : Int32)) w) (fun x5 w6 => ?_)
  exact sm_iret ii_mo_copy_50 rfl
noncomputable def ff_mo_copy  (a1 : Int32) (a2 : Int32) (a3 : Int32) (a4 : Int32) (a5 : Int32) (w : sm_Mem) : sm_R := (sm_cI (ff_mo_isRow (a1) w) fun x7 w8 => (if x7 = (0 : Int32) then (some (.int (-1 : Int32), w8)) else (sm_cI (ff_mo_isRow (a3) w8) fun x9 w10 => (if x9 = (0 : Int32) then (some (.int (-1 : Int32), w10)) else (if (0 : Int32) ≤ a5 then (Option.bind (sm_rd w10 67 6 a1) fun x11 => (if x11 < (0 : Int32) then ff_mo_copy_45  w10 else (Option.bind (sm_rd w10 67 6 a3) fun x12 => (if (0 : Int32) ≤ x12 then (sm_cI (ff_mo_isSpan (a1) (a2) (a5) w10) fun x13 w14 => (if x13 = (0 : Int32) then ff_mo_copy_74  w14 else (sm_cI (ff_mo_isSpan (a3) (a4) (a5) w14) fun x15 w16 => (if x15 = (0 : Int32) then ff_mo_copy_74  w16 else (if a4 ≤ a2 then ff_mo_copy_96 (a1) (a2) (a3) (a4) (a5) ((0 : Int32)) ((0 : Int32)) w16 else ff_mo_copy_96 (a1) (a2) (a3) (a4) (a5) ((1 : Int32)) ((0 : Int32)) w16))))) else ff_mo_copy_45  w10)))) else (sm_cI (ff_mo_find ((5 : Int32)) w10) fun x17 w18 => (some (.int x17, w18))))))))
set_option maxHeartbeats 4000000 in
set_option maxRecDepth 100000 in
theorem ss_mo_copy_0 {E : Nat × (Nat → Int32)}  (a1 : Int32) (a2 : Int32) (a3 : Int32) (a4 : Int32) (a5 : Int32) (w : sm_Mem) : sm_Sim E (mi_mo_copy) 0 [some (.ref 62), some (.int a1), some (.int a2), some (.int a3), some (.int a4), some (.int a5), none, none, none] [] w (ff_mo_copy  a1 a2 a3 a4 a5 w) := by
  unfold ff_mo_copy
  refine sm_iload_n ii_mo_copy_0 rfl ?_
  refine sm_csI [.int a1] [] rfl ii_mo_copy_1 ml_mo_77 (mf_mo_isRow) (mv_mo_isRow) (Nat.le_of_ble_eq_true rfl) rfl rfl rfl (mc_mo_isRow (a1) w) (fun x7 w8 => ?_)
  refine sm_if_eq 14 ii_mo_copy_4 (by decide) ?_ ?_
  · refine sm_iconst (-1 : Int32) ii_mo_copy_14 (by decide) ?_
    exact sm_iret ii_mo_copy_15 rfl
  · refine sm_iload_n ii_mo_copy_7 rfl ?_
    refine sm_csI [.int a3] [] rfl ii_mo_copy_8 ml_mo_77 (mf_mo_isRow) (mv_mo_isRow) (Nat.le_of_ble_eq_true rfl) rfl rfl rfl (mc_mo_isRow (a3) w8) (fun x9 w10 => ?_)
    refine sm_if_ne 16 ii_mo_copy_11 (by decide) ?_ ?_
    · refine sm_iconst (-1 : Int32) ii_mo_copy_14 (by decide) ?_
      exact sm_iret ii_mo_copy_15 rfl
    · refine sm_iload ii_mo_copy_16 rfl ?_
      refine sm_if_ge 27 ii_mo_copy_18 (by decide) ?_ ?_
      · refine sm_aload_n ii_mo_copy_27 rfl ?_
        refine sm_getR 67 ii_mo_copy_28 fl_mo_22 (k := 62) rfl ?_
        refine sm_iload_n ii_mo_copy_31 rfl ?_
        refine sm_iald ii_mo_copy_32 (k := 67) rfl (fun x11 => ?_)
        refine sm_if_lt 45 ii_mo_copy_33 (by decide) ?_ ?_
        · refine sm_msk [true, false, false, false, false, false, false, false, false] [some (.ref 62), none, none, none, none, none, none, none, none] rfl ?_
          exact ss_mo_copy_45  w10
        · refine sm_aload_n ii_mo_copy_36 rfl ?_
          refine sm_getR 67 ii_mo_copy_37 fl_mo_22 (k := 62) rfl ?_
          refine sm_iload_n ii_mo_copy_40 rfl ?_
          refine sm_iald ii_mo_copy_41 (k := 67) rfl (fun x12 => ?_)
          refine sm_if_ge 51 ii_mo_copy_42 (by decide) ?_ ?_
          · refine sm_aload_n ii_mo_copy_51 rfl ?_
            refine sm_iload_n ii_mo_copy_52 rfl ?_
            refine sm_iload_n ii_mo_copy_53 rfl ?_
            refine sm_iload ii_mo_copy_54 rfl ?_
            refine sm_cvI [.int a1, .int a2, .int a5] [] rfl ii_mo_copy_56 ml_mo_96 (mf_mo_isSpan) (mv_mo_isSpan) (Nat.le_of_ble_eq_true rfl) rfl 7 rfl rfl rfl rfl (mc_mo_isSpan (a1) (a2) (a5) w10) (fun x13 w14 => ?_)
            refine sm_if_eq 74 ii_mo_copy_59 (by decide) ?_ ?_
            · refine sm_msk [true, false, false, false, false, false, false, false, false] [some (.ref 62), none, none, none, none, none, none, none, none] rfl ?_
              exact ss_mo_copy_74  w14
            · refine sm_aload_n ii_mo_copy_62 rfl ?_
              refine sm_iload_n ii_mo_copy_63 rfl ?_
              refine sm_iload ii_mo_copy_64 rfl ?_
              refine sm_iload ii_mo_copy_66 rfl ?_
              refine sm_cvI [.int a3, .int a4, .int a5] [] rfl ii_mo_copy_68 ml_mo_96 (mf_mo_isSpan) (mv_mo_isSpan) (Nat.le_of_ble_eq_true rfl) rfl 7 rfl rfl rfl rfl (mc_mo_isSpan (a3) (a4) (a5) w14) (fun x15 w16 => ?_)
              refine sm_if_ne 80 ii_mo_copy_71 (by decide) ?_ ?_
              · refine sm_msk [true, false, false, false, false, false, false, false, false] [some (.ref 62), none, none, none, none, none, none, none, none] rfl ?_
                exact ss_mo_copy_74  w16
              · refine sm_iload_n ii_mo_copy_80 rfl ?_
                refine sm_iload ii_mo_copy_81 rfl ?_
                refine sm_icmp_ge 90 ii_mo_copy_83 (by decide) ?_ ?_
                · refine sm_iconst (0 : Int32) ii_mo_copy_90 (by decide) ?_
                  refine sm_istore [some (.ref 62), some (.int a1), some (.int a2), some (.int a3), some (.int a4), some (.int a5), some (.int (0 : Int32)), none, none] ii_mo_copy_91 rfl rfl ?_
                  refine sm_iconst (0 : Int32) ii_mo_copy_93 (by decide) ?_
                  refine sm_istore [some (.ref 62), some (.int a1), some (.int a2), some (.int a3), some (.int a4), some (.int a5), some (.int (0 : Int32)), some (.int (0 : Int32)), none] ii_mo_copy_94 rfl rfl ?_
                  exact ss_mo_copy_96 (a1) (a2) (a3) (a4) (a5) ((0 : Int32)) ((0 : Int32)) w16
                · refine sm_iconst (1 : Int32) ii_mo_copy_86 (by decide) ?_
                  refine sm_goto 91 ii_mo_copy_87 (by decide) ?_
                  refine sm_istore [some (.ref 62), some (.int a1), some (.int a2), some (.int a3), some (.int a4), some (.int a5), some (.int (1 : Int32)), none, none] ii_mo_copy_91 rfl rfl ?_
                  refine sm_iconst (0 : Int32) ii_mo_copy_93 (by decide) ?_
                  refine sm_istore [some (.ref 62), some (.int a1), some (.int a2), some (.int a3), some (.int a4), some (.int a5), some (.int (1 : Int32)), some (.int (0 : Int32)), none] ii_mo_copy_94 rfl rfl ?_
                  exact ss_mo_copy_96 (a1) (a2) (a3) (a4) (a5) ((1 : Int32)) ((0 : Int32)) w16
          · refine sm_msk [true, false, false, false, false, false, false, false, false] [some (.ref 62), none, none, none, none, none, none, none, none] rfl ?_
            exact ss_mo_copy_45  w10
      · refine sm_aload_n ii_mo_copy_21 rfl ?_
        refine sm_iconst (5 : Int32) ii_mo_copy_22 (by decide) ?_
        refine sm_cvI [.int (5 : Int32)] [] rfl ii_mo_copy_23 ml_mo_81 (mf_mo_find) (mv_mo_find) (Nat.le_of_ble_eq_true rfl) rfl 7 rfl rfl rfl rfl (mc_mo_find ((5 : Int32)) w10) (fun x17 w18 => ?_)
        exact sm_iret ii_mo_copy_26 rfl
set_option maxHeartbeats 4000000 in
set_option maxRecDepth 100000 in
theorem mc_mo_copy (a1 : Int32) (a2 : Int32) (a3 : Int32) (a4 : Int32) (a5 : Int32) (w : sm_Mem) : sm_MC mi_mo_copy [.ref 62, .int a1, .int a2, .int a3, .int a4, .int a5] w (ff_mo_copy a1 a2 a3 a4 a5 w) := sm_MC_of (0, fun _ => 0) (by decide +kernel) (by decide) rfl (Nat.le_of_ble_eq_true rfl) (ss_mo_copy_0 a1 a2 a3 a4 a5 w)
abbrev mi_rw_sum : sm_MI := (⟨"HerOrders$Row", "sum", "()J"⟩, prog_4_method_6_code, 4, (some .long), 1)
set_option maxRecDepth 100000 in
theorem mf_rw_sum : sm_MF mi_rw_sum 0 := ⟨List.mem_of_getElem? (i := 449) (by decide +kernel), List.mem_of_getElem? (i := 125) (by decide +kernel), ⟨by decide, by decide⟩, by decide +kernel⟩
set_option maxRecDepth 100000 in
theorem mv_rw_sum : sm_MFV mi_rw_sum := ⟨List.mem_of_getElem? (i := 448) (by decide +kernel), List.mem_of_getElem? (i := 7) (by decide +kernel)⟩
set_option maxRecDepth 100000 in
theorem ii_rw_sum_0 : sm_D prog_4_method_6_code 0 1 1 (.lconst 0) := ⟨by decide +kernel, rfl⟩
set_option maxRecDepth 100000 in
theorem ii_rw_sum_1 : sm_D prog_4_method_6_code 1 1 2 (.lstore_n 1) := ⟨by decide +kernel, rfl⟩
set_option maxRecDepth 100000 in
theorem ii_rw_sum_2 : sm_D prog_4_method_6_code 2 1 3 (.iconst 0) := ⟨by decide +kernel, rfl⟩
set_option maxRecDepth 100000 in
theorem ii_rw_sum_3 : sm_D prog_4_method_6_code 3 1 4 (.istore_n 3) := ⟨by decide +kernel, rfl⟩
set_option maxRecDepth 100000 in
theorem ii_rw_sum_4 : sm_D prog_4_method_6_code 4 1 5 (.iload_n 3) := ⟨by decide +kernel, rfl⟩
set_option maxRecDepth 100000 in
theorem ii_rw_sum_5 : sm_D prog_4_method_6_code 5 1 6 (.aload_n 0) := ⟨by decide +kernel, rfl⟩
set_option maxRecDepth 100000 in
theorem ii_rw_sum_6 : sm_D prog_4_method_6_code 6 3 9 (.getfield 21) := ⟨by decide +kernel, rfl⟩
set_option maxRecDepth 100000 in
theorem ii_rw_sum_9 : sm_D prog_4_method_6_code 9 3 12 (.if_icmp .ge 19) := ⟨by decide +kernel, rfl⟩
set_option maxRecDepth 100000 in
theorem ii_rw_sum_12 : sm_D prog_4_method_6_code 12 1 13 (.lload_n 1) := ⟨by decide +kernel, rfl⟩
set_option maxRecDepth 100000 in
theorem ii_rw_sum_13 : sm_D prog_4_method_6_code 13 1 14 (.aload_n 0) := ⟨by decide +kernel, rfl⟩
set_option maxRecDepth 100000 in
theorem ii_rw_sum_14 : sm_D prog_4_method_6_code 14 3 17 (.getfield 15) := ⟨by decide +kernel, rfl⟩
set_option maxRecDepth 100000 in
theorem ii_rw_sum_17 : sm_D prog_4_method_6_code 17 1 18 (.iload_n 3) := ⟨by decide +kernel, rfl⟩
set_option maxRecDepth 100000 in
theorem ii_rw_sum_18 : sm_D prog_4_method_6_code 18 1 19 (.iaload) := ⟨by decide +kernel, rfl⟩
set_option maxRecDepth 100000 in
theorem ii_rw_sum_19 : sm_D prog_4_method_6_code 19 1 20 (.i2l) := ⟨by decide +kernel, rfl⟩
set_option maxRecDepth 100000 in
theorem ii_rw_sum_20 : sm_D prog_4_method_6_code 20 1 21 (.ladd) := ⟨by decide +kernel, rfl⟩
set_option maxRecDepth 100000 in
theorem ii_rw_sum_21 : sm_D prog_4_method_6_code 21 1 22 (.lstore_n 1) := ⟨by decide +kernel, rfl⟩
set_option maxRecDepth 100000 in
theorem ii_rw_sum_22 : sm_D prog_4_method_6_code 22 3 25 (.iinc 3 1) := ⟨by decide +kernel, rfl⟩
set_option maxRecDepth 100000 in
theorem ii_rw_sum_25 : sm_D prog_4_method_6_code 25 3 28 (.goto (-21)) := ⟨by decide +kernel, rfl⟩
set_option maxRecDepth 100000 in
theorem ii_rw_sum_28 : sm_D prog_4_method_6_code 28 1 29 (.lload_n 1) := ⟨by decide +kernel, rfl⟩
set_option maxRecDepth 100000 in
theorem ii_rw_sum_29 : sm_D prog_4_method_6_code 29 1 30 (.lreturn) := ⟨by decide +kernel, rfl⟩
noncomputable def ff_rw_sum_4_b  (self4 : Nat → Int64 → Int32 → sm_Mem → sm_R) (a0 : Nat) (a1 : Int64) (a3 : Int32) (w : sm_Mem) : sm_R := (Option.bind (sm_gI w a0 2 1) fun x1 => (if x1 ≤ a3 then (some (.long a1, w)) else (Option.bind (sm_fk a0 2 0 2) fun r2 => (Option.bind (sm_rds w r2 a3) fun x3 => self4 (a0) ((a1 + (Int32.toInt64 x3))) ((a3 + (1 : Int32))) w))))
noncomputable def ff_rw_sum_4_f  : Nat → Nat → Int64 → Int32 → sm_Mem → sm_R
  | 0, _, _, _, _ => none
  | n + 1, a0, a1, a3, w => ff_rw_sum_4_b  (ff_rw_sum_4_f  n) a0 a1 a3 w
noncomputable def ff_rw_sum_4  (a0 : Nat) (a1 : Int64) (a3 : Int32) (w : sm_Mem) : sm_R := ff_rw_sum_4_f  sm_N a0 a1 a3 w
set_option maxHeartbeats 4000000 in
set_option maxRecDepth 100000 in
theorem ss_rw_sum_4_b {E : Nat × (Nat → Int32)}  (self4 : Nat → Int64 → Int32 → sm_Mem → sm_R) (hself4 : ∀ (a0 : Nat) (a1 : Int64) (a3 : Int32) (w : sm_Mem), sm_Sim E (mi_rw_sum) 4 [some (.ref a0), some (.long a1), none, some (.int a3)] [] w (self4 a0 a1 a3 w)) (a0 : Nat) (a1 : Int64) (a3 : Int32) (w : sm_Mem) : sm_Sim E (mi_rw_sum) 4 [some (.ref a0), some (.long a1), none, some (.int a3)] [] w (ff_rw_sum_4_b  self4 a0 a1 a3 w) := by
  unfold ff_rw_sum_4_b
  refine sm_iload_n ii_rw_sum_4 rfl ?_
  refine sm_aload_n ii_rw_sum_5 rfl ?_
  refine sm_getIs ii_rw_sum_6 fl_rw_21 (fun x1 => ?_)
  refine sm_icmp_ge 28 ii_rw_sum_9 (by decide) ?_ ?_
  · refine sm_lload_n ii_rw_sum_28 rfl ?_
    exact sm_lret ii_rw_sum_29 rfl
  · refine sm_lload_n ii_rw_sum_12 rfl ?_
    refine sm_aload_n ii_rw_sum_13 rfl ?_
    refine sm_getRs ii_rw_sum_14 fl_rw_15 (fun r2 => ?_)
    refine sm_iload_n ii_rw_sum_17 rfl ?_
    refine sm_ialds ii_rw_sum_18 (fun x3 => ?_)
    refine sm_i2l ii_rw_sum_19 ?_
    refine sm_ladd ii_rw_sum_20 ?_
    refine sm_lstore_n [some (.ref a0), some (.long (a1 + (Int32.toInt64 x3))), none, some (.int a3)] ii_rw_sum_21 rfl rfl ?_
    refine sm_iinc (a3 + (1 : Int32)) [some (.ref a0), some (.long (a1 + (Int32.toInt64 x3))), none, some (.int (a3 + (1 : Int32)))] ii_rw_sum_22 rfl rfl rfl rfl ?_
    refine sm_goto 4 ii_rw_sum_25 (by decide) ?_
    exact hself4 (a0) ((a1 + (Int32.toInt64 x3))) ((a3 + (1 : Int32))) w
set_option maxHeartbeats 4000000 in
set_option maxRecDepth 100000 in
theorem ss_rw_sum_4_f {E : Nat × (Nat → Int32)}  : ∀ (n : Nat) (a0 : Nat) (a1 : Int64) (a3 : Int32) (w : sm_Mem), sm_Sim E (mi_rw_sum) 4 [some (.ref a0), some (.long a1), none, some (.int a3)] [] w (ff_rw_sum_4_f  n a0 a1 a3 w)
  | 0, _, _, _, _ => fun _ _ h => by cases h
  | n + 1, a0, a1, a3, w => ss_rw_sum_4_b  _ (ss_rw_sum_4_f  n) a0 a1 a3 w
set_option maxHeartbeats 4000000 in
set_option maxRecDepth 100000 in
theorem ss_rw_sum_4 {E : Nat × (Nat → Int32)}  (a0 : Nat) (a1 : Int64) (a3 : Int32) (w : sm_Mem) : sm_Sim E (mi_rw_sum) 4 [some (.ref a0), some (.long a1), none, some (.int a3)] [] w (ff_rw_sum_4  a0 a1 a3 w) := ss_rw_sum_4_f  sm_N a0 a1 a3 w
noncomputable def ff_rw_sum  (a0 : Nat) (w : sm_Mem) : sm_R := ff_rw_sum_4 (a0) ((0 : Int64)) ((0 : Int32)) w
set_option maxHeartbeats 4000000 in
set_option maxRecDepth 100000 in
theorem ss_rw_sum_0 {E : Nat × (Nat → Int32)}  (a0 : Nat) (w : sm_Mem) : sm_Sim E (mi_rw_sum) 0 [some (.ref a0), none, none, none] [] w (ff_rw_sum  a0 w) := by
  unfold ff_rw_sum
  refine sm_lconst (0 : Int64) ii_rw_sum_0 (by decide) ?_
  refine sm_lstore_n [some (.ref a0), some (.long (0 : Int64)), none, none] ii_rw_sum_1 rfl rfl ?_
  refine sm_iconst (0 : Int32) ii_rw_sum_2 (by decide) ?_
  refine sm_istore_n [some (.ref a0), some (.long (0 : Int64)), none, some (.int (0 : Int32))] ii_rw_sum_3 rfl rfl ?_
  exact ss_rw_sum_4 (a0) ((0 : Int64)) ((0 : Int32)) w
set_option maxHeartbeats 4000000 in
set_option maxRecDepth 100000 in
theorem mc_rw_sum (a0 : Nat) (w : sm_Mem) : sm_MC mi_rw_sum [.ref a0] w (ff_rw_sum a0 w) := sm_MC_of (0, fun _ => 0) (by decide +kernel) (by decide) rfl (Nat.le_of_ble_eq_true rfl) (ss_rw_sum_0 a0 w)
abbrev mi_ho_mean : sm_MI := (⟨"HerOrders", "mean", "(I)I"⟩, prog_1_method_7_code, 4, (some .int), 3)
set_option maxRecDepth 100000 in
theorem mf_ho_mean : sm_MF mi_ho_mean 1 := ⟨List.mem_of_getElem? (i := 445) (by decide +kernel), List.mem_of_getElem? (i := 124) (by decide +kernel), ⟨by decide, by decide⟩, by decide +kernel⟩
set_option maxRecDepth 100000 in
theorem mv_ho_mean : sm_MFV mi_ho_mean := ⟨List.mem_of_getElem? (i := 443) (by decide +kernel), List.mem_of_getElem? (i := 444) (by decide +kernel)⟩
set_option maxRecDepth 100000 in
theorem ii_ho_mean_0 : sm_D prog_1_method_7_code 0 1 1 (.aload_n 0) := ⟨by decide +kernel, rfl⟩
set_option maxRecDepth 100000 in
theorem ii_ho_mean_1 : sm_D prog_1_method_7_code 1 1 2 (.aload_n 0) := ⟨by decide +kernel, rfl⟩
set_option maxRecDepth 100000 in
theorem ii_ho_mean_2 : sm_D prog_1_method_7_code 2 3 5 (.getfield 11) := ⟨by decide +kernel, rfl⟩
set_option maxRecDepth 100000 in
theorem ii_ho_mean_5 : sm_D prog_1_method_7_code 5 1 6 (.iload_n 1) := ⟨by decide +kernel, rfl⟩
set_option maxRecDepth 100000 in
theorem ii_ho_mean_6 : sm_D prog_1_method_7_code 6 3 9 (.invokevirtual 74) := ⟨by decide +kernel, rfl⟩
set_option maxRecDepth 100000 in
theorem ii_ho_mean_9 : sm_D prog_1_method_7_code 9 1 10 (.istore_n 2) := ⟨by decide +kernel, rfl⟩
set_option maxRecDepth 100000 in
theorem ii_ho_mean_10 : sm_D prog_1_method_7_code 10 1 11 (.iload_n 2) := ⟨by decide +kernel, rfl⟩
set_option maxRecDepth 100000 in
theorem ii_ho_mean_11 : sm_D prog_1_method_7_code 11 3 14 (.ifCond .eq 5) := ⟨by decide +kernel, rfl⟩
set_option maxRecDepth 100000 in
theorem ii_ho_mean_14 : sm_D prog_1_method_7_code 14 1 15 (.iload_n 2) := ⟨by decide +kernel, rfl⟩
set_option maxRecDepth 100000 in
theorem ii_ho_mean_15 : sm_D prog_1_method_7_code 15 1 16 (.ireturn) := ⟨by decide +kernel, rfl⟩
set_option maxRecDepth 100000 in
theorem ii_ho_mean_16 : sm_D prog_1_method_7_code 16 1 17 (.aload_n 0) := ⟨by decide +kernel, rfl⟩
set_option maxRecDepth 100000 in
theorem ii_ho_mean_17 : sm_D prog_1_method_7_code 17 3 20 (.getfield 11) := ⟨by decide +kernel, rfl⟩
set_option maxRecDepth 100000 in
theorem ii_ho_mean_20 : sm_D prog_1_method_7_code 20 1 21 (.iload_n 1) := ⟨by decide +kernel, rfl⟩
set_option maxRecDepth 100000 in
theorem ii_ho_mean_21 : sm_D prog_1_method_7_code 21 1 22 (.aaload) := ⟨by decide +kernel, rfl⟩
set_option maxRecDepth 100000 in
theorem ii_ho_mean_22 : sm_D prog_1_method_7_code 22 3 25 (.getfield 78) := ⟨by decide +kernel, rfl⟩
set_option maxRecDepth 100000 in
theorem ii_ho_mean_25 : sm_D prog_1_method_7_code 25 1 26 (.istore_n 3) := ⟨by decide +kernel, rfl⟩
set_option maxRecDepth 100000 in
theorem ii_ho_mean_26 : sm_D prog_1_method_7_code 26 1 27 (.iload_n 3) := ⟨by decide +kernel, rfl⟩
set_option maxRecDepth 100000 in
theorem ii_ho_mean_27 : sm_D prog_1_method_7_code 27 3 30 (.ifCond .gt 12) := ⟨by decide +kernel, rfl⟩
set_option maxRecDepth 100000 in
theorem ii_ho_mean_30 : sm_D prog_1_method_7_code 30 1 31 (.aload_n 0) := ⟨by decide +kernel, rfl⟩
set_option maxRecDepth 100000 in
theorem ii_ho_mean_31 : sm_D prog_1_method_7_code 31 3 34 (.getfield 54) := ⟨by decide +kernel, rfl⟩
set_option maxRecDepth 100000 in
theorem ii_ho_mean_34 : sm_D prog_1_method_7_code 34 1 35 (.iconst 4) := ⟨by decide +kernel, rfl⟩
set_option maxRecDepth 100000 in
theorem ii_ho_mean_35 : sm_D prog_1_method_7_code 35 3 38 (.invokevirtual 85) := ⟨by decide +kernel, rfl⟩
set_option maxRecDepth 100000 in
theorem ii_ho_mean_38 : sm_D prog_1_method_7_code 38 1 39 (.ireturn) := ⟨by decide +kernel, rfl⟩
set_option maxRecDepth 100000 in
theorem ii_ho_mean_39 : sm_D prog_1_method_7_code 39 1 40 (.aload_n 0) := ⟨by decide +kernel, rfl⟩
set_option maxRecDepth 100000 in
theorem ii_ho_mean_40 : sm_D prog_1_method_7_code 40 3 43 (.getfield 54) := ⟨by decide +kernel, rfl⟩
set_option maxRecDepth 100000 in
theorem ii_ho_mean_43 : sm_D prog_1_method_7_code 43 1 44 (.aload_n 0) := ⟨by decide +kernel, rfl⟩
set_option maxRecDepth 100000 in
theorem ii_ho_mean_44 : sm_D prog_1_method_7_code 44 3 47 (.getfield 11) := ⟨by decide +kernel, rfl⟩
set_option maxRecDepth 100000 in
theorem ii_ho_mean_47 : sm_D prog_1_method_7_code 47 1 48 (.iload_n 1) := ⟨by decide +kernel, rfl⟩
set_option maxRecDepth 100000 in
theorem ii_ho_mean_48 : sm_D prog_1_method_7_code 48 1 49 (.aaload) := ⟨by decide +kernel, rfl⟩
set_option maxRecDepth 100000 in
theorem ii_ho_mean_49 : sm_D prog_1_method_7_code 49 3 52 (.invokevirtual 102) := ⟨by decide +kernel, rfl⟩
set_option maxRecDepth 100000 in
theorem ii_ho_mean_52 : sm_D prog_1_method_7_code 52 1 53 (.iload_n 3) := ⟨by decide +kernel, rfl⟩
set_option maxRecDepth 100000 in
theorem ii_ho_mean_53 : sm_D prog_1_method_7_code 53 1 54 (.i2l) := ⟨by decide +kernel, rfl⟩
set_option maxRecDepth 100000 in
theorem ii_ho_mean_54 : sm_D prog_1_method_7_code 54 1 55 (.ldiv) := ⟨by decide +kernel, rfl⟩
set_option maxRecDepth 100000 in
theorem ii_ho_mean_55 : sm_D prog_1_method_7_code 55 1 56 (.l2i) := ⟨by decide +kernel, rfl⟩
set_option maxRecDepth 100000 in
theorem ii_ho_mean_56 : sm_D prog_1_method_7_code 56 3 59 (.putfield 70) := ⟨by decide +kernel, rfl⟩
set_option maxRecDepth 100000 in
theorem ii_ho_mean_59 : sm_D prog_1_method_7_code 59 1 60 (.iconst 1) := ⟨by decide +kernel, rfl⟩
set_option maxRecDepth 100000 in
theorem ii_ho_mean_60 : sm_D prog_1_method_7_code 60 1 61 (.ireturn) := ⟨by decide +kernel, rfl⟩
noncomputable def ff_ho_mean  (a1 : Int32) (w : sm_Mem) : sm_R := (sm_cI (ff_ho_refusalOfMissing (1) (a1) w) fun x1 w2 => (if x1 = (0 : Int32) then (Option.bind (sm_rr 1 a1) fun r3 => (Option.bind (sm_gI w2 r3 2 1) fun x4 => (if (0 : Int32) < x4 then (Option.bind (sm_rr 1 a1) fun r5 => (sm_cL (sm_rc r5 2 (ff_rw_sum (r5) w2)) fun x6 w7 => (if (Int32.toInt64 x4) = (0 : Int64) then none else (sm_let (sm_wI w7 60 0 (Int64.toInt32 (x6 / (Int32.toInt64 x4)))) fun w9 => (some (.int (1 : Int32), w9)))))) else (sm_cI (ff_td_refuse ((4 : Int32)) w2) fun x10 w11 => (some (.int x10, w11)))))) else (some (.int x1, w2))))
set_option maxHeartbeats 4000000 in
set_option maxRecDepth 100000 in
theorem ss_ho_mean_0 {E : Nat × (Nat → Int32)}  (a1 : Int32) (w : sm_Mem) : sm_Sim E (mi_ho_mean) 0 [some (.ref 0), some (.int a1), none, none] [] w (ff_ho_mean  a1 w) := by
  unfold ff_ho_mean
  refine sm_aload_n ii_ho_mean_0 rfl ?_
  refine sm_aload_n ii_ho_mean_1 rfl ?_
  refine sm_getR 1 ii_ho_mean_2 fl_ho_11 (k := 0) rfl ?_
  refine sm_iload_n ii_ho_mean_5 rfl ?_
  refine sm_cvI [.ref 1, .int a1] [] rfl ii_ho_mean_6 ml_ho_74 (mf_ho_refusalOfMissing) (mv_ho_refusalOfMissing) (Nat.le_of_ble_eq_true rfl) rfl 6 rfl rfl rfl rfl (mc_ho_refusalOfMissing (1) (a1) w) (fun x1 w2 => ?_)
  refine sm_istore_n [some (.ref 0), some (.int a1), some (.int x1), none] ii_ho_mean_9 rfl rfl ?_
  refine sm_iload_n ii_ho_mean_10 rfl ?_
  refine sm_if_eq 16 ii_ho_mean_11 (by decide) ?_ ?_
  · refine sm_aload_n ii_ho_mean_16 rfl ?_
    refine sm_getR 1 ii_ho_mean_17 fl_ho_11 (k := 0) rfl ?_
    refine sm_iload_n ii_ho_mean_20 rfl ?_
    refine sm_aald ii_ho_mean_21 (fun r3 => ?_)
    refine sm_getIs ii_ho_mean_22 fl_ho_78 (fun x4 => ?_)
    refine sm_istore_n [some (.ref 0), some (.int a1), some (.int x1), some (.int x4)] ii_ho_mean_25 rfl rfl ?_
    refine sm_iload_n ii_ho_mean_26 rfl ?_
    refine sm_if_gt 39 ii_ho_mean_27 (by decide) ?_ ?_
    · refine sm_aload_n ii_ho_mean_39 rfl ?_
      refine sm_getR 60 ii_ho_mean_40 fl_ho_54 (k := 0) rfl ?_
      refine sm_aload_n ii_ho_mean_43 rfl ?_
      refine sm_getR 1 ii_ho_mean_44 fl_ho_11 (k := 0) rfl ?_
      refine sm_iload_n ii_ho_mean_47 rfl ?_
      refine sm_aald ii_ho_mean_48 (fun r5 => ?_)
      refine sm_dvL [] [.ref 60] rfl ii_ho_mean_49 ml_ho_102 (mf_rw_sum) (mv_rw_sum) (Nat.le_of_ble_eq_true rfl) rfl 2 rfl rfl rfl (mc_rw_sum (r5) w2) (fun x6 w7 => ?_)
      refine sm_iload_n ii_ho_mean_52 rfl ?_
      refine sm_i2l ii_ho_mean_53 ?_
      refine sm_ldiv ii_ho_mean_54 ?_
      refine sm_l2i ii_ho_mean_55 ?_
      refine sm_putI ii_ho_mean_56 fp_ho_70 (k := 60) rfl (fun w9 => ?_)
      refine sm_iconst (1 : Int32) ii_ho_mean_59 (by decide) ?_
      exact sm_iret ii_ho_mean_60 rfl
    · refine sm_aload_n ii_ho_mean_30 rfl ?_
      refine sm_getR 60 ii_ho_mean_31 fl_ho_54 (k := 0) rfl ?_
      refine sm_iconst (4 : Int32) ii_ho_mean_34 (by decide) ?_
      refine sm_cvI [.int (4 : Int32)] [] rfl ii_ho_mean_35 ml_ho_85 (mf_td_refuse) (mv_td_refuse) (Nat.le_of_ble_eq_true rfl) rfl 3 rfl rfl rfl rfl (mc_td_refuse ((4 : Int32)) w2) (fun x10 w11 => ?_)
      exact sm_iret ii_ho_mean_38 rfl
  · refine sm_iload_n ii_ho_mean_14 rfl ?_
    exact sm_iret ii_ho_mean_15 rfl
set_option maxHeartbeats 4000000 in
set_option maxRecDepth 100000 in
theorem mc_ho_mean (a1 : Int32) (w : sm_Mem) : sm_MC mi_ho_mean [.ref 0, .int a1] w (ff_ho_mean a1 w) := sm_MC_of (0, fun _ => 0) (by decide +kernel) (by decide) rfl (Nat.le_of_ble_eq_true rfl) (ss_ho_mean_0 a1 w)
abbrev mi_mo_mean : sm_MI := (⟨"HerOrdersModel", "mean", "(I)I"⟩, prog_9_method_17_code, 5, (some .int), 3)
set_option maxRecDepth 100000 in
theorem mf_mo_mean : sm_MF mi_mo_mean 1 := ⟨List.mem_of_getElem? (i := 1083) (by decide +kernel), List.mem_of_getElem? (i := 132) (by decide +kernel), ⟨by decide, by decide⟩, by decide +kernel⟩
set_option maxRecDepth 100000 in
theorem mv_mo_mean : sm_MFV mi_mo_mean := ⟨List.mem_of_getElem? (i := 1081) (by decide +kernel), List.mem_of_getElem? (i := 1082) (by decide +kernel)⟩
set_option maxRecDepth 100000 in
theorem ii_mo_mean_0 : sm_D prog_9_method_17_code 0 1 1 (.iload_n 1) := ⟨by decide +kernel, rfl⟩
set_option maxRecDepth 100000 in
theorem ii_mo_mean_1 : sm_D prog_9_method_17_code 1 3 4 (.invokestatic 77) := ⟨by decide +kernel, rfl⟩
set_option maxRecDepth 100000 in
theorem ii_mo_mean_4 : sm_D prog_9_method_17_code 4 3 7 (.ifCond .ne 5) := ⟨by decide +kernel, rfl⟩
set_option maxRecDepth 100000 in
theorem ii_mo_mean_7 : sm_D prog_9_method_17_code 7 1 8 (.iconst (-1)) := ⟨by decide +kernel, rfl⟩
set_option maxRecDepth 100000 in
theorem ii_mo_mean_8 : sm_D prog_9_method_17_code 8 1 9 (.ireturn) := ⟨by decide +kernel, rfl⟩
set_option maxRecDepth 100000 in
theorem ii_mo_mean_9 : sm_D prog_9_method_17_code 9 1 10 (.aload_n 0) := ⟨by decide +kernel, rfl⟩
set_option maxRecDepth 100000 in
theorem ii_mo_mean_10 : sm_D prog_9_method_17_code 10 3 13 (.getfield 22) := ⟨by decide +kernel, rfl⟩
set_option maxRecDepth 100000 in
theorem ii_mo_mean_13 : sm_D prog_9_method_17_code 13 1 14 (.iload_n 1) := ⟨by decide +kernel, rfl⟩
set_option maxRecDepth 100000 in
theorem ii_mo_mean_14 : sm_D prog_9_method_17_code 14 1 15 (.iaload) := ⟨by decide +kernel, rfl⟩
set_option maxRecDepth 100000 in
theorem ii_mo_mean_15 : sm_D prog_9_method_17_code 15 3 18 (.ifCond .ge 9) := ⟨by decide +kernel, rfl⟩
set_option maxRecDepth 100000 in
theorem ii_mo_mean_18 : sm_D prog_9_method_17_code 18 1 19 (.aload_n 0) := ⟨by decide +kernel, rfl⟩
set_option maxRecDepth 100000 in
theorem ii_mo_mean_19 : sm_D prog_9_method_17_code 19 1 20 (.iconst 1) := ⟨by decide +kernel, rfl⟩
set_option maxRecDepth 100000 in
theorem ii_mo_mean_20 : sm_D prog_9_method_17_code 20 3 23 (.invokevirtual 81) := ⟨by decide +kernel, rfl⟩
set_option maxRecDepth 100000 in
theorem ii_mo_mean_23 : sm_D prog_9_method_17_code 23 1 24 (.ireturn) := ⟨by decide +kernel, rfl⟩
set_option maxRecDepth 100000 in
theorem ii_mo_mean_24 : sm_D prog_9_method_17_code 24 1 25 (.aload_n 0) := ⟨by decide +kernel, rfl⟩
set_option maxRecDepth 100000 in
theorem ii_mo_mean_25 : sm_D prog_9_method_17_code 25 3 28 (.getfield 22) := ⟨by decide +kernel, rfl⟩
set_option maxRecDepth 100000 in
theorem ii_mo_mean_28 : sm_D prog_9_method_17_code 28 1 29 (.iload_n 1) := ⟨by decide +kernel, rfl⟩
set_option maxRecDepth 100000 in
theorem ii_mo_mean_29 : sm_D prog_9_method_17_code 29 1 30 (.iaload) := ⟨by decide +kernel, rfl⟩
set_option maxRecDepth 100000 in
theorem ii_mo_mean_30 : sm_D prog_9_method_17_code 30 3 33 (.ifCond .ne 9) := ⟨by decide +kernel, rfl⟩
set_option maxRecDepth 100000 in
theorem ii_mo_mean_33 : sm_D prog_9_method_17_code 33 1 34 (.aload_n 0) := ⟨by decide +kernel, rfl⟩
set_option maxRecDepth 100000 in
theorem ii_mo_mean_34 : sm_D prog_9_method_17_code 34 1 35 (.iconst 4) := ⟨by decide +kernel, rfl⟩
set_option maxRecDepth 100000 in
theorem ii_mo_mean_35 : sm_D prog_9_method_17_code 35 3 38 (.invokevirtual 81) := ⟨by decide +kernel, rfl⟩
set_option maxRecDepth 100000 in
theorem ii_mo_mean_38 : sm_D prog_9_method_17_code 38 1 39 (.ireturn) := ⟨by decide +kernel, rfl⟩
set_option maxRecDepth 100000 in
theorem ii_mo_mean_39 : sm_D prog_9_method_17_code 39 1 40 (.lconst 0) := ⟨by decide +kernel, rfl⟩
set_option maxRecDepth 100000 in
theorem ii_mo_mean_40 : sm_D prog_9_method_17_code 40 1 41 (.lstore_n 2) := ⟨by decide +kernel, rfl⟩
set_option maxRecDepth 100000 in
theorem ii_mo_mean_41 : sm_D prog_9_method_17_code 41 1 42 (.iconst 0) := ⟨by decide +kernel, rfl⟩
set_option maxRecDepth 100000 in
theorem ii_mo_mean_42 : sm_D prog_9_method_17_code 42 2 44 (.istore 4) := ⟨by decide +kernel, rfl⟩
set_option maxRecDepth 100000 in
theorem ii_mo_mean_44 : sm_D prog_9_method_17_code 44 2 46 (.iload 4) := ⟨by decide +kernel, rfl⟩
set_option maxRecDepth 100000 in
theorem ii_mo_mean_46 : sm_D prog_9_method_17_code 46 1 47 (.aload_n 0) := ⟨by decide +kernel, rfl⟩
set_option maxRecDepth 100000 in
theorem ii_mo_mean_47 : sm_D prog_9_method_17_code 47 3 50 (.getfield 22) := ⟨by decide +kernel, rfl⟩
set_option maxRecDepth 100000 in
theorem ii_mo_mean_50 : sm_D prog_9_method_17_code 50 1 51 (.iload_n 1) := ⟨by decide +kernel, rfl⟩
set_option maxRecDepth 100000 in
theorem ii_mo_mean_51 : sm_D prog_9_method_17_code 51 1 52 (.iaload) := ⟨by decide +kernel, rfl⟩
set_option maxRecDepth 100000 in
theorem ii_mo_mean_52 : sm_D prog_9_method_17_code 52 3 55 (.if_icmp .ge 25) := ⟨by decide +kernel, rfl⟩
set_option maxRecDepth 100000 in
theorem ii_mo_mean_55 : sm_D prog_9_method_17_code 55 1 56 (.lload_n 2) := ⟨by decide +kernel, rfl⟩
set_option maxRecDepth 100000 in
theorem ii_mo_mean_56 : sm_D prog_9_method_17_code 56 1 57 (.aload_n 0) := ⟨by decide +kernel, rfl⟩
set_option maxRecDepth 100000 in
theorem ii_mo_mean_57 : sm_D prog_9_method_17_code 57 3 60 (.getfield 25) := ⟨by decide +kernel, rfl⟩
set_option maxRecDepth 100000 in
theorem ii_mo_mean_60 : sm_D prog_9_method_17_code 60 2 62 (.bipush 40) := ⟨by decide +kernel, rfl⟩
set_option maxRecDepth 100000 in
theorem ii_mo_mean_62 : sm_D prog_9_method_17_code 62 1 63 (.iload_n 1) := ⟨by decide +kernel, rfl⟩
set_option maxRecDepth 100000 in
theorem ii_mo_mean_63 : sm_D prog_9_method_17_code 63 1 64 (.imul) := ⟨by decide +kernel, rfl⟩
set_option maxRecDepth 100000 in
theorem ii_mo_mean_64 : sm_D prog_9_method_17_code 64 2 66 (.iload 4) := ⟨by decide +kernel, rfl⟩
set_option maxRecDepth 100000 in
theorem ii_mo_mean_66 : sm_D prog_9_method_17_code 66 1 67 (.iadd) := ⟨by decide +kernel, rfl⟩
set_option maxRecDepth 100000 in
theorem ii_mo_mean_67 : sm_D prog_9_method_17_code 67 1 68 (.iaload) := ⟨by decide +kernel, rfl⟩
set_option maxRecDepth 100000 in
theorem ii_mo_mean_68 : sm_D prog_9_method_17_code 68 1 69 (.i2l) := ⟨by decide +kernel, rfl⟩
set_option maxRecDepth 100000 in
theorem ii_mo_mean_69 : sm_D prog_9_method_17_code 69 1 70 (.ladd) := ⟨by decide +kernel, rfl⟩
set_option maxRecDepth 100000 in
theorem ii_mo_mean_70 : sm_D prog_9_method_17_code 70 1 71 (.lstore_n 2) := ⟨by decide +kernel, rfl⟩
set_option maxRecDepth 100000 in
theorem ii_mo_mean_71 : sm_D prog_9_method_17_code 71 3 74 (.iinc 4 1) := ⟨by decide +kernel, rfl⟩
set_option maxRecDepth 100000 in
theorem ii_mo_mean_74 : sm_D prog_9_method_17_code 74 3 77 (.goto (-30)) := ⟨by decide +kernel, rfl⟩
set_option maxRecDepth 100000 in
theorem ii_mo_mean_77 : sm_D prog_9_method_17_code 77 1 78 (.aload_n 0) := ⟨by decide +kernel, rfl⟩
set_option maxRecDepth 100000 in
theorem ii_mo_mean_78 : sm_D prog_9_method_17_code 78 1 79 (.lload_n 2) := ⟨by decide +kernel, rfl⟩
set_option maxRecDepth 100000 in
theorem ii_mo_mean_79 : sm_D prog_9_method_17_code 79 1 80 (.aload_n 0) := ⟨by decide +kernel, rfl⟩
set_option maxRecDepth 100000 in
theorem ii_mo_mean_80 : sm_D prog_9_method_17_code 80 3 83 (.getfield 22) := ⟨by decide +kernel, rfl⟩
set_option maxRecDepth 100000 in
theorem ii_mo_mean_83 : sm_D prog_9_method_17_code 83 1 84 (.iload_n 1) := ⟨by decide +kernel, rfl⟩
set_option maxRecDepth 100000 in
theorem ii_mo_mean_84 : sm_D prog_9_method_17_code 84 1 85 (.iaload) := ⟨by decide +kernel, rfl⟩
set_option maxRecDepth 100000 in
theorem ii_mo_mean_85 : sm_D prog_9_method_17_code 85 1 86 (.i2l) := ⟨by decide +kernel, rfl⟩
set_option maxRecDepth 100000 in
theorem ii_mo_mean_86 : sm_D prog_9_method_17_code 86 1 87 (.ldiv) := ⟨by decide +kernel, rfl⟩
set_option maxRecDepth 100000 in
theorem ii_mo_mean_87 : sm_D prog_9_method_17_code 87 1 88 (.l2i) := ⟨by decide +kernel, rfl⟩
set_option maxRecDepth 100000 in
theorem ii_mo_mean_88 : sm_D prog_9_method_17_code 88 3 91 (.invokevirtual 93) := ⟨by decide +kernel, rfl⟩
set_option maxRecDepth 100000 in
theorem ii_mo_mean_91 : sm_D prog_9_method_17_code 91 1 92 (.ireturn) := ⟨by decide +kernel, rfl⟩
noncomputable def ff_mo_mean_44_b  (self44 : Int32 → Int64 → Int32 → sm_Mem → sm_R) (a1 : Int32) (a2 : Int64) (a4 : Int32) (w : sm_Mem) : sm_R := (Option.bind (sm_rd w 67 6 a1) fun x1 => (if x1 ≤ a4 then (Option.bind (sm_rd w 67 6 a1) fun x2 => (if (Int32.toInt64 x2) = (0 : Int64) then none else (sm_cI (ff_mo_tell ((Int64.toInt32 (a2 / (Int32.toInt64 x2)))) w) fun x4 w5 => (some (.int x4, w5))))) else (Option.bind (sm_rd w 68 240 (((40 : Int32) * a1) + a4)) fun x6 => self44 (a1) ((a2 + (Int32.toInt64 x6))) ((a4 + (1 : Int32))) w)))
noncomputable def ff_mo_mean_44_f  : Nat → Int32 → Int64 → Int32 → sm_Mem → sm_R
  | 0, _, _, _, _ => none
  | n + 1, a1, a2, a4, w => ff_mo_mean_44_b  (ff_mo_mean_44_f  n) a1 a2 a4 w
noncomputable def ff_mo_mean_44  (a1 : Int32) (a2 : Int64) (a4 : Int32) (w : sm_Mem) : sm_R := ff_mo_mean_44_f  sm_N a1 a2 a4 w
set_option maxHeartbeats 4000000 in
set_option maxRecDepth 100000 in
theorem ss_mo_mean_44_b {E : Nat × (Nat → Int32)}  (self44 : Int32 → Int64 → Int32 → sm_Mem → sm_R) (hself44 : ∀ (a1 : Int32) (a2 : Int64) (a4 : Int32) (w : sm_Mem), sm_Sim E (mi_mo_mean) 44 [some (.ref 62), some (.int a1), some (.long a2), none, some (.int a4)] [] w (self44 a1 a2 a4 w)) (a1 : Int32) (a2 : Int64) (a4 : Int32) (w : sm_Mem) : sm_Sim E (mi_mo_mean) 44 [some (.ref 62), some (.int a1), some (.long a2), none, some (.int a4)] [] w (ff_mo_mean_44_b  self44 a1 a2 a4 w) := by
  unfold ff_mo_mean_44_b
  refine sm_iload ii_mo_mean_44 rfl ?_
  refine sm_aload_n ii_mo_mean_46 rfl ?_
  refine sm_getR 67 ii_mo_mean_47 fl_mo_22 (k := 62) rfl ?_
  refine sm_iload_n ii_mo_mean_50 rfl ?_
  refine sm_iald ii_mo_mean_51 (k := 67) rfl (fun x1 => ?_)
  refine sm_icmp_ge 77 ii_mo_mean_52 (by decide) ?_ ?_
  · refine sm_aload_n ii_mo_mean_77 rfl ?_
    refine sm_lload_n ii_mo_mean_78 rfl ?_
    refine sm_aload_n ii_mo_mean_79 rfl ?_
    refine sm_getR 67 ii_mo_mean_80 fl_mo_22 (k := 62) rfl ?_
    refine sm_iload_n ii_mo_mean_83 rfl ?_
    refine sm_iald ii_mo_mean_84 (k := 67) rfl (fun x2 => ?_)
    refine sm_i2l ii_mo_mean_85 ?_
    refine sm_ldiv ii_mo_mean_86 ?_
    refine sm_l2i ii_mo_mean_87 ?_
    refine sm_cvI [.int (Int64.toInt32 (a2 / (Int32.toInt64 x2)))] [] rfl ii_mo_mean_88 ml_mo_93 (mf_mo_tell) (mv_mo_tell) (Nat.le_of_ble_eq_true rfl) rfl 7 rfl rfl rfl rfl (mc_mo_tell ((Int64.toInt32 (a2 / (Int32.toInt64 x2)))) w) (fun x4 w5 => ?_)
    exact sm_iret ii_mo_mean_91 rfl
  · refine sm_lload_n ii_mo_mean_55 rfl ?_
    refine sm_aload_n ii_mo_mean_56 rfl ?_
    refine sm_getR 68 ii_mo_mean_57 fl_mo_25 (k := 62) rfl ?_
    refine sm_bipush (40 : Int32) ii_mo_mean_60 (by decide) ?_
    refine sm_iload_n ii_mo_mean_62 rfl ?_
    refine sm_imul ii_mo_mean_63 ?_
    refine sm_iload ii_mo_mean_64 rfl ?_
    refine sm_iadd ii_mo_mean_66 ?_
    refine sm_iald ii_mo_mean_67 (k := 68) rfl (fun x6 => ?_)
    refine sm_i2l ii_mo_mean_68 ?_
    refine sm_ladd ii_mo_mean_69 ?_
    refine sm_lstore_n [some (.ref 62), some (.int a1), some (.long (a2 + (Int32.toInt64 x6))), none, some (.int a4)] ii_mo_mean_70 rfl rfl ?_
    refine sm_iinc (a4 + (1 : Int32)) [some (.ref 62), some (.int a1), some (.long (a2 + (Int32.toInt64 x6))), none, some (.int (a4 + (1 : Int32)))] ii_mo_mean_71 rfl rfl rfl rfl ?_
    refine sm_goto 44 ii_mo_mean_74 (by decide) ?_
    exact hself44 (a1) ((a2 + (Int32.toInt64 x6))) ((a4 + (1 : Int32))) w
set_option maxHeartbeats 4000000 in
set_option maxRecDepth 100000 in
theorem ss_mo_mean_44_f {E : Nat × (Nat → Int32)}  : ∀ (n : Nat) (a1 : Int32) (a2 : Int64) (a4 : Int32) (w : sm_Mem), sm_Sim E (mi_mo_mean) 44 [some (.ref 62), some (.int a1), some (.long a2), none, some (.int a4)] [] w (ff_mo_mean_44_f  n a1 a2 a4 w)
  | 0, _, _, _, _ => fun _ _ h => by cases h
  | n + 1, a1, a2, a4, w => ss_mo_mean_44_b  _ (ss_mo_mean_44_f  n) a1 a2 a4 w
set_option maxHeartbeats 4000000 in
set_option maxRecDepth 100000 in
theorem ss_mo_mean_44 {E : Nat × (Nat → Int32)}  (a1 : Int32) (a2 : Int64) (a4 : Int32) (w : sm_Mem) : sm_Sim E (mi_mo_mean) 44 [some (.ref 62), some (.int a1), some (.long a2), none, some (.int a4)] [] w (ff_mo_mean_44  a1 a2 a4 w) := ss_mo_mean_44_f  sm_N a1 a2 a4 w
noncomputable def ff_mo_mean  (a1 : Int32) (w : sm_Mem) : sm_R := (sm_cI (ff_mo_isRow (a1) w) fun x7 w8 => (if x7 = (0 : Int32) then (some (.int (-1 : Int32), w8)) else (Option.bind (sm_rd w8 67 6 a1) fun x9 => (if (0 : Int32) ≤ x9 then (Option.bind (sm_rd w8 67 6 a1) fun x10 => (if x10 = (0 : Int32) then (sm_cI (ff_mo_find ((4 : Int32)) w8) fun x11 w12 => (some (.int x11, w12))) else ff_mo_mean_44 (a1) ((0 : Int64)) ((0 : Int32)) w8)) else (sm_cI (ff_mo_find ((1 : Int32)) w8) fun x13 w14 => (some (.int x13, w14)))))))
set_option maxHeartbeats 4000000 in
set_option maxRecDepth 100000 in
theorem ss_mo_mean_0 {E : Nat × (Nat → Int32)}  (a1 : Int32) (w : sm_Mem) : sm_Sim E (mi_mo_mean) 0 [some (.ref 62), some (.int a1), none, none, none] [] w (ff_mo_mean  a1 w) := by
  unfold ff_mo_mean
  refine sm_iload_n ii_mo_mean_0 rfl ?_
  refine sm_csI [.int a1] [] rfl ii_mo_mean_1 ml_mo_77 (mf_mo_isRow) (mv_mo_isRow) (Nat.le_of_ble_eq_true rfl) rfl rfl rfl (mc_mo_isRow (a1) w) (fun x7 w8 => ?_)
  refine sm_if_ne 9 ii_mo_mean_4 (by decide) ?_ ?_
  · refine sm_iconst (-1 : Int32) ii_mo_mean_7 (by decide) ?_
    exact sm_iret ii_mo_mean_8 rfl
  · refine sm_aload_n ii_mo_mean_9 rfl ?_
    refine sm_getR 67 ii_mo_mean_10 fl_mo_22 (k := 62) rfl ?_
    refine sm_iload_n ii_mo_mean_13 rfl ?_
    refine sm_iald ii_mo_mean_14 (k := 67) rfl (fun x9 => ?_)
    refine sm_if_ge 24 ii_mo_mean_15 (by decide) ?_ ?_
    · refine sm_aload_n ii_mo_mean_24 rfl ?_
      refine sm_getR 67 ii_mo_mean_25 fl_mo_22 (k := 62) rfl ?_
      refine sm_iload_n ii_mo_mean_28 rfl ?_
      refine sm_iald ii_mo_mean_29 (k := 67) rfl (fun x10 => ?_)
      refine sm_if_ne 39 ii_mo_mean_30 (by decide) ?_ ?_
      · refine sm_aload_n ii_mo_mean_33 rfl ?_
        refine sm_iconst (4 : Int32) ii_mo_mean_34 (by decide) ?_
        refine sm_cvI [.int (4 : Int32)] [] rfl ii_mo_mean_35 ml_mo_81 (mf_mo_find) (mv_mo_find) (Nat.le_of_ble_eq_true rfl) rfl 7 rfl rfl rfl rfl (mc_mo_find ((4 : Int32)) w8) (fun x11 w12 => ?_)
        exact sm_iret ii_mo_mean_38 rfl
      · refine sm_lconst (0 : Int64) ii_mo_mean_39 (by decide) ?_
        refine sm_lstore_n [some (.ref 62), some (.int a1), some (.long (0 : Int64)), none, none] ii_mo_mean_40 rfl rfl ?_
        refine sm_iconst (0 : Int32) ii_mo_mean_41 (by decide) ?_
        refine sm_istore [some (.ref 62), some (.int a1), some (.long (0 : Int64)), none, some (.int (0 : Int32))] ii_mo_mean_42 rfl rfl ?_
        exact ss_mo_mean_44 (a1) ((0 : Int64)) ((0 : Int32)) w8
    · refine sm_aload_n ii_mo_mean_18 rfl ?_
      refine sm_iconst (1 : Int32) ii_mo_mean_19 (by decide) ?_
      refine sm_cvI [.int (1 : Int32)] [] rfl ii_mo_mean_20 ml_mo_81 (mf_mo_find) (mv_mo_find) (Nat.le_of_ble_eq_true rfl) rfl 7 rfl rfl rfl rfl (mc_mo_find ((1 : Int32)) w8) (fun x13 w14 => ?_)
      exact sm_iret ii_mo_mean_23 rfl
set_option maxHeartbeats 4000000 in
set_option maxRecDepth 100000 in
theorem mc_mo_mean (a1 : Int32) (w : sm_Mem) : sm_MC mi_mo_mean [.ref 62, .int a1] w (ff_mo_mean a1 w) := sm_MC_of (0, fun _ => 0) (by decide +kernel) (by decide) rfl (Nat.le_of_ble_eq_true rfl) (ss_mo_mean_0 a1 w)
abbrev mi_ho_text : sm_MI := (⟨"HerOrders", "text", "(II)I"⟩, prog_1_method_8_code, 3, (some .int), 3)
set_option maxRecDepth 100000 in
theorem mf_ho_text : sm_MF mi_ho_text 2 := ⟨List.mem_of_getElem? (i := 453) (by decide +kernel), List.mem_of_getElem? (i := 124) (by decide +kernel), ⟨by decide, by decide⟩, by decide +kernel⟩
set_option maxRecDepth 100000 in
theorem mv_ho_text : sm_MFV mi_ho_text := ⟨List.mem_of_getElem? (i := 451) (by decide +kernel), List.mem_of_getElem? (i := 452) (by decide +kernel)⟩
set_option maxRecDepth 100000 in
theorem ii_ho_text_0 : sm_D prog_1_method_8_code 0 1 1 (.aload_n 0) := ⟨by decide +kernel, rfl⟩
set_option maxRecDepth 100000 in
theorem ii_ho_text_1 : sm_D prog_1_method_8_code 1 1 2 (.aload_n 0) := ⟨by decide +kernel, rfl⟩
set_option maxRecDepth 100000 in
theorem ii_ho_text_2 : sm_D prog_1_method_8_code 2 3 5 (.getfield 18) := ⟨by decide +kernel, rfl⟩
set_option maxRecDepth 100000 in
theorem ii_ho_text_5 : sm_D prog_1_method_8_code 5 1 6 (.iload_n 1) := ⟨by decide +kernel, rfl⟩
set_option maxRecDepth 100000 in
theorem ii_ho_text_6 : sm_D prog_1_method_8_code 6 1 7 (.iload_n 2) := ⟨by decide +kernel, rfl⟩
set_option maxRecDepth 100000 in
theorem ii_ho_text_7 : sm_D prog_1_method_8_code 7 2 9 (.bipush 32) := ⟨by decide +kernel, rfl⟩
set_option maxRecDepth 100000 in
theorem ii_ho_text_9 : sm_D prog_1_method_8_code 9 3 12 (.invokevirtual 58) := ⟨by decide +kernel, rfl⟩
set_option maxRecDepth 100000 in
theorem ii_ho_text_12 : sm_D prog_1_method_8_code 12 1 13 (.ireturn) := ⟨by decide +kernel, rfl⟩
noncomputable def ff_ho_text  (a1 : Int32) (a2 : Int32) (w : sm_Mem) : sm_R := (sm_cI (ff_ho_make (14) (a1) (a2) ((32 : Int32)) w) fun x1 w2 => (some (.int x1, w2)))
set_option maxHeartbeats 4000000 in
set_option maxRecDepth 100000 in
theorem ss_ho_text_0 {E : Nat × (Nat → Int32)}  (a1 : Int32) (a2 : Int32) (w : sm_Mem) : sm_Sim E (mi_ho_text) 0 [some (.ref 0), some (.int a1), some (.int a2)] [] w (ff_ho_text  a1 a2 w) := by
  unfold ff_ho_text
  refine sm_aload_n ii_ho_text_0 rfl ?_
  refine sm_aload_n ii_ho_text_1 rfl ?_
  refine sm_getR 14 ii_ho_text_2 fl_ho_18 (k := 0) rfl ?_
  refine sm_iload_n ii_ho_text_5 rfl ?_
  refine sm_iload_n ii_ho_text_6 rfl ?_
  refine sm_bipush (32 : Int32) ii_ho_text_7 (by decide) ?_
  refine sm_cvI [.ref 14, .int a1, .int a2, .int (32 : Int32)] [] rfl ii_ho_text_9 ml_ho_58 (mf_ho_make) (mv_ho_make) (Nat.le_of_ble_eq_true rfl) rfl 6 rfl rfl rfl rfl (mc_ho_make (14) (a1) (a2) ((32 : Int32)) w) (fun x1 w2 => ?_)
  exact sm_iret ii_ho_text_12 rfl
set_option maxHeartbeats 4000000 in
set_option maxRecDepth 100000 in
theorem mc_ho_text (a1 : Int32) (a2 : Int32) (w : sm_Mem) : sm_MC mi_ho_text [.ref 0, .int a1, .int a2] w (ff_ho_text a1 a2 w) := sm_MC_of (0, fun _ => 0) (by decide +kernel) (by decide) rfl (Nat.le_of_ble_eq_true rfl) (ss_ho_text_0 a1 a2 w)
abbrev mi_mo_isText : sm_MI := (⟨"HerOrdersModel", "isText", "(I)Z"⟩, prog_9_method_8_code, 1, (some .boolean), 2)
set_option maxRecDepth 100000 in
theorem mf_mo_isText : sm_MF mi_mo_isText 1 := ⟨List.mem_of_getElem? (i := 1090) (by decide +kernel), List.mem_of_getElem? (i := 132) (by decide +kernel), ⟨by decide, by decide⟩, by decide +kernel⟩
set_option maxRecDepth 100000 in
theorem mv_mo_isText : sm_MFS mi_mo_isText := List.mem_of_getElem? (i := 1089) (by decide +kernel)
set_option maxRecDepth 100000 in
theorem ii_mo_isText_0 : sm_D prog_9_method_8_code 0 1 1 (.iload_n 0) := ⟨by decide +kernel, rfl⟩
set_option maxRecDepth 100000 in
theorem ii_mo_isText_1 : sm_D prog_9_method_8_code 1 1 2 (.i2l) := ⟨by decide +kernel, rfl⟩
set_option maxRecDepth 100000 in
theorem ii_mo_isText_2 : sm_D prog_9_method_8_code 2 1 3 (.lconst 0) := ⟨by decide +kernel, rfl⟩
set_option maxRecDepth 100000 in
theorem ii_mo_isText_3 : sm_D prog_9_method_8_code 3 3 6 (.ldc2_w 75) := ⟨by decide +kernel, rfl⟩
set_option maxRecDepth 100000 in
theorem ii_mo_isText_6 : sm_D prog_9_method_8_code 6 3 9 (.invokestatic 71) := ⟨by decide +kernel, rfl⟩
set_option maxRecDepth 100000 in
theorem ii_mo_isText_9 : sm_D prog_9_method_8_code 9 1 10 (.ireturn) := ⟨by decide +kernel, rfl⟩
noncomputable def ff_mo_isText  (a0 : Int32) (w : sm_Mem) : sm_R := (sm_cI (ff_mo_in ((Int32.toInt64 a0)) ((0 : Int64)) ((3 : Int64)) w) fun x1 w2 => (sm_rz x1 w2))
set_option maxHeartbeats 4000000 in
set_option maxRecDepth 100000 in
theorem ss_mo_isText_0 {E : Nat × (Nat → Int32)}  (a0 : Int32) (w : sm_Mem) : sm_Sim E (mi_mo_isText) 0 [some (.int a0)] [] w (ff_mo_isText  a0 w) := by
  unfold ff_mo_isText
  refine sm_iload_n ii_mo_isText_0 rfl ?_
  refine sm_i2l ii_mo_isText_1 ?_
  refine sm_lconst (0 : Int64) ii_mo_isText_2 (by decide) ?_
  refine sm_ldc2 (3 : Int64) ii_mo_isText_3 (List.mem_of_getElem? (i := 1091) (by decide +kernel)) ?_
  refine sm_csI [.long (Int32.toInt64 a0), .long (0 : Int64), .long (3 : Int64)] [] rfl ii_mo_isText_6 ml_mo_71 (mf_mo_in) (mv_mo_in) (Nat.le_of_ble_eq_true rfl) rfl rfl rfl (mc_mo_in ((Int32.toInt64 a0)) ((0 : Int64)) ((3 : Int64)) w) (fun x1 w2 => ?_)
  exact sm_zret ii_mo_isText_9 rfl
set_option maxHeartbeats 4000000 in
set_option maxRecDepth 100000 in
theorem mc_mo_isText (a0 : Int32) (w : sm_Mem) : sm_MC mi_mo_isText [.int a0] w (ff_mo_isText a0 w) := sm_MC_of (0, fun _ => 0) (by decide +kernel) (by decide) rfl (Nat.le_of_ble_eq_true rfl) (ss_mo_isText_0 a0 w)
