/-! the program, by a program: functions of its methods and that the methods do them -/
set_option maxRecDepth 100000 in
theorem ml_mo_236 : sm_ML "HerOrdersModel" 236 ⟨"HerOrdersModel", "nextWay", "()Z"⟩ := Or.inl (List.mem_of_getElem? (i := 1272) (by decide +kernel))
set_option maxRecDepth 100000 in
theorem fl_mo_245 : sm_FL "HerOrdersModel" 245 7 10 := ⟨RX7, TX7, 30, rfl, by decide, rfl, sm_inX7, Or.inl (List.mem_of_getElem? (i := 952) (by decide +kernel))⟩
set_option maxRecDepth 100000 in
theorem fp_mo_245 : sm_FP "HerOrdersModel" 245 7 10 .long := ⟨RX7, TX7, 30, tyX7, rfl, by decide, rfl, sm_inX7, tyX7_ok, nmX7, rfl, by decide +kernel, Or.inl (List.mem_of_getElem? (i := 952) (by decide +kernel))⟩
set_option maxRecDepth 100000 in
theorem ml_mo_248 : sm_ML "HerOrdersModel" 248 ⟨"HerOrdersModel", "spokeIn", "()I"⟩ := Or.inl (List.mem_of_getElem? (i := 1288) (by decide +kernel))
set_option maxRecDepth 100000 in
theorem ml_mo_242 : sm_ML "HerOrdersModel" 242 ⟨"HerOrdersModel", "noGoal", "(II)I"⟩ := Or.inl (List.mem_of_getElem? (i := 1260) (by decide +kernel))
set_option maxRecDepth 100000 in
theorem fp_mo_34 : sm_FP "HerOrdersModel" 34 7 11 .long := ⟨RX7, TX7, 30, tyX7, rfl, by decide, rfl, sm_inX7, tyX7_ok, nmX7, rfl, by decide +kernel, Or.inl (List.mem_of_getElem? (i := 953) (by decide +kernel))⟩
set_option maxRecDepth 100000 in
theorem ml_mo_233 : sm_ML "HerOrdersModel" 233 ⟨"HerOrdersModel", "beginWays", "()V"⟩ := Or.inl (List.mem_of_getElem? (i := 1268) (by decide +kernel))
set_option maxRecDepth 100000 in
theorem ml_rw_28 : sm_ML "HerOrders$Row" 28 ⟨"HerOrders$Row", "begin", "(II)V"⟩ := Or.inl (List.mem_of_getElem? (i := 692) (by decide +kernel))
set_option maxRecDepth 100000 in
theorem fl_ho_210 : sm_FL "HerOrders" 210 5 7 := ⟨RX5, TX5, 14, rfl, by decide, rfl, sm_inX5, Or.inr ⟨"HerOrders", List.mem_of_getElem? (i := 273) (by decide +kernel)⟩⟩
set_option maxRecDepth 100000 in
theorem fl_ho_213 : sm_FL "HerOrders" 213 5 3 := ⟨RX5, TX5, 14, rfl, by decide, rfl, sm_inX5, Or.inr ⟨"HerOrders", List.mem_of_getElem? (i := 267) (by decide +kernel)⟩⟩
set_option maxRecDepth 100000 in
theorem ml_ho_216 : sm_ML "HerOrders" 216 ⟨"HerOrders$Row", "become", "([II)V"⟩ := Or.inr ⟨"HerOrders", List.mem_of_getElem? (i := 688) (by decide +kernel)⟩
set_option maxRecDepth 100000 in
theorem fl_ho_219 : sm_FL "HerOrders" 219 5 8 := ⟨RX5, TX5, 14, rfl, by decide, rfl, sm_inX5, Or.inr ⟨"HerOrders", List.mem_of_getElem? (i := 275) (by decide +kernel)⟩⟩
set_option maxRecDepth 100000 in
theorem fl_mo_56 : sm_FL "HerOrdersModel" 56 7 28 := ⟨RX7, TX7, 30, rfl, by decide, rfl, sm_inX7, Or.inl (List.mem_of_getElem? (i := 970) (by decide +kernel))⟩
set_option maxRecDepth 100000 in
theorem ml_ho_222 : sm_ML "HerOrders" 222 ⟨"HerOrders$Ways", "farthest", "()I"⟩ := Or.inr ⟨"HerOrders", List.mem_of_getElem? (i := 697) (by decide +kernel)⟩
set_option maxRecDepth 100000 in
theorem fl_ho_225 : sm_FL "HerOrders" 225 5 5 := ⟨RX5, TX5, 14, rfl, by decide, rfl, sm_inX5, Or.inr ⟨"HerOrders", List.mem_of_getElem? (i := 270) (by decide +kernel)⟩⟩
set_option maxRecDepth 100000 in
theorem ml_mo_251 : sm_ML "HerOrdersModel" 251 ⟨"HerOrdersModel", "hasWay", "()Z"⟩ := Or.inl (List.mem_of_getElem? (i := 1304) (by decide +kernel))
set_option maxRecDepth 100000 in
theorem fl_mo_66 : sm_FL "HerOrdersModel" 66 7 9 := ⟨RX7, TX7, 30, rfl, by decide, rfl, sm_inX7, Or.inl (List.mem_of_getElem? (i := 951) (by decide +kernel))⟩
set_option maxRecDepth 100000 in
theorem ml_mo_254 : sm_ML "HerOrdersModel" 254 ⟨"HerOrdersModel", "farGoal", "()I"⟩ := Or.inl (List.mem_of_getElem? (i := 1300) (by decide +kernel))
set_option maxRecDepth 100000 in
theorem fl_tr_9 : sm_FL "HerOrders$Trials" 9 4 0 := ⟨RX4, TX4, 5, rfl, by decide, rfl, sm_inX4, Or.inl (List.mem_of_getElem? (i := 319) (by decide +kernel))⟩
set_option maxRecDepth 100000 in
theorem fl_tr_29 : sm_FL "HerOrders$Trials" 29 1 0 := ⟨RX1, TX1, 13, rfl, by decide, rfl, sm_inX1, Or.inr ⟨"HerOrders", List.mem_of_getElem? (i := 203) (by decide +kernel)⟩⟩
set_option maxRecDepth 100000 in
theorem fl_tr_15 : sm_FL "HerOrders$Trials" 15 4 1 := ⟨RX4, TX4, 5, rfl, by decide, rfl, sm_inX4, Or.inl (List.mem_of_getElem? (i := 320) (by decide +kernel))⟩
set_option maxRecDepth 100000 in
theorem ml_tr_35 : sm_ML "HerOrders$Trials" 35 ⟨"HerOrders$House", "can", "(II)Z"⟩ := Or.inr ⟨"HerOrders", List.mem_of_getElem? (i := 713) (by decide +kernel)⟩
set_option maxRecDepth 100000 in
theorem ml_tr_38 : sm_ML "HerOrders$Trials" 38 ⟨"HerOrders$House", "push", "(II)V"⟩ := Or.inr ⟨"HerOrders", List.mem_of_getElem? (i := 714) (by decide +kernel)⟩
set_option maxRecDepth 100000 in
theorem ml_tr_25 : sm_ML "HerOrders$Trials" 25 ⟨"HerOrders$Trials", "hasWay", "(II)Z"⟩ := Or.inl (List.mem_of_getElem? (i := 709) (by decide +kernel))
set_option maxRecDepth 100000 in
theorem ml_tr_42 : sm_ML "HerOrders$Trials" 42 ⟨"HerOrders$House", "pop", "()V"⟩ := Or.inr ⟨"HerOrders", List.mem_of_getElem? (i := 715) (by decide +kernel)⟩
set_option maxRecDepth 100000 in
theorem fl_ho_47 : sm_FL "HerOrders" 47 6 5 := ⟨RX6, TX6, 7, rfl, by decide, rfl, sm_inX6, Or.inl (List.mem_of_getElem? (i := 368) (by decide +kernel))⟩
set_option maxRecDepth 100000 in
theorem ml_ho_228 : sm_ML "HerOrders" 228 ⟨"HerOrders$Trials", "firstDumb", "(I)I"⟩ := Or.inr ⟨"HerOrders", List.mem_of_getElem? (i := 705) (by decide +kernel)⟩
set_option maxRecDepth 100000 in
theorem ml_mo_257 : sm_ML "HerOrdersModel" 257 ⟨"HerOrdersModel", "sixes", "(I)I"⟩ := Or.inl (List.mem_of_getElem? (i := 1312) (by decide +kernel))
set_option maxRecDepth 100000 in
theorem ml_mo_260 : sm_ML "HerOrdersModel" 260 ⟨"HerOrdersModel", "layNumber", "(II)V"⟩ := Or.inl (List.mem_of_getElem? (i := 1315) (by decide +kernel))
set_option maxRecDepth 100000 in
theorem ml_tr_55 : sm_ML "HerOrders$Trials" 55 ⟨"HerOrders$House", "isFree", "(I)Z"⟩ := Or.inr ⟨"HerOrders", List.mem_of_getElem? (i := 728) (by decide +kernel)⟩
set_option maxRecDepth 100000 in
theorem ml_tr_48 : sm_ML "HerOrders$Trials" 48 ⟨"HerOrders$Trials", "freeTurns", "(I)I"⟩ := Or.inl (List.mem_of_getElem? (i := 724) (by decide +kernel))
set_option maxRecDepth 100000 in
theorem mq_tr_59 : Cond.methodLink "HerOrders$Trials" 59 Lib.Math.max.name ∈ lw_tbl := List.mem_of_getElem? (i := 729) (by decide +kernel)
set_option maxRecDepth 100000 in
theorem fl_tr_19 : sm_FL "HerOrders$Trials" 19 4 2 := ⟨RX4, TX4, 5, rfl, by decide, rfl, sm_inX4, Or.inl (List.mem_of_getElem? (i := 321) (by decide +kernel))⟩
set_option maxRecDepth 100000 in
theorem fp_tr_45 : sm_FP "HerOrders$Trials" 45 4 3 .int := ⟨RX4, TX4, 5, tyX4, rfl, by decide, rfl, sm_inX4, tyX4_ok, nmX4, rfl, by decide +kernel, Or.inl (List.mem_of_getElem? (i := 323) (by decide +kernel))⟩
set_option maxRecDepth 100000 in
theorem ml_tr_52 : sm_ML "HerOrders$Trials" 52 ⟨"HerOrders$Trials", "lengthen", "(II)V"⟩ := Or.inl (List.mem_of_getElem? (i := 730) (by decide +kernel))
set_option maxRecDepth 100000 in
theorem fl_tr_45 : sm_FL "HerOrders$Trials" 45 4 3 := ⟨RX4, TX4, 5, rfl, by decide, rfl, sm_inX4, Or.inl (List.mem_of_getElem? (i := 323) (by decide +kernel))⟩
set_option maxRecDepth 100000 in
theorem ml_tr_65 : sm_ML "HerOrders$Trials" 65 ⟨"HerOrders$Trials", "keepBest", "(I)V"⟩ := Or.inl (List.mem_of_getElem? (i := 734) (by decide +kernel))
set_option maxRecDepth 100000 in
theorem ml_ho_231 : sm_ML "HerOrders" 231 ⟨"HerOrders$Trials", "seekLongest", "()V"⟩ := Or.inr ⟨"HerOrders", List.mem_of_getElem? (i := 720) (by decide +kernel)⟩
set_option maxRecDepth 100000 in
theorem fl_ho_234 : sm_FL "HerOrders" 234 4 2 := ⟨RX4, TX4, 5, rfl, by decide, rfl, sm_inX4, Or.inr ⟨"HerOrders", List.mem_of_getElem? (i := 322) (by decide +kernel)⟩⟩
set_option maxRecDepth 100000 in
theorem fl_ho_237 : sm_FL "HerOrders" 237 4 3 := ⟨RX4, TX4, 5, rfl, by decide, rfl, sm_inX4, Or.inr ⟨"HerOrders", List.mem_of_getElem? (i := 324) (by decide +kernel)⟩⟩
abbrev mi_mo_ways : sm_MI := (⟨"HerOrdersModel", "ways", "(I)I"⟩, prog_9_method_69_code, 4, (some .int), 6)
set_option maxRecDepth 100000 in
theorem mf_mo_ways : sm_MF mi_mo_ways 1 := ⟨List.mem_of_getElem? (i := 1259) (by decide +kernel), List.mem_of_getElem? (i := 132) (by decide +kernel), ⟨by decide, by decide⟩, by decide +kernel⟩
set_option maxRecDepth 100000 in
theorem mv_mo_ways : sm_MFV mi_mo_ways := ⟨List.mem_of_getElem? (i := 1257) (by decide +kernel), List.mem_of_getElem? (i := 1258) (by decide +kernel)⟩
set_option maxRecDepth 100000 in
theorem ii_mo_ways_0 : sm_D prog_9_method_69_code 0 1 1 (.iload_n 1) := ⟨by decide +kernel, rfl⟩
set_option maxRecDepth 100000 in
theorem ii_mo_ways_1 : sm_D prog_9_method_69_code 1 3 4 (.invokestatic 77) := ⟨by decide +kernel, rfl⟩
set_option maxRecDepth 100000 in
theorem ii_mo_ways_4 : sm_D prog_9_method_69_code 4 3 7 (.ifCond .ne 5) := ⟨by decide +kernel, rfl⟩
set_option maxRecDepth 100000 in
theorem ii_mo_ways_7 : sm_D prog_9_method_69_code 7 1 8 (.iconst (-1)) := ⟨by decide +kernel, rfl⟩
set_option maxRecDepth 100000 in
theorem ii_mo_ways_8 : sm_D prog_9_method_69_code 8 1 9 (.ireturn) := ⟨by decide +kernel, rfl⟩
set_option maxRecDepth 100000 in
theorem ii_mo_ways_9 : sm_D prog_9_method_69_code 9 1 10 (.aload_n 0) := ⟨by decide +kernel, rfl⟩
set_option maxRecDepth 100000 in
theorem ii_mo_ways_10 : sm_D prog_9_method_69_code 10 1 11 (.iload_n 1) := ⟨by decide +kernel, rfl⟩
set_option maxRecDepth 100000 in
theorem ii_mo_ways_11 : sm_D prog_9_method_69_code 11 1 12 (.iconst 1) := ⟨by decide +kernel, rfl⟩
set_option maxRecDepth 100000 in
theorem ii_mo_ways_12 : sm_D prog_9_method_69_code 12 3 15 (.invokevirtual 242) := ⟨by decide +kernel, rfl⟩
set_option maxRecDepth 100000 in
theorem ii_mo_ways_15 : sm_D prog_9_method_69_code 15 1 16 (.istore_n 2) := ⟨by decide +kernel, rfl⟩
set_option maxRecDepth 100000 in
theorem ii_mo_ways_16 : sm_D prog_9_method_69_code 16 1 17 (.iload_n 2) := ⟨by decide +kernel, rfl⟩
set_option maxRecDepth 100000 in
theorem ii_mo_ways_17 : sm_D prog_9_method_69_code 17 3 20 (.ifCond .eq 5) := ⟨by decide +kernel, rfl⟩
set_option maxRecDepth 100000 in
theorem ii_mo_ways_20 : sm_D prog_9_method_69_code 20 1 21 (.iload_n 2) := ⟨by decide +kernel, rfl⟩
set_option maxRecDepth 100000 in
theorem ii_mo_ways_21 : sm_D prog_9_method_69_code 21 1 22 (.ireturn) := ⟨by decide +kernel, rfl⟩
set_option maxRecDepth 100000 in
theorem ii_mo_ways_22 : sm_D prog_9_method_69_code 22 1 23 (.aload_n 0) := ⟨by decide +kernel, rfl⟩
set_option maxRecDepth 100000 in
theorem ii_mo_ways_23 : sm_D prog_9_method_69_code 23 1 24 (.lconst 0) := ⟨by decide +kernel, rfl⟩
set_option maxRecDepth 100000 in
theorem ii_mo_ways_24 : sm_D prog_9_method_69_code 24 3 27 (.putfield 245) := ⟨by decide +kernel, rfl⟩
set_option maxRecDepth 100000 in
theorem ii_mo_ways_27 : sm_D prog_9_method_69_code 27 1 28 (.aload_n 0) := ⟨by decide +kernel, rfl⟩
set_option maxRecDepth 100000 in
theorem ii_mo_ways_28 : sm_D prog_9_method_69_code 28 1 29 (.lconst 1) := ⟨by decide +kernel, rfl⟩
set_option maxRecDepth 100000 in
theorem ii_mo_ways_29 : sm_D prog_9_method_69_code 29 3 32 (.putfield 34) := ⟨by decide +kernel, rfl⟩
set_option maxRecDepth 100000 in
theorem ii_mo_ways_32 : sm_D prog_9_method_69_code 32 2 34 (.bipush 63) := ⟨by decide +kernel, rfl⟩
set_option maxRecDepth 100000 in
theorem ii_mo_ways_34 : sm_D prog_9_method_69_code 34 1 35 (.istore_n 3) := ⟨by decide +kernel, rfl⟩
set_option maxRecDepth 100000 in
theorem ii_mo_ways_35 : sm_D prog_9_method_69_code 35 1 36 (.aload_n 0) := ⟨by decide +kernel, rfl⟩
set_option maxRecDepth 100000 in
theorem ii_mo_ways_36 : sm_D prog_9_method_69_code 36 3 39 (.invokevirtual 233) := ⟨by decide +kernel, rfl⟩
set_option maxRecDepth 100000 in
theorem ii_mo_ways_39 : sm_D prog_9_method_69_code 39 1 40 (.aload_n 0) := ⟨by decide +kernel, rfl⟩
set_option maxRecDepth 100000 in
theorem ii_mo_ways_40 : sm_D prog_9_method_69_code 40 3 43 (.invokevirtual 236) := ⟨by decide +kernel, rfl⟩
set_option maxRecDepth 100000 in
theorem ii_mo_ways_43 : sm_D prog_9_method_69_code 43 3 46 (.ifCond .eq 23) := ⟨by decide +kernel, rfl⟩
set_option maxRecDepth 100000 in
theorem ii_mo_ways_46 : sm_D prog_9_method_69_code 46 1 47 (.aload_n 0) := ⟨by decide +kernel, rfl⟩
set_option maxRecDepth 100000 in
theorem ii_mo_ways_47 : sm_D prog_9_method_69_code 47 1 48 (.dup) := ⟨by decide +kernel, rfl⟩
set_option maxRecDepth 100000 in
theorem ii_mo_ways_48 : sm_D prog_9_method_69_code 48 3 51 (.getfield 245) := ⟨by decide +kernel, rfl⟩
set_option maxRecDepth 100000 in
theorem ii_mo_ways_51 : sm_D prog_9_method_69_code 51 1 52 (.lconst 1) := ⟨by decide +kernel, rfl⟩
set_option maxRecDepth 100000 in
theorem ii_mo_ways_52 : sm_D prog_9_method_69_code 52 1 53 (.ladd) := ⟨by decide +kernel, rfl⟩
set_option maxRecDepth 100000 in
theorem ii_mo_ways_53 : sm_D prog_9_method_69_code 53 3 56 (.putfield 245) := ⟨by decide +kernel, rfl⟩
set_option maxRecDepth 100000 in
theorem ii_mo_ways_56 : sm_D prog_9_method_69_code 56 1 57 (.iload_n 3) := ⟨by decide +kernel, rfl⟩
set_option maxRecDepth 100000 in
theorem ii_mo_ways_57 : sm_D prog_9_method_69_code 57 1 58 (.aload_n 0) := ⟨by decide +kernel, rfl⟩
set_option maxRecDepth 100000 in
theorem ii_mo_ways_58 : sm_D prog_9_method_69_code 58 3 61 (.invokevirtual 248) := ⟨by decide +kernel, rfl⟩
set_option maxRecDepth 100000 in
theorem ii_mo_ways_61 : sm_D prog_9_method_69_code 61 1 62 (.iand) := ⟨by decide +kernel, rfl⟩
set_option maxRecDepth 100000 in
theorem ii_mo_ways_62 : sm_D prog_9_method_69_code 62 1 63 (.istore_n 3) := ⟨by decide +kernel, rfl⟩
set_option maxRecDepth 100000 in
theorem ii_mo_ways_63 : sm_D prog_9_method_69_code 63 3 66 (.goto (-24)) := ⟨by decide +kernel, rfl⟩
set_option maxRecDepth 100000 in
theorem ii_mo_ways_66 : sm_D prog_9_method_69_code 66 1 67 (.aload_n 0) := ⟨by decide +kernel, rfl⟩
set_option maxRecDepth 100000 in
theorem ii_mo_ways_67 : sm_D prog_9_method_69_code 67 1 68 (.aload_n 0) := ⟨by decide +kernel, rfl⟩
set_option maxRecDepth 100000 in
theorem ii_mo_ways_68 : sm_D prog_9_method_69_code 68 3 71 (.getfield 245) := ⟨by decide +kernel, rfl⟩
set_option maxRecDepth 100000 in
theorem ii_mo_ways_71 : sm_D prog_9_method_69_code 71 1 72 (.lconst 0) := ⟨by decide +kernel, rfl⟩
set_option maxRecDepth 100000 in
theorem ii_mo_ways_72 : sm_D prog_9_method_69_code 72 1 73 (.lcmp) := ⟨by decide +kernel, rfl⟩
set_option maxRecDepth 100000 in
theorem ii_mo_ways_73 : sm_D prog_9_method_69_code 73 3 76 (.ifCond .ne 7) := ⟨by decide +kernel, rfl⟩
set_option maxRecDepth 100000 in
theorem ii_mo_ways_76 : sm_D prog_9_method_69_code 76 1 77 (.iconst 0) := ⟨by decide +kernel, rfl⟩
set_option maxRecDepth 100000 in
theorem ii_mo_ways_77 : sm_D prog_9_method_69_code 77 3 80 (.goto 4) := ⟨by decide +kernel, rfl⟩
set_option maxRecDepth 100000 in
theorem ii_mo_ways_80 : sm_D prog_9_method_69_code 80 1 81 (.iload_n 3) := ⟨by decide +kernel, rfl⟩
set_option maxRecDepth 100000 in
theorem ii_mo_ways_81 : sm_D prog_9_method_69_code 81 3 84 (.putfield 66) := ⟨by decide +kernel, rfl⟩
set_option maxRecDepth 100000 in
theorem ii_mo_ways_84 : sm_D prog_9_method_69_code 84 1 85 (.iconst 1) := ⟨by decide +kernel, rfl⟩
set_option maxRecDepth 100000 in
theorem ii_mo_ways_85 : sm_D prog_9_method_69_code 85 1 86 (.ireturn) := ⟨by decide +kernel, rfl⟩
noncomputable def ff_mo_ways_81  (b1 : Int32) (w : sm_Mem) : sm_R := (sm_let (sm_wI w 62 9 b1) fun w1 => (some (.int (1 : Int32), w1)))
set_option maxHeartbeats 4000000 in
set_option maxRecDepth 100000 in
theorem ss_mo_ways_81 {E : Nat × (Nat → Int32)}  (b1 : Int32) (w : sm_Mem) : sm_Sim E (mi_mo_ways) 81 [none, none, none, none] [.int b1, .ref 62] w (ff_mo_ways_81  b1 w) := by
  unfold ff_mo_ways_81
  refine sm_putI ii_mo_ways_81 fp_mo_66 (k := 62) rfl (fun w1 => ?_)
  refine sm_iconst (1 : Int32) ii_mo_ways_84 (by decide) ?_
  exact sm_iret ii_mo_ways_85 rfl
noncomputable def ff_mo_ways_39_b  (self39 : Int32 → sm_Mem → sm_R) (a3 : Int32) (w : sm_Mem) : sm_R := (sm_cI (ff_mo_nextWay  w) fun x2 w3 => (if x2 = (0 : Int32) then (if (lg_cmp (w3.2 62 10) (0 : Int64)) = (0 : Int32) then ff_mo_ways_81 ((0 : Int32)) w3 else ff_mo_ways_81 (a3) w3) else (sm_let (sm_wL w3 62 10 ((w3.2 62 10) + (1 : Int64))) fun w4 => (sm_cI (ff_mo_spokeIn  w4) fun x5 w6 => self39 ((a3 &&& x5)) w6))))
noncomputable def ff_mo_ways_39_f  : Nat → Int32 → sm_Mem → sm_R
  | 0, _, _ => none
  | n + 1, a3, w => ff_mo_ways_39_b  (ff_mo_ways_39_f  n) a3 w
noncomputable def ff_mo_ways_39  (a3 : Int32) (w : sm_Mem) : sm_R := ff_mo_ways_39_f  sm_N a3 w
set_option maxHeartbeats 4000000 in
set_option maxRecDepth 100000 in
theorem ss_mo_ways_39_b {E : Nat × (Nat → Int32)}  (self39 : Int32 → sm_Mem → sm_R) (hself39 : ∀ (a3 : Int32) (w : sm_Mem), sm_Sim E (mi_mo_ways) 39 [some (.ref 62), none, none, some (.int a3)] [] w (self39 a3 w)) (a3 : Int32) (w : sm_Mem) : sm_Sim E (mi_mo_ways) 39 [some (.ref 62), none, none, some (.int a3)] [] w (ff_mo_ways_39_b  self39 a3 w) := by
  unfold ff_mo_ways_39_b
  refine sm_aload_n ii_mo_ways_39 rfl ?_
  refine sm_cvI [] [] rfl ii_mo_ways_40 ml_mo_236 (mf_mo_nextWay) (mv_mo_nextWay) (Nat.le_of_ble_eq_true rfl) rfl 7 rfl rfl rfl rfl (mc_mo_nextWay  w) (fun x2 w3 => ?_)
  refine sm_if_eq 66 ii_mo_ways_43 (by decide) ?_ ?_
  · refine sm_aload_n ii_mo_ways_66 rfl ?_
    refine sm_aload_n ii_mo_ways_67 rfl ?_
    refine sm_getL ii_mo_ways_68 fl_mo_245 (k := 62) rfl ?_
    refine sm_lconst (0 : Int64) ii_mo_ways_71 (by decide) ?_
    refine sm_lcmp ii_mo_ways_72 ?_
    refine sm_if_ne 80 ii_mo_ways_73 (by decide) ?_ ?_
    · refine sm_iconst (0 : Int32) ii_mo_ways_76 (by decide) ?_
      refine sm_goto 81 ii_mo_ways_77 (by decide) ?_
      refine sm_msk [false, false, false, false] [none, none, none, none] rfl ?_
      exact ss_mo_ways_81 ((0 : Int32)) w3
    · refine sm_iload_n ii_mo_ways_80 rfl ?_
      refine sm_msk [false, false, false, false] [none, none, none, none] rfl ?_
      exact ss_mo_ways_81 (a3) w3
  · refine sm_aload_n ii_mo_ways_46 rfl ?_
    refine sm_dupR ii_mo_ways_47 ?_
    refine sm_getL ii_mo_ways_48 fl_mo_245 (k := 62) rfl ?_
    refine sm_lconst (1 : Int64) ii_mo_ways_51 (by decide) ?_
    refine sm_ladd ii_mo_ways_52 ?_
    refine sm_putL ii_mo_ways_53 fp_mo_245 (k := 62) rfl (fun w4 => ?_)
    refine sm_iload_n ii_mo_ways_56 rfl ?_
    refine sm_aload_n ii_mo_ways_57 rfl ?_
    refine sm_cvI [] [.int a3] rfl ii_mo_ways_58 ml_mo_248 (mf_mo_spokeIn) (mv_mo_spokeIn) (Nat.le_of_ble_eq_true rfl) rfl 7 rfl rfl rfl rfl (mc_mo_spokeIn  w4) (fun x5 w6 => ?_)
    refine sm_iand ii_mo_ways_61 ?_
    refine sm_istore_n [some (.ref 62), none, none, some (.int (a3 &&& x5))] ii_mo_ways_62 rfl rfl ?_
    refine sm_goto 39 ii_mo_ways_63 (by decide) ?_
    exact hself39 ((a3 &&& x5)) w6
set_option maxHeartbeats 4000000 in
set_option maxRecDepth 100000 in
theorem ss_mo_ways_39_f {E : Nat × (Nat → Int32)}  : ∀ (n : Nat) (a3 : Int32) (w : sm_Mem), sm_Sim E (mi_mo_ways) 39 [some (.ref 62), none, none, some (.int a3)] [] w (ff_mo_ways_39_f  n a3 w)
  | 0, _, _ => fun _ _ h => by cases h
  | n + 1, a3, w => ss_mo_ways_39_b  _ (ss_mo_ways_39_f  n) a3 w
set_option maxHeartbeats 4000000 in
set_option maxRecDepth 100000 in
theorem ss_mo_ways_39 {E : Nat × (Nat → Int32)}  (a3 : Int32) (w : sm_Mem) : sm_Sim E (mi_mo_ways) 39 [some (.ref 62), none, none, some (.int a3)] [] w (ff_mo_ways_39  a3 w) := ss_mo_ways_39_f  sm_N a3 w
noncomputable def ff_mo_ways  (a1 : Int32) (w : sm_Mem) : sm_R := (sm_cI (ff_mo_isRow (a1) w) fun x7 w8 => (if x7 = (0 : Int32) then (some (.int (-1 : Int32), w8)) else (sm_cI (ff_mo_noGoal (a1) ((1 : Int32)) w8) fun x9 w10 => (if x9 = (0 : Int32) then (sm_let (sm_wL w10 62 10 (0 : Int64)) fun w11 => (sm_let (sm_wL w11 62 11 (1 : Int64)) fun w12 => (sm_cV (ff_mo_beginWays  w12) fun w14 => ff_mo_ways_39 ((63 : Int32)) w14))) else (some (.int x9, w10))))))
set_option maxHeartbeats 4000000 in
set_option maxRecDepth 100000 in
theorem ss_mo_ways_0 {E : Nat × (Nat → Int32)}  (a1 : Int32) (w : sm_Mem) : sm_Sim E (mi_mo_ways) 0 [some (.ref 62), some (.int a1), none, none] [] w (ff_mo_ways  a1 w) := by
  unfold ff_mo_ways
  refine sm_iload_n ii_mo_ways_0 rfl ?_
  refine sm_csI [.int a1] [] rfl ii_mo_ways_1 ml_mo_77 (mf_mo_isRow) (mv_mo_isRow) (Nat.le_of_ble_eq_true rfl) rfl rfl rfl (mc_mo_isRow (a1) w) (fun x7 w8 => ?_)
  refine sm_if_ne 9 ii_mo_ways_4 (by decide) ?_ ?_
  · refine sm_iconst (-1 : Int32) ii_mo_ways_7 (by decide) ?_
    exact sm_iret ii_mo_ways_8 rfl
  · refine sm_aload_n ii_mo_ways_9 rfl ?_
    refine sm_iload_n ii_mo_ways_10 rfl ?_
    refine sm_iconst (1 : Int32) ii_mo_ways_11 (by decide) ?_
    refine sm_cvI [.int a1, .int (1 : Int32)] [] rfl ii_mo_ways_12 ml_mo_242 (mf_mo_noGoal) (mv_mo_noGoal) (Nat.le_of_ble_eq_true rfl) rfl 7 rfl rfl rfl rfl (mc_mo_noGoal (a1) ((1 : Int32)) w8) (fun x9 w10 => ?_)
    refine sm_istore_n [some (.ref 62), some (.int a1), some (.int x9), none] ii_mo_ways_15 rfl rfl ?_
    refine sm_iload_n ii_mo_ways_16 rfl ?_
    refine sm_if_eq 22 ii_mo_ways_17 (by decide) ?_ ?_
    · refine sm_aload_n ii_mo_ways_22 rfl ?_
      refine sm_lconst (0 : Int64) ii_mo_ways_23 (by decide) ?_
      refine sm_putL ii_mo_ways_24 fp_mo_245 (k := 62) rfl (fun w11 => ?_)
      refine sm_aload_n ii_mo_ways_27 rfl ?_
      refine sm_lconst (1 : Int64) ii_mo_ways_28 (by decide) ?_
      refine sm_putL ii_mo_ways_29 fp_mo_34 (k := 62) rfl (fun w12 => ?_)
      refine sm_bipush (63 : Int32) ii_mo_ways_32 (by decide) ?_
      refine sm_istore_n [some (.ref 62), some (.int a1), some (.int x9), some (.int (63 : Int32))] ii_mo_ways_34 rfl rfl ?_
      refine sm_aload_n ii_mo_ways_35 rfl ?_
      refine sm_cvV [] [] rfl ii_mo_ways_36 ml_mo_233 (mf_mo_beginWays) (mv_mo_beginWays) (Nat.le_of_ble_eq_true rfl) rfl 7 rfl rfl rfl rfl (mc_mo_beginWays  w12) (fun w14 => ?_)
      refine sm_msk [true, false, false, true] [some (.ref 62), none, none, some (.int (63 : Int32))] rfl ?_
      exact ss_mo_ways_39 ((63 : Int32)) w14
    · refine sm_iload_n ii_mo_ways_20 rfl ?_
      exact sm_iret ii_mo_ways_21 rfl
set_option maxHeartbeats 4000000 in
set_option maxRecDepth 100000 in
theorem mc_mo_ways (a1 : Int32) (w : sm_Mem) : sm_MC mi_mo_ways [.ref 62, .int a1] w (ff_mo_ways a1 w) := sm_MC_of (0, fun _ => 0) (by decide +kernel) (by decide) rfl (Nat.le_of_ble_eq_true rfl) (ss_mo_ways_0 a1 w)
abbrev mi_rw_become : sm_MI := (⟨"HerOrders$Row", "become", "([II)V"⟩, prog_4_method_4_code, 4, none, 2)
set_option maxRecDepth 100000 in
theorem mf_rw_become : sm_MF mi_rw_become 2 := ⟨List.mem_of_getElem? (i := 691) (by decide +kernel), List.mem_of_getElem? (i := 125) (by decide +kernel), ⟨by decide, by decide⟩, by decide +kernel⟩
set_option maxRecDepth 100000 in
theorem mv_rw_become : sm_MFV mi_rw_become := ⟨List.mem_of_getElem? (i := 690) (by decide +kernel), List.mem_of_getElem? (i := 39) (by decide +kernel)⟩
set_option maxRecDepth 100000 in
theorem ii_rw_become_0 : sm_D prog_4_method_4_code 0 1 1 (.aload_n 0) := ⟨by decide +kernel, rfl⟩
set_option maxRecDepth 100000 in
theorem ii_rw_become_1 : sm_D prog_4_method_4_code 1 1 2 (.iload_n 2) := ⟨by decide +kernel, rfl⟩
set_option maxRecDepth 100000 in
theorem ii_rw_become_2 : sm_D prog_4_method_4_code 2 1 3 (.aload_n 1) := ⟨by decide +kernel, rfl⟩
set_option maxRecDepth 100000 in
theorem ii_rw_become_3 : sm_D prog_4_method_4_code 3 1 4 (.arraylength) := ⟨by decide +kernel, rfl⟩
set_option maxRecDepth 100000 in
theorem ii_rw_become_4 : sm_D prog_4_method_4_code 4 3 7 (.invokestatic 25) := ⟨by decide +kernel, rfl⟩
set_option maxRecDepth 100000 in
theorem ii_rw_become_7 : sm_D prog_4_method_4_code 7 1 8 (.iconst 0) := ⟨by decide +kernel, rfl⟩
set_option maxRecDepth 100000 in
theorem ii_rw_become_8 : sm_D prog_4_method_4_code 8 3 11 (.invokevirtual 28) := ⟨by decide +kernel, rfl⟩
set_option maxRecDepth 100000 in
theorem ii_rw_become_11 : sm_D prog_4_method_4_code 11 1 12 (.iconst 0) := ⟨by decide +kernel, rfl⟩
set_option maxRecDepth 100000 in
theorem ii_rw_become_12 : sm_D prog_4_method_4_code 12 1 13 (.istore_n 3) := ⟨by decide +kernel, rfl⟩
set_option maxRecDepth 100000 in
theorem ii_rw_become_13 : sm_D prog_4_method_4_code 13 1 14 (.iload_n 3) := ⟨by decide +kernel, rfl⟩
set_option maxRecDepth 100000 in
theorem ii_rw_become_14 : sm_D prog_4_method_4_code 14 1 15 (.aload_n 0) := ⟨by decide +kernel, rfl⟩
set_option maxRecDepth 100000 in
theorem ii_rw_become_15 : sm_D prog_4_method_4_code 15 3 18 (.getfield 21) := ⟨by decide +kernel, rfl⟩
set_option maxRecDepth 100000 in
theorem ii_rw_become_18 : sm_D prog_4_method_4_code 18 3 21 (.if_icmp .ge 18) := ⟨by decide +kernel, rfl⟩
set_option maxRecDepth 100000 in
theorem ii_rw_become_21 : sm_D prog_4_method_4_code 21 1 22 (.aload_n 0) := ⟨by decide +kernel, rfl⟩
set_option maxRecDepth 100000 in
theorem ii_rw_become_22 : sm_D prog_4_method_4_code 22 3 25 (.getfield 15) := ⟨by decide +kernel, rfl⟩
set_option maxRecDepth 100000 in
theorem ii_rw_become_25 : sm_D prog_4_method_4_code 25 1 26 (.iload_n 3) := ⟨by decide +kernel, rfl⟩
set_option maxRecDepth 100000 in
theorem ii_rw_become_26 : sm_D prog_4_method_4_code 26 1 27 (.aload_n 1) := ⟨by decide +kernel, rfl⟩
set_option maxRecDepth 100000 in
theorem ii_rw_become_27 : sm_D prog_4_method_4_code 27 1 28 (.iload_n 3) := ⟨by decide +kernel, rfl⟩
set_option maxRecDepth 100000 in
theorem ii_rw_become_28 : sm_D prog_4_method_4_code 28 1 29 (.iaload) := ⟨by decide +kernel, rfl⟩
set_option maxRecDepth 100000 in
theorem ii_rw_become_29 : sm_D prog_4_method_4_code 29 1 30 (.iastore) := ⟨by decide +kernel, rfl⟩
set_option maxRecDepth 100000 in
theorem ii_rw_become_30 : sm_D prog_4_method_4_code 30 3 33 (.iinc 3 1) := ⟨by decide +kernel, rfl⟩
set_option maxRecDepth 100000 in
theorem ii_rw_become_33 : sm_D prog_4_method_4_code 33 3 36 (.goto (-20)) := ⟨by decide +kernel, rfl⟩
set_option maxRecDepth 100000 in
theorem ii_rw_become_36 : sm_D prog_4_method_4_code 36 1 37 (.return_) := ⟨by decide +kernel, rfl⟩
noncomputable def ff_rw_become_13_b  (self13 : Nat → Nat → Int32 → sm_Mem → sm_R) (a0 : Nat) (a1 : Nat) (a3 : Int32) (w : sm_Mem) : sm_R := (Option.bind (sm_gI w a0 2 1) fun x1 => (if x1 ≤ a3 then (some (.null, w)) else (Option.bind (sm_fk a0 2 0 2) fun r2 => (Option.bind (sm_rds w a1 a3) fun x3 => (Option.bind (sm_wrs w r2 a3 x3) fun w4 => self13 (a0) (a1) ((a3 + (1 : Int32))) w4)))))
noncomputable def ff_rw_become_13_f  : Nat → Nat → Nat → Int32 → sm_Mem → sm_R
  | 0, _, _, _, _ => none
  | n + 1, a0, a1, a3, w => ff_rw_become_13_b  (ff_rw_become_13_f  n) a0 a1 a3 w
noncomputable def ff_rw_become_13  (a0 : Nat) (a1 : Nat) (a3 : Int32) (w : sm_Mem) : sm_R := ff_rw_become_13_f  sm_N a0 a1 a3 w
set_option maxHeartbeats 4000000 in
set_option maxRecDepth 100000 in
theorem ss_rw_become_13_b {E : Nat × (Nat → Int32)}  (self13 : Nat → Nat → Int32 → sm_Mem → sm_R) (hself13 : ∀ (a0 : Nat) (a1 : Nat) (a3 : Int32) (w : sm_Mem), sm_Sim E (mi_rw_become) 13 [some (.ref a0), some (.ref a1), none, some (.int a3)] [] w (self13 a0 a1 a3 w)) (a0 : Nat) (a1 : Nat) (a3 : Int32) (w : sm_Mem) : sm_Sim E (mi_rw_become) 13 [some (.ref a0), some (.ref a1), none, some (.int a3)] [] w (ff_rw_become_13_b  self13 a0 a1 a3 w) := by
  unfold ff_rw_become_13_b
  refine sm_iload_n ii_rw_become_13 rfl ?_
  refine sm_aload_n ii_rw_become_14 rfl ?_
  refine sm_getIs ii_rw_become_15 fl_rw_21 (fun x1 => ?_)
  refine sm_icmp_ge 36 ii_rw_become_18 (by decide) ?_ ?_
  · exact sm_vret ii_rw_become_36 rfl
  · refine sm_aload_n ii_rw_become_21 rfl ?_
    refine sm_getRs ii_rw_become_22 fl_rw_15 (fun r2 => ?_)
    refine sm_iload_n ii_rw_become_25 rfl ?_
    refine sm_aload_n ii_rw_become_26 rfl ?_
    refine sm_iload_n ii_rw_become_27 rfl ?_
    refine sm_ialds ii_rw_become_28 (fun x3 => ?_)
    refine sm_iasts ii_rw_become_29 (fun w4 => ?_)
    refine sm_iinc (a3 + (1 : Int32)) [some (.ref a0), some (.ref a1), none, some (.int (a3 + (1 : Int32)))] ii_rw_become_30 rfl rfl rfl rfl ?_
    refine sm_goto 13 ii_rw_become_33 (by decide) ?_
    exact hself13 (a0) (a1) ((a3 + (1 : Int32))) w4
set_option maxHeartbeats 4000000 in
set_option maxRecDepth 100000 in
theorem ss_rw_become_13_f {E : Nat × (Nat → Int32)}  : ∀ (n : Nat) (a0 : Nat) (a1 : Nat) (a3 : Int32) (w : sm_Mem), sm_Sim E (mi_rw_become) 13 [some (.ref a0), some (.ref a1), none, some (.int a3)] [] w (ff_rw_become_13_f  n a0 a1 a3 w)
  | 0, _, _, _, _ => fun _ _ h => by cases h
  | n + 1, a0, a1, a3, w => ss_rw_become_13_b  _ (ss_rw_become_13_f  n) a0 a1 a3 w
set_option maxHeartbeats 4000000 in
set_option maxRecDepth 100000 in
theorem ss_rw_become_13 {E : Nat × (Nat → Int32)}  (a0 : Nat) (a1 : Nat) (a3 : Int32) (w : sm_Mem) : sm_Sim E (mi_rw_become) 13 [some (.ref a0), some (.ref a1), none, some (.int a3)] [] w (ff_rw_become_13  a0 a1 a3 w) := ss_rw_become_13_f  sm_N a0 a1 a3 w
noncomputable def ff_rw_become  (a0 : Nat) (a1 : Nat) (a2 : Int32) (w : sm_Mem) : sm_R := (Option.bind (sm_al a1) fun x5 => (sm_cV (sm_rc a0 2 (ff_rw_begin (a0) ((if x5 < a2 then x5 else a2)) ((0 : Int32)) w)) fun w7 => ff_rw_become_13 (a0) (a1) ((0 : Int32)) w7))
set_option maxHeartbeats 4000000 in
set_option maxRecDepth 100000 in
theorem ss_rw_become_0 {E : Nat × (Nat → Int32)}  (a0 : Nat) (a1 : Nat) (a2 : Int32) (w : sm_Mem) : sm_Sim E (mi_rw_become) 0 [some (.ref a0), some (.ref a1), some (.int a2), none] [] w (ff_rw_become  a0 a1 a2 w) := by
  unfold ff_rw_become
  refine sm_aload_n ii_rw_become_0 rfl ?_
  refine sm_iload_n ii_rw_become_1 rfl ?_
  refine sm_aload_n ii_rw_become_2 rfl ?_
  refine sm_alen ii_rw_become_3 (fun x5 => ?_)
  refine sm_mmin ii_rw_become_4 mq_rw_25 mq_st_min mq_in mq_co_min (by decide) rfl ?_
  refine sm_iconst (0 : Int32) ii_rw_become_7 (by decide) ?_
  refine sm_dvV [.int (if x5 < a2 then x5 else a2), .int (0 : Int32)] [] rfl ii_rw_become_8 ml_rw_28 (mf_rw_begin) (mv_rw_begin) (Nat.le_of_ble_eq_true rfl) rfl 2 rfl rfl rfl (mc_rw_begin (a0) ((if x5 < a2 then x5 else a2)) ((0 : Int32)) w) (fun w7 => ?_)
  refine sm_iconst (0 : Int32) ii_rw_become_11 (by decide) ?_
  refine sm_istore_n [some (.ref a0), some (.ref a1), some (.int a2), some (.int (0 : Int32))] ii_rw_become_12 rfl rfl ?_
  refine sm_msk [true, true, false, true] [some (.ref a0), some (.ref a1), none, some (.int (0 : Int32))] rfl ?_
  exact ss_rw_become_13 (a0) (a1) ((0 : Int32)) w7
set_option maxHeartbeats 4000000 in
set_option maxRecDepth 100000 in
theorem mc_rw_become (a0 : Nat) (a1 : Nat) (a2 : Int32) (w : sm_Mem) : sm_MC mi_rw_become [.ref a0, .ref a1, .int a2] w (ff_rw_become a0 a1 a2 w) := sm_MC_of (0, fun _ => 0) (by decide +kernel) (by decide) rfl (Nat.le_of_ble_eq_true rfl) (ss_rw_become_0 a0 a1 a2 w)
abbrev mi_ho_few : sm_MI := (⟨"HerOrders", "few", "(II)I"⟩, prog_1_method_25_code, 4, (some .int), 15)
set_option maxRecDepth 100000 in
theorem mf_ho_few : sm_MF mi_ho_few 2 := ⟨List.mem_of_getElem? (i := 687) (by decide +kernel), List.mem_of_getElem? (i := 124) (by decide +kernel), ⟨by decide, by decide⟩, by decide +kernel⟩
set_option maxRecDepth 100000 in
theorem mv_ho_few : sm_MFV mi_ho_few := ⟨List.mem_of_getElem? (i := 685) (by decide +kernel), List.mem_of_getElem? (i := 686) (by decide +kernel)⟩
set_option maxRecDepth 100000 in
theorem ii_ho_few_0 : sm_D prog_1_method_25_code 0 1 1 (.iload_n 2) := ⟨by decide +kernel, rfl⟩
set_option maxRecDepth 100000 in
theorem ii_ho_few_1 : sm_D prog_1_method_25_code 1 2 3 (.bipush 6) := ⟨by decide +kernel, rfl⟩
set_option maxRecDepth 100000 in
theorem ii_ho_few_3 : sm_D prog_1_method_25_code 3 3 6 (.invokestatic 81) := ⟨by decide +kernel, rfl⟩
set_option maxRecDepth 100000 in
theorem ii_ho_few_6 : sm_D prog_1_method_25_code 6 3 9 (.ifCond .ne 5) := ⟨by decide +kernel, rfl⟩
set_option maxRecDepth 100000 in
theorem ii_ho_few_9 : sm_D prog_1_method_25_code 9 1 10 (.iconst (-1)) := ⟨by decide +kernel, rfl⟩
set_option maxRecDepth 100000 in
theorem ii_ho_few_10 : sm_D prog_1_method_25_code 10 1 11 (.ireturn) := ⟨by decide +kernel, rfl⟩
set_option maxRecDepth 100000 in
theorem ii_ho_few_11 : sm_D prog_1_method_25_code 11 1 12 (.aload_n 0) := ⟨by decide +kernel, rfl⟩
set_option maxRecDepth 100000 in
theorem ii_ho_few_12 : sm_D prog_1_method_25_code 12 1 13 (.iload_n 1) := ⟨by decide +kernel, rfl⟩
set_option maxRecDepth 100000 in
theorem ii_ho_few_13 : sm_D prog_1_method_25_code 13 1 14 (.iconst 5) := ⟨by decide +kernel, rfl⟩
set_option maxRecDepth 100000 in
theorem ii_ho_few_14 : sm_D prog_1_method_25_code 14 3 17 (.invokevirtual 192) := ⟨by decide +kernel, rfl⟩
set_option maxRecDepth 100000 in
theorem ii_ho_few_17 : sm_D prog_1_method_25_code 17 1 18 (.istore_n 3) := ⟨by decide +kernel, rfl⟩
set_option maxRecDepth 100000 in
theorem ii_ho_few_18 : sm_D prog_1_method_25_code 18 1 19 (.iload_n 3) := ⟨by decide +kernel, rfl⟩
set_option maxRecDepth 100000 in
theorem ii_ho_few_19 : sm_D prog_1_method_25_code 19 3 22 (.ifCond .eq 5) := ⟨by decide +kernel, rfl⟩
set_option maxRecDepth 100000 in
theorem ii_ho_few_22 : sm_D prog_1_method_25_code 22 1 23 (.iload_n 3) := ⟨by decide +kernel, rfl⟩
set_option maxRecDepth 100000 in
theorem ii_ho_few_23 : sm_D prog_1_method_25_code 23 1 24 (.ireturn) := ⟨by decide +kernel, rfl⟩
set_option maxRecDepth 100000 in
theorem ii_ho_few_24 : sm_D prog_1_method_25_code 24 1 25 (.aload_n 0) := ⟨by decide +kernel, rfl⟩
set_option maxRecDepth 100000 in
theorem ii_ho_few_25 : sm_D prog_1_method_25_code 25 3 28 (.getfield 40) := ⟨by decide +kernel, rfl⟩
set_option maxRecDepth 100000 in
theorem ii_ho_few_28 : sm_D prog_1_method_25_code 28 1 29 (.aload_n 0) := ⟨by decide +kernel, rfl⟩
set_option maxRecDepth 100000 in
theorem ii_ho_few_29 : sm_D prog_1_method_25_code 29 3 32 (.getfield 11) := ⟨by decide +kernel, rfl⟩
set_option maxRecDepth 100000 in
theorem ii_ho_few_32 : sm_D prog_1_method_25_code 32 1 33 (.iload_n 1) := ⟨by decide +kernel, rfl⟩
set_option maxRecDepth 100000 in
theorem ii_ho_few_33 : sm_D prog_1_method_25_code 33 1 34 (.aaload) := ⟨by decide +kernel, rfl⟩
set_option maxRecDepth 100000 in
theorem ii_ho_few_34 : sm_D prog_1_method_25_code 34 2 36 (.bipush (-9)) := ⟨by decide +kernel, rfl⟩
set_option maxRecDepth 100000 in
theorem ii_ho_few_36 : sm_D prog_1_method_25_code 36 3 39 (.invokevirtual 195) := ⟨by decide +kernel, rfl⟩
set_option maxRecDepth 100000 in
theorem ii_ho_few_39 : sm_D prog_1_method_25_code 39 1 40 (.aload_n 0) := ⟨by decide +kernel, rfl⟩
set_option maxRecDepth 100000 in
theorem ii_ho_few_40 : sm_D prog_1_method_25_code 40 3 43 (.getfield 40) := ⟨by decide +kernel, rfl⟩
set_option maxRecDepth 100000 in
theorem ii_ho_few_43 : sm_D prog_1_method_25_code 43 3 46 (.invokevirtual 199) := ⟨by decide +kernel, rfl⟩
set_option maxRecDepth 100000 in
theorem ii_ho_few_46 : sm_D prog_1_method_25_code 46 3 49 (.ifCond .ne 6) := ⟨by decide +kernel, rfl⟩
set_option maxRecDepth 100000 in
theorem ii_ho_few_49 : sm_D prog_1_method_25_code 49 2 51 (.bipush (-9)) := ⟨by decide +kernel, rfl⟩
set_option maxRecDepth 100000 in
theorem ii_ho_few_51 : sm_D prog_1_method_25_code 51 1 52 (.ireturn) := ⟨by decide +kernel, rfl⟩
set_option maxRecDepth 100000 in
theorem ii_ho_few_52 : sm_D prog_1_method_25_code 52 1 53 (.aload_n 0) := ⟨by decide +kernel, rfl⟩
set_option maxRecDepth 100000 in
theorem ii_ho_few_53 : sm_D prog_1_method_25_code 53 3 56 (.getfield 11) := ⟨by decide +kernel, rfl⟩
set_option maxRecDepth 100000 in
theorem ii_ho_few_56 : sm_D prog_1_method_25_code 56 1 57 (.iload_n 2) := ⟨by decide +kernel, rfl⟩
set_option maxRecDepth 100000 in
theorem ii_ho_few_57 : sm_D prog_1_method_25_code 57 1 58 (.aaload) := ⟨by decide +kernel, rfl⟩
set_option maxRecDepth 100000 in
theorem ii_ho_few_58 : sm_D prog_1_method_25_code 58 1 59 (.aload_n 0) := ⟨by decide +kernel, rfl⟩
set_option maxRecDepth 100000 in
theorem ii_ho_few_59 : sm_D prog_1_method_25_code 59 3 62 (.getfield 40) := ⟨by decide +kernel, rfl⟩
set_option maxRecDepth 100000 in
theorem ii_ho_few_62 : sm_D prog_1_method_25_code 62 3 65 (.getfield 210) := ⟨by decide +kernel, rfl⟩
set_option maxRecDepth 100000 in
theorem ii_ho_few_65 : sm_D prog_1_method_25_code 65 1 66 (.aload_n 0) := ⟨by decide +kernel, rfl⟩
set_option maxRecDepth 100000 in
theorem ii_ho_few_66 : sm_D prog_1_method_25_code 66 3 69 (.getfield 40) := ⟨by decide +kernel, rfl⟩
set_option maxRecDepth 100000 in
theorem ii_ho_few_69 : sm_D prog_1_method_25_code 69 3 72 (.getfield 213) := ⟨by decide +kernel, rfl⟩
set_option maxRecDepth 100000 in
theorem ii_ho_few_72 : sm_D prog_1_method_25_code 72 3 75 (.invokevirtual 216) := ⟨by decide +kernel, rfl⟩
set_option maxRecDepth 100000 in
theorem ii_ho_few_75 : sm_D prog_1_method_25_code 75 1 76 (.aload_n 0) := ⟨by decide +kernel, rfl⟩
set_option maxRecDepth 100000 in
theorem ii_ho_few_76 : sm_D prog_1_method_25_code 76 3 79 (.getfield 40) := ⟨by decide +kernel, rfl⟩
set_option maxRecDepth 100000 in
theorem ii_ho_few_79 : sm_D prog_1_method_25_code 79 3 82 (.getfield 219) := ⟨by decide +kernel, rfl⟩
set_option maxRecDepth 100000 in
theorem ii_ho_few_82 : sm_D prog_1_method_25_code 82 1 83 (.ireturn) := ⟨by decide +kernel, rfl⟩
noncomputable def ff_ho_few  (a1 : Int32) (a2 : Int32) (w : sm_Mem) : sm_R := (sm_cI (ff_ho_isWithin (a2) ((6 : Int32)) w) fun x1 w2 => (if x1 = (0 : Int32) then (some (.int (-1 : Int32), w2)) else (sm_cI (ff_ho_refusalOfWords (a1) ((5 : Int32)) w2) fun x3 w4 => (if x3 = (0 : Int32) then (Option.bind (sm_rr 1 a1) fun r5 => (sm_cV (ff_wy_runWords (r5) ((-9 : Int32)) w4) fun w7 => (sm_cI (ff_wy_fullWays  w7) fun x8 w9 => (if x8 = (0 : Int32) then (some (.int (-9 : Int32), w9)) else (Option.bind (sm_rr 1 a2) fun r10 => (sm_cV (sm_rc r10 2 (ff_rw_become (r10) (55) ((w9.1 49 3)) w9)) fun w12 => (some (.int (w12.1 49 8), w12)))))))) else (some (.int x3, w4))))))
set_option maxHeartbeats 4000000 in
set_option maxRecDepth 100000 in
theorem ss_ho_few_0 {E : Nat × (Nat → Int32)}  (a1 : Int32) (a2 : Int32) (w : sm_Mem) : sm_Sim E (mi_ho_few) 0 [some (.ref 0), some (.int a1), some (.int a2), none] [] w (ff_ho_few  a1 a2 w) := by
  unfold ff_ho_few
  refine sm_iload_n ii_ho_few_0 rfl ?_
  refine sm_bipush (6 : Int32) ii_ho_few_1 (by decide) ?_
  refine sm_csI [.int a2, .int (6 : Int32)] [] rfl ii_ho_few_3 ml_ho_81 (mf_ho_isWithin) (mv_ho_isWithin) (Nat.le_of_ble_eq_true rfl) rfl rfl rfl (mc_ho_isWithin (a2) ((6 : Int32)) w) (fun x1 w2 => ?_)
  refine sm_if_ne 11 ii_ho_few_6 (by decide) ?_ ?_
  · refine sm_iconst (-1 : Int32) ii_ho_few_9 (by decide) ?_
    exact sm_iret ii_ho_few_10 rfl
  · refine sm_aload_n ii_ho_few_11 rfl ?_
    refine sm_iload_n ii_ho_few_12 rfl ?_
    refine sm_iconst (5 : Int32) ii_ho_few_13 (by decide) ?_
    refine sm_cvI [.int a1, .int (5 : Int32)] [] rfl ii_ho_few_14 ml_ho_192 (mf_ho_refusalOfWords) (mv_ho_refusalOfWords) (Nat.le_of_ble_eq_true rfl) rfl 6 rfl rfl rfl rfl (mc_ho_refusalOfWords (a1) ((5 : Int32)) w2) (fun x3 w4 => ?_)
    refine sm_istore_n [some (.ref 0), some (.int a1), some (.int a2), some (.int x3)] ii_ho_few_17 rfl rfl ?_
    refine sm_iload_n ii_ho_few_18 rfl ?_
    refine sm_if_eq 24 ii_ho_few_19 (by decide) ?_ ?_
    · refine sm_aload_n ii_ho_few_24 rfl ?_
      refine sm_getR 49 ii_ho_few_25 fl_ho_40 (k := 0) rfl ?_
      refine sm_aload_n ii_ho_few_28 rfl ?_
      refine sm_getR 1 ii_ho_few_29 fl_ho_11 (k := 0) rfl ?_
      refine sm_iload_n ii_ho_few_32 rfl ?_
      refine sm_aald ii_ho_few_33 (fun r5 => ?_)
      refine sm_bipush (-9 : Int32) ii_ho_few_34 (by decide) ?_
      refine sm_cvV [.ref r5, .int (-9 : Int32)] [] rfl ii_ho_few_36 ml_ho_195 (mf_wy_runWords) (mv_wy_runWords) (Nat.le_of_ble_eq_true rfl) rfl 5 rfl rfl rfl rfl (mc_wy_runWords (r5) ((-9 : Int32)) w4) (fun w7 => ?_)
      refine sm_aload_n ii_ho_few_39 rfl ?_
      refine sm_getR 49 ii_ho_few_40 fl_ho_40 (k := 0) rfl ?_
      refine sm_cvI [] [] rfl ii_ho_few_43 ml_ho_199 (mf_wy_fullWays) (mv_wy_fullWays) (Nat.le_of_ble_eq_true rfl) rfl 5 rfl rfl rfl rfl (mc_wy_fullWays  w7) (fun x8 w9 => ?_)
      refine sm_if_ne 52 ii_ho_few_46 (by decide) ?_ ?_
      · refine sm_bipush (-9 : Int32) ii_ho_few_49 (by decide) ?_
        exact sm_iret ii_ho_few_51 rfl
      · refine sm_aload_n ii_ho_few_52 rfl ?_
        refine sm_getR 1 ii_ho_few_53 fl_ho_11 (k := 0) rfl ?_
        refine sm_iload_n ii_ho_few_56 rfl ?_
        refine sm_aald ii_ho_few_57 (fun r10 => ?_)
        refine sm_aload_n ii_ho_few_58 rfl ?_
        refine sm_getR 49 ii_ho_few_59 fl_ho_40 (k := 0) rfl ?_
        refine sm_getR 55 ii_ho_few_62 fl_ho_210 (k := 49) rfl ?_
        refine sm_aload_n ii_ho_few_65 rfl ?_
        refine sm_getR 49 ii_ho_few_66 fl_ho_40 (k := 0) rfl ?_
        refine sm_getI ii_ho_few_69 fl_ho_213 (k := 49) rfl ?_
        refine sm_dvV [.ref 55, .int (w9.1 49 3)] [] rfl ii_ho_few_72 ml_ho_216 (mf_rw_become) (mv_rw_become) (Nat.le_of_ble_eq_true rfl) rfl 2 rfl rfl rfl (mc_rw_become (r10) (55) ((w9.1 49 3)) w9) (fun w12 => ?_)
        refine sm_aload_n ii_ho_few_75 rfl ?_
        refine sm_getR 49 ii_ho_few_76 fl_ho_40 (k := 0) rfl ?_
        refine sm_getI ii_ho_few_79 fl_ho_219 (k := 49) rfl ?_
        exact sm_iret ii_ho_few_82 rfl
    · refine sm_iload_n ii_ho_few_22 rfl ?_
      exact sm_iret ii_ho_few_23 rfl
set_option maxHeartbeats 4000000 in
set_option maxRecDepth 100000 in
theorem mc_ho_few (a1 : Int32) (a2 : Int32) (w : sm_Mem) : sm_MC mi_ho_few [.ref 0, .int a1, .int a2] w (ff_ho_few a1 a2 w) := sm_MC_of (0, fun _ => 0) (by decide +kernel) (by decide) rfl (Nat.le_of_ble_eq_true rfl) (ss_ho_few_0 a1 a2 w)
abbrev mi_mo_few : sm_MI := (⟨"HerOrdersModel", "few", "(II)I"⟩, prog_9_method_70_code, 7, (some .int), 6)
set_option maxRecDepth 100000 in
theorem mf_mo_few : sm_MF mi_mo_few 2 := ⟨List.mem_of_getElem? (i := 1295) (by decide +kernel), List.mem_of_getElem? (i := 132) (by decide +kernel), ⟨by decide, by decide⟩, by decide +kernel⟩
set_option maxRecDepth 100000 in
theorem mv_mo_few : sm_MFV mi_mo_few := ⟨List.mem_of_getElem? (i := 1293) (by decide +kernel), List.mem_of_getElem? (i := 1294) (by decide +kernel)⟩
set_option maxRecDepth 100000 in
theorem ii_mo_few_0 : sm_D prog_9_method_70_code 0 1 1 (.iload_n 1) := ⟨by decide +kernel, rfl⟩
set_option maxRecDepth 100000 in
theorem ii_mo_few_1 : sm_D prog_9_method_70_code 1 3 4 (.invokestatic 77) := ⟨by decide +kernel, rfl⟩
set_option maxRecDepth 100000 in
theorem ii_mo_few_4 : sm_D prog_9_method_70_code 4 3 7 (.ifCond .eq 10) := ⟨by decide +kernel, rfl⟩
set_option maxRecDepth 100000 in
theorem ii_mo_few_7 : sm_D prog_9_method_70_code 7 1 8 (.iload_n 2) := ⟨by decide +kernel, rfl⟩
set_option maxRecDepth 100000 in
theorem ii_mo_few_8 : sm_D prog_9_method_70_code 8 3 11 (.invokestatic 77) := ⟨by decide +kernel, rfl⟩
set_option maxRecDepth 100000 in
theorem ii_mo_few_11 : sm_D prog_9_method_70_code 11 3 14 (.ifCond .ne 5) := ⟨by decide +kernel, rfl⟩
set_option maxRecDepth 100000 in
theorem ii_mo_few_14 : sm_D prog_9_method_70_code 14 1 15 (.iconst (-1)) := ⟨by decide +kernel, rfl⟩
set_option maxRecDepth 100000 in
theorem ii_mo_few_15 : sm_D prog_9_method_70_code 15 1 16 (.ireturn) := ⟨by decide +kernel, rfl⟩
set_option maxRecDepth 100000 in
theorem ii_mo_few_16 : sm_D prog_9_method_70_code 16 1 17 (.aload_n 0) := ⟨by decide +kernel, rfl⟩
set_option maxRecDepth 100000 in
theorem ii_mo_few_17 : sm_D prog_9_method_70_code 17 1 18 (.iload_n 1) := ⟨by decide +kernel, rfl⟩
set_option maxRecDepth 100000 in
theorem ii_mo_few_18 : sm_D prog_9_method_70_code 18 1 19 (.iconst 1) := ⟨by decide +kernel, rfl⟩
set_option maxRecDepth 100000 in
theorem ii_mo_few_19 : sm_D prog_9_method_70_code 19 3 22 (.invokevirtual 242) := ⟨by decide +kernel, rfl⟩
set_option maxRecDepth 100000 in
theorem ii_mo_few_22 : sm_D prog_9_method_70_code 22 1 23 (.istore_n 3) := ⟨by decide +kernel, rfl⟩
set_option maxRecDepth 100000 in
theorem ii_mo_few_23 : sm_D prog_9_method_70_code 23 1 24 (.iload_n 3) := ⟨by decide +kernel, rfl⟩
set_option maxRecDepth 100000 in
theorem ii_mo_few_24 : sm_D prog_9_method_70_code 24 3 27 (.ifCond .eq 5) := ⟨by decide +kernel, rfl⟩
set_option maxRecDepth 100000 in
theorem ii_mo_few_27 : sm_D prog_9_method_70_code 27 1 28 (.iload_n 3) := ⟨by decide +kernel, rfl⟩
set_option maxRecDepth 100000 in
theorem ii_mo_few_28 : sm_D prog_9_method_70_code 28 1 29 (.ireturn) := ⟨by decide +kernel, rfl⟩
set_option maxRecDepth 100000 in
theorem ii_mo_few_29 : sm_D prog_9_method_70_code 29 2 31 (.bipush 7) := ⟨by decide +kernel, rfl⟩
set_option maxRecDepth 100000 in
theorem ii_mo_few_31 : sm_D prog_9_method_70_code 31 2 33 (.istore 4) := ⟨by decide +kernel, rfl⟩
set_option maxRecDepth 100000 in
theorem ii_mo_few_33 : sm_D prog_9_method_70_code 33 1 34 (.aload_n 0) := ⟨by decide +kernel, rfl⟩
set_option maxRecDepth 100000 in
theorem ii_mo_few_34 : sm_D prog_9_method_70_code 34 3 37 (.invokevirtual 233) := ⟨by decide +kernel, rfl⟩
set_option maxRecDepth 100000 in
theorem ii_mo_few_37 : sm_D prog_9_method_70_code 37 1 38 (.aload_n 0) := ⟨by decide +kernel, rfl⟩
set_option maxRecDepth 100000 in
theorem ii_mo_few_38 : sm_D prog_9_method_70_code 38 3 41 (.invokevirtual 236) := ⟨by decide +kernel, rfl⟩
set_option maxRecDepth 100000 in
theorem ii_mo_few_41 : sm_D prog_9_method_70_code 41 3 44 (.ifCond .eq 58) := ⟨by decide +kernel, rfl⟩
set_option maxRecDepth 100000 in
theorem ii_mo_few_44 : sm_D prog_9_method_70_code 44 1 45 (.aload_n 0) := ⟨by decide +kernel, rfl⟩
set_option maxRecDepth 100000 in
theorem ii_mo_few_45 : sm_D prog_9_method_70_code 45 3 48 (.invokevirtual 248) := ⟨by decide +kernel, rfl⟩
set_option maxRecDepth 100000 in
theorem ii_mo_few_48 : sm_D prog_9_method_70_code 48 3 51 (.invokestatic 178) := ⟨by decide +kernel, rfl⟩
set_option maxRecDepth 100000 in
theorem ii_mo_few_51 : sm_D prog_9_method_70_code 51 2 53 (.istore 5) := ⟨by decide +kernel, rfl⟩
set_option maxRecDepth 100000 in
theorem ii_mo_few_53 : sm_D prog_9_method_70_code 53 2 55 (.iload 5) := ⟨by decide +kernel, rfl⟩
set_option maxRecDepth 100000 in
theorem ii_mo_few_55 : sm_D prog_9_method_70_code 55 2 57 (.iload 4) := ⟨by decide +kernel, rfl⟩
set_option maxRecDepth 100000 in
theorem ii_mo_few_57 : sm_D prog_9_method_70_code 57 3 60 (.if_icmp .ge 39) := ⟨by decide +kernel, rfl⟩
set_option maxRecDepth 100000 in
theorem ii_mo_few_60 : sm_D prog_9_method_70_code 60 2 62 (.iload 5) := ⟨by decide +kernel, rfl⟩
set_option maxRecDepth 100000 in
theorem ii_mo_few_62 : sm_D prog_9_method_70_code 62 2 64 (.istore 4) := ⟨by decide +kernel, rfl⟩
set_option maxRecDepth 100000 in
theorem ii_mo_few_64 : sm_D prog_9_method_70_code 64 1 65 (.iconst 0) := ⟨by decide +kernel, rfl⟩
set_option maxRecDepth 100000 in
theorem ii_mo_few_65 : sm_D prog_9_method_70_code 65 2 67 (.istore 6) := ⟨by decide +kernel, rfl⟩
set_option maxRecDepth 100000 in
theorem ii_mo_few_67 : sm_D prog_9_method_70_code 67 2 69 (.iload 6) := ⟨by decide +kernel, rfl⟩
set_option maxRecDepth 100000 in
theorem ii_mo_few_69 : sm_D prog_9_method_70_code 69 1 70 (.aload_n 0) := ⟨by decide +kernel, rfl⟩
set_option maxRecDepth 100000 in
theorem ii_mo_few_70 : sm_D prog_9_method_70_code 70 3 73 (.getfield 208) := ⟨by decide +kernel, rfl⟩
set_option maxRecDepth 100000 in
theorem ii_mo_few_73 : sm_D prog_9_method_70_code 73 3 76 (.if_icmp .ge 23) := ⟨by decide +kernel, rfl⟩
set_option maxRecDepth 100000 in
theorem ii_mo_few_76 : sm_D prog_9_method_70_code 76 1 77 (.aload_n 0) := ⟨by decide +kernel, rfl⟩
set_option maxRecDepth 100000 in
theorem ii_mo_few_77 : sm_D prog_9_method_70_code 77 3 80 (.getfield 56) := ⟨by decide +kernel, rfl⟩
set_option maxRecDepth 100000 in
theorem ii_mo_few_80 : sm_D prog_9_method_70_code 80 2 82 (.iload 6) := ⟨by decide +kernel, rfl⟩
set_option maxRecDepth 100000 in
theorem ii_mo_few_82 : sm_D prog_9_method_70_code 82 1 83 (.aload_n 0) := ⟨by decide +kernel, rfl⟩
set_option maxRecDepth 100000 in
theorem ii_mo_few_83 : sm_D prog_9_method_70_code 83 3 86 (.getfield 50) := ⟨by decide +kernel, rfl⟩
set_option maxRecDepth 100000 in
theorem ii_mo_few_86 : sm_D prog_9_method_70_code 86 2 88 (.iload 6) := ⟨by decide +kernel, rfl⟩
set_option maxRecDepth 100000 in
theorem ii_mo_few_88 : sm_D prog_9_method_70_code 88 1 89 (.iaload) := ⟨by decide +kernel, rfl⟩
set_option maxRecDepth 100000 in
theorem ii_mo_few_89 : sm_D prog_9_method_70_code 89 1 90 (.iastore) := ⟨by decide +kernel, rfl⟩
set_option maxRecDepth 100000 in
theorem ii_mo_few_90 : sm_D prog_9_method_70_code 90 3 93 (.iinc 6 1) := ⟨by decide +kernel, rfl⟩
set_option maxRecDepth 100000 in
theorem ii_mo_few_93 : sm_D prog_9_method_70_code 93 3 96 (.goto (-26)) := ⟨by decide +kernel, rfl⟩
set_option maxRecDepth 100000 in
theorem ii_mo_few_96 : sm_D prog_9_method_70_code 96 3 99 (.goto (-59)) := ⟨by decide +kernel, rfl⟩
set_option maxRecDepth 100000 in
theorem ii_mo_few_99 : sm_D prog_9_method_70_code 99 2 101 (.iload 4) := ⟨by decide +kernel, rfl⟩
set_option maxRecDepth 100000 in
theorem ii_mo_few_101 : sm_D prog_9_method_70_code 101 2 103 (.bipush 7) := ⟨by decide +kernel, rfl⟩
set_option maxRecDepth 100000 in
theorem ii_mo_few_103 : sm_D prog_9_method_70_code 103 3 106 (.if_icmp .ne 6) := ⟨by decide +kernel, rfl⟩
set_option maxRecDepth 100000 in
theorem ii_mo_few_106 : sm_D prog_9_method_70_code 106 2 108 (.bipush (-9)) := ⟨by decide +kernel, rfl⟩
set_option maxRecDepth 100000 in
theorem ii_mo_few_108 : sm_D prog_9_method_70_code 108 1 109 (.ireturn) := ⟨by decide +kernel, rfl⟩
set_option maxRecDepth 100000 in
theorem ii_mo_few_109 : sm_D prog_9_method_70_code 109 1 110 (.aload_n 0) := ⟨by decide +kernel, rfl⟩
set_option maxRecDepth 100000 in
theorem ii_mo_few_110 : sm_D prog_9_method_70_code 110 1 111 (.iload_n 2) := ⟨by decide +kernel, rfl⟩
set_option maxRecDepth 100000 in
theorem ii_mo_few_111 : sm_D prog_9_method_70_code 111 1 112 (.aload_n 0) := ⟨by decide +kernel, rfl⟩
set_option maxRecDepth 100000 in
theorem ii_mo_few_112 : sm_D prog_9_method_70_code 112 3 115 (.getfield 208) := ⟨by decide +kernel, rfl⟩
set_option maxRecDepth 100000 in
theorem ii_mo_few_115 : sm_D prog_9_method_70_code 115 3 118 (.invokevirtual 85) := ⟨by decide +kernel, rfl⟩
set_option maxRecDepth 100000 in
theorem ii_mo_few_118 : sm_D prog_9_method_70_code 118 1 119 (.iconst 0) := ⟨by decide +kernel, rfl⟩
set_option maxRecDepth 100000 in
theorem ii_mo_few_119 : sm_D prog_9_method_70_code 119 2 121 (.istore 5) := ⟨by decide +kernel, rfl⟩
set_option maxRecDepth 100000 in
theorem ii_mo_few_121 : sm_D prog_9_method_70_code 121 2 123 (.iload 5) := ⟨by decide +kernel, rfl⟩
set_option maxRecDepth 100000 in
theorem ii_mo_few_123 : sm_D prog_9_method_70_code 123 1 124 (.aload_n 0) := ⟨by decide +kernel, rfl⟩
set_option maxRecDepth 100000 in
theorem ii_mo_few_124 : sm_D prog_9_method_70_code 124 3 127 (.getfield 208) := ⟨by decide +kernel, rfl⟩
set_option maxRecDepth 100000 in
theorem ii_mo_few_127 : sm_D prog_9_method_70_code 127 3 130 (.if_icmp .ge 28) := ⟨by decide +kernel, rfl⟩
set_option maxRecDepth 100000 in
theorem ii_mo_few_130 : sm_D prog_9_method_70_code 130 1 131 (.aload_n 0) := ⟨by decide +kernel, rfl⟩
set_option maxRecDepth 100000 in
theorem ii_mo_few_131 : sm_D prog_9_method_70_code 131 3 134 (.getfield 25) := ⟨by decide +kernel, rfl⟩
set_option maxRecDepth 100000 in
theorem ii_mo_few_134 : sm_D prog_9_method_70_code 134 2 136 (.bipush 40) := ⟨by decide +kernel, rfl⟩
set_option maxRecDepth 100000 in
theorem ii_mo_few_136 : sm_D prog_9_method_70_code 136 1 137 (.iload_n 2) := ⟨by decide +kernel, rfl⟩
set_option maxRecDepth 100000 in
theorem ii_mo_few_137 : sm_D prog_9_method_70_code 137 1 138 (.imul) := ⟨by decide +kernel, rfl⟩
set_option maxRecDepth 100000 in
theorem ii_mo_few_138 : sm_D prog_9_method_70_code 138 2 140 (.iload 5) := ⟨by decide +kernel, rfl⟩
set_option maxRecDepth 100000 in
theorem ii_mo_few_140 : sm_D prog_9_method_70_code 140 1 141 (.iadd) := ⟨by decide +kernel, rfl⟩
set_option maxRecDepth 100000 in
theorem ii_mo_few_141 : sm_D prog_9_method_70_code 141 1 142 (.aload_n 0) := ⟨by decide +kernel, rfl⟩
set_option maxRecDepth 100000 in
theorem ii_mo_few_142 : sm_D prog_9_method_70_code 142 3 145 (.getfield 56) := ⟨by decide +kernel, rfl⟩
set_option maxRecDepth 100000 in
theorem ii_mo_few_145 : sm_D prog_9_method_70_code 145 2 147 (.iload 5) := ⟨by decide +kernel, rfl⟩
set_option maxRecDepth 100000 in
theorem ii_mo_few_147 : sm_D prog_9_method_70_code 147 1 148 (.iaload) := ⟨by decide +kernel, rfl⟩
set_option maxRecDepth 100000 in
theorem ii_mo_few_148 : sm_D prog_9_method_70_code 148 1 149 (.iastore) := ⟨by decide +kernel, rfl⟩
set_option maxRecDepth 100000 in
theorem ii_mo_few_149 : sm_D prog_9_method_70_code 149 3 152 (.iinc 5 1) := ⟨by decide +kernel, rfl⟩
set_option maxRecDepth 100000 in
theorem ii_mo_few_152 : sm_D prog_9_method_70_code 152 3 155 (.goto (-31)) := ⟨by decide +kernel, rfl⟩
set_option maxRecDepth 100000 in
theorem ii_mo_few_155 : sm_D prog_9_method_70_code 155 2 157 (.iload 4) := ⟨by decide +kernel, rfl⟩
set_option maxRecDepth 100000 in
theorem ii_mo_few_157 : sm_D prog_9_method_70_code 157 1 158 (.ireturn) := ⟨by decide +kernel, rfl⟩
noncomputable def ff_mo_few_121_b  (self121 : Int32 → Int32 → Int32 → sm_Mem → sm_R) (a2 : Int32) (a4 : Int32) (a5 : Int32) (w : sm_Mem) : sm_R := (if (w.1 62 21) ≤ a5 then (some (.int a4, w)) else (Option.bind (sm_rd w 77 5 a5) fun x1 => (Option.bind (sm_wr w 68 240 (((40 : Int32) * a2) + a5) x1) fun w2 => self121 (a2) (a4) ((a5 + (1 : Int32))) w2)))
noncomputable def ff_mo_few_121_f  : Nat → Int32 → Int32 → Int32 → sm_Mem → sm_R
  | 0, _, _, _, _ => none
  | n + 1, a2, a4, a5, w => ff_mo_few_121_b  (ff_mo_few_121_f  n) a2 a4 a5 w
noncomputable def ff_mo_few_121  (a2 : Int32) (a4 : Int32) (a5 : Int32) (w : sm_Mem) : sm_R := ff_mo_few_121_f  sm_N a2 a4 a5 w
set_option maxHeartbeats 4000000 in
set_option maxRecDepth 100000 in
theorem ss_mo_few_121_b {E : Nat × (Nat → Int32)}  (self121 : Int32 → Int32 → Int32 → sm_Mem → sm_R) (hself121 : ∀ (a2 : Int32) (a4 : Int32) (a5 : Int32) (w : sm_Mem), sm_Sim E (mi_mo_few) 121 [some (.ref 62), none, some (.int a2), none, some (.int a4), some (.int a5), none] [] w (self121 a2 a4 a5 w)) (a2 : Int32) (a4 : Int32) (a5 : Int32) (w : sm_Mem) : sm_Sim E (mi_mo_few) 121 [some (.ref 62), none, some (.int a2), none, some (.int a4), some (.int a5), none] [] w (ff_mo_few_121_b  self121 a2 a4 a5 w) := by
  unfold ff_mo_few_121_b
  refine sm_iload ii_mo_few_121 rfl ?_
  refine sm_aload_n ii_mo_few_123 rfl ?_
  refine sm_getI ii_mo_few_124 fl_mo_208 (k := 62) rfl ?_
  refine sm_icmp_ge 155 ii_mo_few_127 (by decide) ?_ ?_
  · refine sm_iload ii_mo_few_155 rfl ?_
    exact sm_iret ii_mo_few_157 rfl
  · refine sm_aload_n ii_mo_few_130 rfl ?_
    refine sm_getR 68 ii_mo_few_131 fl_mo_25 (k := 62) rfl ?_
    refine sm_bipush (40 : Int32) ii_mo_few_134 (by decide) ?_
    refine sm_iload_n ii_mo_few_136 rfl ?_
    refine sm_imul ii_mo_few_137 ?_
    refine sm_iload ii_mo_few_138 rfl ?_
    refine sm_iadd ii_mo_few_140 ?_
    refine sm_aload_n ii_mo_few_141 rfl ?_
    refine sm_getR 77 ii_mo_few_142 fl_mo_56 (k := 62) rfl ?_
    refine sm_iload ii_mo_few_145 rfl ?_
    refine sm_iald ii_mo_few_147 (k := 77) rfl (fun x1 => ?_)
    refine sm_iast ii_mo_few_148 (k := 68) rfl (fun w2 => ?_)
    refine sm_iinc (a5 + (1 : Int32)) [some (.ref 62), none, some (.int a2), none, some (.int a4), some (.int (a5 + (1 : Int32))), none] ii_mo_few_149 rfl rfl rfl rfl ?_
    refine sm_goto 121 ii_mo_few_152 (by decide) ?_
    exact hself121 (a2) (a4) ((a5 + (1 : Int32))) w2
set_option maxHeartbeats 4000000 in
set_option maxRecDepth 100000 in
theorem ss_mo_few_121_f {E : Nat × (Nat → Int32)}  : ∀ (n : Nat) (a2 : Int32) (a4 : Int32) (a5 : Int32) (w : sm_Mem), sm_Sim E (mi_mo_few) 121 [some (.ref 62), none, some (.int a2), none, some (.int a4), some (.int a5), none] [] w (ff_mo_few_121_f  n a2 a4 a5 w)
  | 0, _, _, _, _ => fun _ _ h => by cases h
  | n + 1, a2, a4, a5, w => ss_mo_few_121_b  _ (ss_mo_few_121_f  n) a2 a4 a5 w
set_option maxHeartbeats 4000000 in
set_option maxRecDepth 100000 in
theorem ss_mo_few_121 {E : Nat × (Nat → Int32)}  (a2 : Int32) (a4 : Int32) (a5 : Int32) (w : sm_Mem) : sm_Sim E (mi_mo_few) 121 [some (.ref 62), none, some (.int a2), none, some (.int a4), some (.int a5), none] [] w (ff_mo_few_121  a2 a4 a5 w) := ss_mo_few_121_f  sm_N a2 a4 a5 w
noncomputable def ff_mo_few_67_b (self37 : Int32 → Int32 → sm_Mem → sm_R) (self67 : Int32 → Int32 → Int32 → sm_Mem → sm_R) (a2 : Int32) (a4 : Int32) (a6 : Int32) (w : sm_Mem) : sm_R := (if (w.1 62 21) ≤ a6 then self37 (a2) (a4) w else (Option.bind (sm_rd w 75 6 a6) fun x3 => (Option.bind (sm_wr w 77 5 a6 x3) fun w4 => self67 (a2) (a4) ((a6 + (1 : Int32))) w4)))
noncomputable def ff_mo_few_67_f (self37 : Int32 → Int32 → sm_Mem → sm_R) : Nat → Int32 → Int32 → Int32 → sm_Mem → sm_R
  | 0, _, _, _, _ => none
  | n + 1, a2, a4, a6, w => ff_mo_few_67_b self37 (ff_mo_few_67_f self37 n) a2 a4 a6 w
noncomputable def ff_mo_few_67 (self37 : Int32 → Int32 → sm_Mem → sm_R) (a2 : Int32) (a4 : Int32) (a6 : Int32) (w : sm_Mem) : sm_R := ff_mo_few_67_f self37 sm_N a2 a4 a6 w
set_option maxHeartbeats 4000000 in
set_option maxRecDepth 100000 in
theorem ss_mo_few_67_b {E : Nat × (Nat → Int32)} (self37 : Int32 → Int32 → sm_Mem → sm_R) (hself37 : ∀ (a2 : Int32) (a4 : Int32) (w : sm_Mem), sm_Sim E (mi_mo_few) 37 [some (.ref 62), none, some (.int a2), none, some (.int a4), none, none] [] w (self37 a2 a4 w)) (self67 : Int32 → Int32 → Int32 → sm_Mem → sm_R) (hself67 : ∀ (a2 : Int32) (a4 : Int32) (a6 : Int32) (w : sm_Mem), sm_Sim E (mi_mo_few) 67 [some (.ref 62), none, some (.int a2), none, some (.int a4), none, some (.int a6)] [] w (self67 a2 a4 a6 w)) (a2 : Int32) (a4 : Int32) (a6 : Int32) (w : sm_Mem) : sm_Sim E (mi_mo_few) 67 [some (.ref 62), none, some (.int a2), none, some (.int a4), none, some (.int a6)] [] w (ff_mo_few_67_b self37 self67 a2 a4 a6 w) := by
  unfold ff_mo_few_67_b
  refine sm_iload ii_mo_few_67 rfl ?_
  refine sm_aload_n ii_mo_few_69 rfl ?_
  refine sm_getI ii_mo_few_70 fl_mo_208 (k := 62) rfl ?_
  refine sm_icmp_ge 96 ii_mo_few_73 (by decide) ?_ ?_
  · refine sm_goto 37 ii_mo_few_96 (by decide) ?_
    refine sm_msk [true, false, true, false, true, false, false] [some (.ref 62), none, some (.int a2), none, some (.int a4), none, none] rfl ?_
    exact hself37 (a2) (a4) w
  · refine sm_aload_n ii_mo_few_76 rfl ?_
    refine sm_getR 77 ii_mo_few_77 fl_mo_56 (k := 62) rfl ?_
    refine sm_iload ii_mo_few_80 rfl ?_
    refine sm_aload_n ii_mo_few_82 rfl ?_
    refine sm_getR 75 ii_mo_few_83 fl_mo_50 (k := 62) rfl ?_
    refine sm_iload ii_mo_few_86 rfl ?_
    refine sm_iald ii_mo_few_88 (k := 75) rfl (fun x3 => ?_)
    refine sm_iast ii_mo_few_89 (k := 77) rfl (fun w4 => ?_)
    refine sm_iinc (a6 + (1 : Int32)) [some (.ref 62), none, some (.int a2), none, some (.int a4), none, some (.int (a6 + (1 : Int32)))] ii_mo_few_90 rfl rfl rfl rfl ?_
    refine sm_goto 67 ii_mo_few_93 (by decide) ?_
    exact hself67 (a2) (a4) ((a6 + (1 : Int32))) w4
set_option maxHeartbeats 4000000 in
set_option maxRecDepth 100000 in
theorem ss_mo_few_67_f {E : Nat × (Nat → Int32)} (self37 : Int32 → Int32 → sm_Mem → sm_R) (hself37 : ∀ (a2 : Int32) (a4 : Int32) (w : sm_Mem), sm_Sim E (mi_mo_few) 37 [some (.ref 62), none, some (.int a2), none, some (.int a4), none, none] [] w (self37 a2 a4 w)) : ∀ (n : Nat) (a2 : Int32) (a4 : Int32) (a6 : Int32) (w : sm_Mem), sm_Sim E (mi_mo_few) 67 [some (.ref 62), none, some (.int a2), none, some (.int a4), none, some (.int a6)] [] w (ff_mo_few_67_f self37 n a2 a4 a6 w)
  | 0, _, _, _, _ => fun _ _ h => by cases h
  | n + 1, a2, a4, a6, w => ss_mo_few_67_b self37 hself37 _ (ss_mo_few_67_f self37 hself37 n) a2 a4 a6 w
set_option maxHeartbeats 4000000 in
set_option maxRecDepth 100000 in
theorem ss_mo_few_67 {E : Nat × (Nat → Int32)} (self37 : Int32 → Int32 → sm_Mem → sm_R) (hself37 : ∀ (a2 : Int32) (a4 : Int32) (w : sm_Mem), sm_Sim E (mi_mo_few) 37 [some (.ref 62), none, some (.int a2), none, some (.int a4), none, none] [] w (self37 a2 a4 w)) (a2 : Int32) (a4 : Int32) (a6 : Int32) (w : sm_Mem) : sm_Sim E (mi_mo_few) 67 [some (.ref 62), none, some (.int a2), none, some (.int a4), none, some (.int a6)] [] w (ff_mo_few_67 self37 a2 a4 a6 w) := ss_mo_few_67_f self37 hself37 sm_N a2 a4 a6 w
noncomputable def ff_mo_few_37_b  (self37 : Int32 → Int32 → sm_Mem → sm_R) (a2 : Int32) (a4 : Int32) (w : sm_Mem) : sm_R := (sm_cI (ff_mo_nextWay  w) fun x5 w6 => (if x5 = (0 : Int32) then (if a4 = (7 : Int32) then (some (.int (-9 : Int32), w6)) else (sm_cV (ff_mo_makeRow (a2) ((w6.1 62 21)) w6) fun w8 => ff_mo_few_121 (a2) (a4) ((0 : Int32)) w8)) else (sm_cI (ff_mo_spokeIn  w6) fun x9 w10 => (sm_cI (ff_mo_bits (x9) w10) fun x11 w12 => (if a4 ≤ x11 then self37 (a2) (a4) w12 else ff_mo_few_67 self37 (a2) (x11) ((0 : Int32)) w12)))))
noncomputable def ff_mo_few_37_f  : Nat → Int32 → Int32 → sm_Mem → sm_R
  | 0, _, _, _ => none
  | n + 1, a2, a4, w => ff_mo_few_37_b  (ff_mo_few_37_f  n) a2 a4 w
noncomputable def ff_mo_few_37  (a2 : Int32) (a4 : Int32) (w : sm_Mem) : sm_R := ff_mo_few_37_f  sm_N a2 a4 w
set_option maxHeartbeats 4000000 in
set_option maxRecDepth 100000 in
theorem ss_mo_few_37_b {E : Nat × (Nat → Int32)}  (self37 : Int32 → Int32 → sm_Mem → sm_R) (hself37 : ∀ (a2 : Int32) (a4 : Int32) (w : sm_Mem), sm_Sim E (mi_mo_few) 37 [some (.ref 62), none, some (.int a2), none, some (.int a4), none, none] [] w (self37 a2 a4 w)) (a2 : Int32) (a4 : Int32) (w : sm_Mem) : sm_Sim E (mi_mo_few) 37 [some (.ref 62), none, some (.int a2), none, some (.int a4), none, none] [] w (ff_mo_few_37_b  self37 a2 a4 w) := by
  unfold ff_mo_few_37_b
  refine sm_aload_n ii_mo_few_37 rfl ?_
  refine sm_cvI [] [] rfl ii_mo_few_38 ml_mo_236 (mf_mo_nextWay) (mv_mo_nextWay) (Nat.le_of_ble_eq_true rfl) rfl 7 rfl rfl rfl rfl (mc_mo_nextWay  w) (fun x5 w6 => ?_)
  refine sm_if_eq 99 ii_mo_few_41 (by decide) ?_ ?_
  · refine sm_iload ii_mo_few_99 rfl ?_
    refine sm_bipush (7 : Int32) ii_mo_few_101 (by decide) ?_
    refine sm_icmp_ne 109 ii_mo_few_103 (by decide) ?_ ?_
    · refine sm_bipush (-9 : Int32) ii_mo_few_106 (by decide) ?_
      exact sm_iret ii_mo_few_108 rfl
    · refine sm_aload_n ii_mo_few_109 rfl ?_
      refine sm_iload_n ii_mo_few_110 rfl ?_
      refine sm_aload_n ii_mo_few_111 rfl ?_
      refine sm_getI ii_mo_few_112 fl_mo_208 (k := 62) rfl ?_
      refine sm_cvV [.int a2, .int (w6.1 62 21)] [] rfl ii_mo_few_115 ml_mo_85 (mf_mo_makeRow) (mv_mo_makeRow) (Nat.le_of_ble_eq_true rfl) rfl 7 rfl rfl rfl rfl (mc_mo_makeRow (a2) ((w6.1 62 21)) w6) (fun w8 => ?_)
      refine sm_iconst (0 : Int32) ii_mo_few_118 (by decide) ?_
      refine sm_istore [some (.ref 62), none, some (.int a2), none, some (.int a4), some (.int (0 : Int32)), none] ii_mo_few_119 rfl rfl ?_
      exact ss_mo_few_121 (a2) (a4) ((0 : Int32)) w8
  · refine sm_aload_n ii_mo_few_44 rfl ?_
    refine sm_cvI [] [] rfl ii_mo_few_45 ml_mo_248 (mf_mo_spokeIn) (mv_mo_spokeIn) (Nat.le_of_ble_eq_true rfl) rfl 7 rfl rfl rfl rfl (mc_mo_spokeIn  w6) (fun x9 w10 => ?_)
    refine sm_csI [.int x9] [] rfl ii_mo_few_48 ml_mo_178 (mf_mo_bits) (mv_mo_bits) (Nat.le_of_ble_eq_true rfl) rfl rfl rfl (mc_mo_bits (x9) w10) (fun x11 w12 => ?_)
    refine sm_istore [some (.ref 62), none, some (.int a2), none, some (.int a4), some (.int x11), none] ii_mo_few_51 rfl rfl ?_
    refine sm_iload ii_mo_few_53 rfl ?_
    refine sm_iload ii_mo_few_55 rfl ?_
    refine sm_icmp_ge 96 ii_mo_few_57 (by decide) ?_ ?_
    · refine sm_goto 37 ii_mo_few_96 (by decide) ?_
      refine sm_msk [true, false, true, false, true, false, false] [some (.ref 62), none, some (.int a2), none, some (.int a4), none, none] rfl ?_
      exact hself37 (a2) (a4) w12
    · refine sm_iload ii_mo_few_60 rfl ?_
      refine sm_istore [some (.ref 62), none, some (.int a2), none, some (.int x11), some (.int x11), none] ii_mo_few_62 rfl rfl ?_
      refine sm_iconst (0 : Int32) ii_mo_few_64 (by decide) ?_
      refine sm_istore [some (.ref 62), none, some (.int a2), none, some (.int x11), some (.int x11), some (.int (0 : Int32))] ii_mo_few_65 rfl rfl ?_
      refine sm_msk [true, false, true, false, true, false, true] [some (.ref 62), none, some (.int a2), none, some (.int x11), none, some (.int (0 : Int32))] rfl ?_
      exact ss_mo_few_67 self37 hself37 (a2) (x11) ((0 : Int32)) w12
set_option maxHeartbeats 4000000 in
set_option maxRecDepth 100000 in
theorem ss_mo_few_37_f {E : Nat × (Nat → Int32)}  : ∀ (n : Nat) (a2 : Int32) (a4 : Int32) (w : sm_Mem), sm_Sim E (mi_mo_few) 37 [some (.ref 62), none, some (.int a2), none, some (.int a4), none, none] [] w (ff_mo_few_37_f  n a2 a4 w)
  | 0, _, _, _ => fun _ _ h => by cases h
  | n + 1, a2, a4, w => ss_mo_few_37_b  _ (ss_mo_few_37_f  n) a2 a4 w
set_option maxHeartbeats 4000000 in
set_option maxRecDepth 100000 in
theorem ss_mo_few_37 {E : Nat × (Nat → Int32)}  (a2 : Int32) (a4 : Int32) (w : sm_Mem) : sm_Sim E (mi_mo_few) 37 [some (.ref 62), none, some (.int a2), none, some (.int a4), none, none] [] w (ff_mo_few_37  a2 a4 w) := ss_mo_few_37_f  sm_N a2 a4 w
noncomputable def ff_mo_few  (a1 : Int32) (a2 : Int32) (w : sm_Mem) : sm_R := (sm_cI (ff_mo_isRow (a1) w) fun x13 w14 => (if x13 = (0 : Int32) then (some (.int (-1 : Int32), w14)) else (sm_cI (ff_mo_isRow (a2) w14) fun x15 w16 => (if x15 = (0 : Int32) then (some (.int (-1 : Int32), w16)) else (sm_cI (ff_mo_noGoal (a1) ((1 : Int32)) w16) fun x17 w18 => (if x17 = (0 : Int32) then (sm_cV (ff_mo_beginWays  w18) fun w20 => ff_mo_few_37 (a2) ((7 : Int32)) w20) else (some (.int x17, w18))))))))
set_option maxHeartbeats 4000000 in
set_option maxRecDepth 100000 in
theorem ss_mo_few_0 {E : Nat × (Nat → Int32)}  (a1 : Int32) (a2 : Int32) (w : sm_Mem) : sm_Sim E (mi_mo_few) 0 [some (.ref 62), some (.int a1), some (.int a2), none, none, none, none] [] w (ff_mo_few  a1 a2 w) := by
  unfold ff_mo_few
  refine sm_iload_n ii_mo_few_0 rfl ?_
  refine sm_csI [.int a1] [] rfl ii_mo_few_1 ml_mo_77 (mf_mo_isRow) (mv_mo_isRow) (Nat.le_of_ble_eq_true rfl) rfl rfl rfl (mc_mo_isRow (a1) w) (fun x13 w14 => ?_)
  refine sm_if_eq 14 ii_mo_few_4 (by decide) ?_ ?_
  · refine sm_iconst (-1 : Int32) ii_mo_few_14 (by decide) ?_
    exact sm_iret ii_mo_few_15 rfl
  · refine sm_iload_n ii_mo_few_7 rfl ?_
    refine sm_csI [.int a2] [] rfl ii_mo_few_8 ml_mo_77 (mf_mo_isRow) (mv_mo_isRow) (Nat.le_of_ble_eq_true rfl) rfl rfl rfl (mc_mo_isRow (a2) w14) (fun x15 w16 => ?_)
    refine sm_if_ne 16 ii_mo_few_11 (by decide) ?_ ?_
    · refine sm_iconst (-1 : Int32) ii_mo_few_14 (by decide) ?_
      exact sm_iret ii_mo_few_15 rfl
    · refine sm_aload_n ii_mo_few_16 rfl ?_
      refine sm_iload_n ii_mo_few_17 rfl ?_
      refine sm_iconst (1 : Int32) ii_mo_few_18 (by decide) ?_
      refine sm_cvI [.int a1, .int (1 : Int32)] [] rfl ii_mo_few_19 ml_mo_242 (mf_mo_noGoal) (mv_mo_noGoal) (Nat.le_of_ble_eq_true rfl) rfl 7 rfl rfl rfl rfl (mc_mo_noGoal (a1) ((1 : Int32)) w16) (fun x17 w18 => ?_)
      refine sm_istore_n [some (.ref 62), some (.int a1), some (.int a2), some (.int x17), none, none, none] ii_mo_few_22 rfl rfl ?_
      refine sm_iload_n ii_mo_few_23 rfl ?_
      refine sm_if_eq 29 ii_mo_few_24 (by decide) ?_ ?_
      · refine sm_bipush (7 : Int32) ii_mo_few_29 (by decide) ?_
        refine sm_istore [some (.ref 62), some (.int a1), some (.int a2), some (.int x17), some (.int (7 : Int32)), none, none] ii_mo_few_31 rfl rfl ?_
        refine sm_aload_n ii_mo_few_33 rfl ?_
        refine sm_cvV [] [] rfl ii_mo_few_34 ml_mo_233 (mf_mo_beginWays) (mv_mo_beginWays) (Nat.le_of_ble_eq_true rfl) rfl 7 rfl rfl rfl rfl (mc_mo_beginWays  w18) (fun w20 => ?_)
        refine sm_msk [true, false, true, false, true, false, false] [some (.ref 62), none, some (.int a2), none, some (.int (7 : Int32)), none, none] rfl ?_
        exact ss_mo_few_37 (a2) ((7 : Int32)) w20
      · refine sm_iload_n ii_mo_few_27 rfl ?_
        exact sm_iret ii_mo_few_28 rfl
set_option maxHeartbeats 4000000 in
set_option maxRecDepth 100000 in
theorem mc_mo_few (a1 : Int32) (a2 : Int32) (w : sm_Mem) : sm_MC mi_mo_few [.ref 62, .int a1, .int a2] w (ff_mo_few a1 a2 w) := sm_MC_of (0, fun _ => 0) (by decide +kernel) (by decide) rfl (Nat.le_of_ble_eq_true rfl) (ss_mo_few_0 a1 a2 w)
abbrev mi_wy_farthest : sm_MI := (⟨"HerOrders$Ways", "farthest", "()I"⟩, prog_7_method_11_code, 3, (some .int), 1)
set_option maxRecDepth 100000 in
theorem mf_wy_farthest : sm_MF mi_wy_farthest 0 := ⟨List.mem_of_getElem? (i := 700) (by decide +kernel), List.mem_of_getElem? (i := 129) (by decide +kernel), ⟨by decide, by decide⟩, by decide +kernel⟩
set_option maxRecDepth 100000 in
theorem mv_wy_farthest : sm_MFV mi_wy_farthest := ⟨List.mem_of_getElem? (i := 699) (by decide +kernel), List.mem_of_getElem? (i := 40) (by decide +kernel)⟩
set_option maxRecDepth 100000 in
theorem ii_wy_farthest_0 : sm_D prog_7_method_11_code 0 1 1 (.iconst 0) := ⟨by decide +kernel, rfl⟩
set_option maxRecDepth 100000 in
theorem ii_wy_farthest_1 : sm_D prog_7_method_11_code 1 1 2 (.istore_n 1) := ⟨by decide +kernel, rfl⟩
set_option maxRecDepth 100000 in
theorem ii_wy_farthest_2 : sm_D prog_7_method_11_code 2 1 3 (.iconst 1) := ⟨by decide +kernel, rfl⟩
set_option maxRecDepth 100000 in
theorem ii_wy_farthest_3 : sm_D prog_7_method_11_code 3 1 4 (.istore_n 2) := ⟨by decide +kernel, rfl⟩
set_option maxRecDepth 100000 in
theorem ii_wy_farthest_4 : sm_D prog_7_method_11_code 4 1 5 (.iload_n 2) := ⟨by decide +kernel, rfl⟩
set_option maxRecDepth 100000 in
theorem ii_wy_farthest_5 : sm_D prog_7_method_11_code 5 1 6 (.aload_n 0) := ⟨by decide +kernel, rfl⟩
set_option maxRecDepth 100000 in
theorem ii_wy_farthest_6 : sm_D prog_7_method_11_code 6 3 9 (.getfield 49) := ⟨by decide +kernel, rfl⟩
set_option maxRecDepth 100000 in
theorem ii_wy_farthest_9 : sm_D prog_7_method_11_code 9 3 12 (.if_icmp .gt 20) := ⟨by decide +kernel, rfl⟩
set_option maxRecDepth 100000 in
theorem ii_wy_farthest_12 : sm_D prog_7_method_11_code 12 1 13 (.aload_n 0) := ⟨by decide +kernel, rfl⟩
set_option maxRecDepth 100000 in
theorem ii_wy_farthest_13 : sm_D prog_7_method_11_code 13 3 16 (.getfield 25) := ⟨by decide +kernel, rfl⟩
set_option maxRecDepth 100000 in
theorem ii_wy_farthest_16 : sm_D prog_7_method_11_code 16 1 17 (.iload_n 2) := ⟨by decide +kernel, rfl⟩
set_option maxRecDepth 100000 in
theorem ii_wy_farthest_17 : sm_D prog_7_method_11_code 17 1 18 (.iaload) := ⟨by decide +kernel, rfl⟩
set_option maxRecDepth 100000 in
theorem ii_wy_farthest_18 : sm_D prog_7_method_11_code 18 3 21 (.ifCond .le 5) := ⟨by decide +kernel, rfl⟩
set_option maxRecDepth 100000 in
theorem ii_wy_farthest_21 : sm_D prog_7_method_11_code 21 1 22 (.iload_n 2) := ⟨by decide +kernel, rfl⟩
set_option maxRecDepth 100000 in
theorem ii_wy_farthest_22 : sm_D prog_7_method_11_code 22 1 23 (.istore_n 1) := ⟨by decide +kernel, rfl⟩
set_option maxRecDepth 100000 in
theorem ii_wy_farthest_23 : sm_D prog_7_method_11_code 23 3 26 (.iinc 2 1) := ⟨by decide +kernel, rfl⟩
set_option maxRecDepth 100000 in
theorem ii_wy_farthest_26 : sm_D prog_7_method_11_code 26 3 29 (.goto (-22)) := ⟨by decide +kernel, rfl⟩
set_option maxRecDepth 100000 in
theorem ii_wy_farthest_29 : sm_D prog_7_method_11_code 29 1 30 (.iload_n 1) := ⟨by decide +kernel, rfl⟩
set_option maxRecDepth 100000 in
theorem ii_wy_farthest_30 : sm_D prog_7_method_11_code 30 1 31 (.ireturn) := ⟨by decide +kernel, rfl⟩
noncomputable def ff_wy_farthest_4_b  (self4 : Int32 → Int32 → sm_Mem → sm_R) (a1 : Int32) (a2 : Int32) (w : sm_Mem) : sm_R := (if (w.1 49 3) < a2 then (some (.int a1, w)) else (Option.bind (sm_rd w 53 6 a2) fun x1 => (if x1 ≤ (0 : Int32) then self4 (a1) ((a2 + (1 : Int32))) w else self4 (a2) ((a2 + (1 : Int32))) w)))
noncomputable def ff_wy_farthest_4_f  : Nat → Int32 → Int32 → sm_Mem → sm_R
  | 0, _, _, _ => none
  | n + 1, a1, a2, w => ff_wy_farthest_4_b  (ff_wy_farthest_4_f  n) a1 a2 w
noncomputable def ff_wy_farthest_4  (a1 : Int32) (a2 : Int32) (w : sm_Mem) : sm_R := ff_wy_farthest_4_f  sm_N a1 a2 w
set_option maxHeartbeats 4000000 in
set_option maxRecDepth 100000 in
theorem ss_wy_farthest_4_b {E : Nat × (Nat → Int32)}  (self4 : Int32 → Int32 → sm_Mem → sm_R) (hself4 : ∀ (a1 : Int32) (a2 : Int32) (w : sm_Mem), sm_Sim E (mi_wy_farthest) 4 [some (.ref 49), some (.int a1), some (.int a2)] [] w (self4 a1 a2 w)) (a1 : Int32) (a2 : Int32) (w : sm_Mem) : sm_Sim E (mi_wy_farthest) 4 [some (.ref 49), some (.int a1), some (.int a2)] [] w (ff_wy_farthest_4_b  self4 a1 a2 w) := by
  unfold ff_wy_farthest_4_b
  refine sm_iload_n ii_wy_farthest_4 rfl ?_
  refine sm_aload_n ii_wy_farthest_5 rfl ?_
  refine sm_getI ii_wy_farthest_6 fl_wy_49 (k := 49) rfl ?_
  refine sm_icmp_gt 29 ii_wy_farthest_9 (by decide) ?_ ?_
  · refine sm_iload_n ii_wy_farthest_29 rfl ?_
    exact sm_iret ii_wy_farthest_30 rfl
  · refine sm_aload_n ii_wy_farthest_12 rfl ?_
    refine sm_getR 53 ii_wy_farthest_13 fl_wy_25 (k := 49) rfl ?_
    refine sm_iload_n ii_wy_farthest_16 rfl ?_
    refine sm_iald ii_wy_farthest_17 (k := 53) rfl (fun x1 => ?_)
    refine sm_if_le 23 ii_wy_farthest_18 (by decide) ?_ ?_
    · refine sm_iinc (a2 + (1 : Int32)) [some (.ref 49), some (.int a1), some (.int (a2 + (1 : Int32)))] ii_wy_farthest_23 rfl rfl rfl rfl ?_
      refine sm_goto 4 ii_wy_farthest_26 (by decide) ?_
      exact hself4 (a1) ((a2 + (1 : Int32))) w
    · refine sm_iload_n ii_wy_farthest_21 rfl ?_
      refine sm_istore_n [some (.ref 49), some (.int a2), some (.int a2)] ii_wy_farthest_22 rfl rfl ?_
      refine sm_iinc (a2 + (1 : Int32)) [some (.ref 49), some (.int a2), some (.int (a2 + (1 : Int32)))] ii_wy_farthest_23 rfl rfl rfl rfl ?_
      refine sm_goto 4 ii_wy_farthest_26 (by decide) ?_
      exact hself4 (a2) ((a2 + (1 : Int32))) w
set_option maxHeartbeats 4000000 in
set_option maxRecDepth 100000 in
theorem ss_wy_farthest_4_f {E : Nat × (Nat → Int32)}  : ∀ (n : Nat) (a1 : Int32) (a2 : Int32) (w : sm_Mem), sm_Sim E (mi_wy_farthest) 4 [some (.ref 49), some (.int a1), some (.int a2)] [] w (ff_wy_farthest_4_f  n a1 a2 w)
  | 0, _, _, _ => fun _ _ h => by cases h
  | n + 1, a1, a2, w => ss_wy_farthest_4_b  _ (ss_wy_farthest_4_f  n) a1 a2 w
set_option maxHeartbeats 4000000 in
set_option maxRecDepth 100000 in
theorem ss_wy_farthest_4 {E : Nat × (Nat → Int32)}  (a1 : Int32) (a2 : Int32) (w : sm_Mem) : sm_Sim E (mi_wy_farthest) 4 [some (.ref 49), some (.int a1), some (.int a2)] [] w (ff_wy_farthest_4  a1 a2 w) := ss_wy_farthest_4_f  sm_N a1 a2 w
noncomputable def ff_wy_farthest   (w : sm_Mem) : sm_R := ff_wy_farthest_4 ((0 : Int32)) ((1 : Int32)) w
set_option maxHeartbeats 4000000 in
set_option maxRecDepth 100000 in
theorem ss_wy_farthest_0 {E : Nat × (Nat → Int32)}   (w : sm_Mem) : sm_Sim E (mi_wy_farthest) 0 [some (.ref 49), none, none] [] w (ff_wy_farthest   w) := by
  unfold ff_wy_farthest
  refine sm_iconst (0 : Int32) ii_wy_farthest_0 (by decide) ?_
  refine sm_istore_n [some (.ref 49), some (.int (0 : Int32)), none] ii_wy_farthest_1 rfl rfl ?_
  refine sm_iconst (1 : Int32) ii_wy_farthest_2 (by decide) ?_
  refine sm_istore_n [some (.ref 49), some (.int (0 : Int32)), some (.int (1 : Int32))] ii_wy_farthest_3 rfl rfl ?_
  exact ss_wy_farthest_4 ((0 : Int32)) ((1 : Int32)) w
set_option maxHeartbeats 4000000 in
set_option maxRecDepth 100000 in
theorem mc_wy_farthest  (w : sm_Mem) : sm_MC mi_wy_farthest [.ref 49] w (ff_wy_farthest  w) := sm_MC_of (0, fun _ => 0) (by decide +kernel) (by decide) rfl (Nat.le_of_ble_eq_true rfl) (ss_wy_farthest_0  w)
abbrev mi_ho_far : sm_MI := (⟨"HerOrders", "far", "(I)I"⟩, prog_1_method_26_code, 4, (some .int), 15)
set_option maxRecDepth 100000 in
theorem mf_ho_far : sm_MF mi_ho_far 1 := ⟨List.mem_of_getElem? (i := 696) (by decide +kernel), List.mem_of_getElem? (i := 124) (by decide +kernel), ⟨by decide, by decide⟩, by decide +kernel⟩
set_option maxRecDepth 100000 in
theorem mv_ho_far : sm_MFV mi_ho_far := ⟨List.mem_of_getElem? (i := 694) (by decide +kernel), List.mem_of_getElem? (i := 695) (by decide +kernel)⟩
set_option maxRecDepth 100000 in
theorem ii_ho_far_0 : sm_D prog_1_method_26_code 0 1 1 (.aload_n 0) := ⟨by decide +kernel, rfl⟩
set_option maxRecDepth 100000 in
theorem ii_ho_far_1 : sm_D prog_1_method_26_code 1 1 2 (.iload_n 1) := ⟨by decide +kernel, rfl⟩
set_option maxRecDepth 100000 in
theorem ii_ho_far_2 : sm_D prog_1_method_26_code 2 1 3 (.iconst 5) := ⟨by decide +kernel, rfl⟩
set_option maxRecDepth 100000 in
theorem ii_ho_far_3 : sm_D prog_1_method_26_code 3 3 6 (.invokevirtual 192) := ⟨by decide +kernel, rfl⟩
set_option maxRecDepth 100000 in
theorem ii_ho_far_6 : sm_D prog_1_method_26_code 6 1 7 (.istore_n 2) := ⟨by decide +kernel, rfl⟩
set_option maxRecDepth 100000 in
theorem ii_ho_far_7 : sm_D prog_1_method_26_code 7 1 8 (.iload_n 2) := ⟨by decide +kernel, rfl⟩
set_option maxRecDepth 100000 in
theorem ii_ho_far_8 : sm_D prog_1_method_26_code 8 3 11 (.ifCond .eq 5) := ⟨by decide +kernel, rfl⟩
set_option maxRecDepth 100000 in
theorem ii_ho_far_11 : sm_D prog_1_method_26_code 11 1 12 (.iload_n 2) := ⟨by decide +kernel, rfl⟩
set_option maxRecDepth 100000 in
theorem ii_ho_far_12 : sm_D prog_1_method_26_code 12 1 13 (.ireturn) := ⟨by decide +kernel, rfl⟩
set_option maxRecDepth 100000 in
theorem ii_ho_far_13 : sm_D prog_1_method_26_code 13 1 14 (.aload_n 0) := ⟨by decide +kernel, rfl⟩
set_option maxRecDepth 100000 in
theorem ii_ho_far_14 : sm_D prog_1_method_26_code 14 3 17 (.getfield 40) := ⟨by decide +kernel, rfl⟩
set_option maxRecDepth 100000 in
theorem ii_ho_far_17 : sm_D prog_1_method_26_code 17 1 18 (.aload_n 0) := ⟨by decide +kernel, rfl⟩
set_option maxRecDepth 100000 in
theorem ii_ho_far_18 : sm_D prog_1_method_26_code 18 3 21 (.getfield 11) := ⟨by decide +kernel, rfl⟩
set_option maxRecDepth 100000 in
theorem ii_ho_far_21 : sm_D prog_1_method_26_code 21 1 22 (.iload_n 1) := ⟨by decide +kernel, rfl⟩
set_option maxRecDepth 100000 in
theorem ii_ho_far_22 : sm_D prog_1_method_26_code 22 1 23 (.aaload) := ⟨by decide +kernel, rfl⟩
set_option maxRecDepth 100000 in
theorem ii_ho_far_23 : sm_D prog_1_method_26_code 23 2 25 (.bipush (-9)) := ⟨by decide +kernel, rfl⟩
set_option maxRecDepth 100000 in
theorem ii_ho_far_25 : sm_D prog_1_method_26_code 25 3 28 (.invokevirtual 195) := ⟨by decide +kernel, rfl⟩
set_option maxRecDepth 100000 in
theorem ii_ho_far_28 : sm_D prog_1_method_26_code 28 1 29 (.aload_n 0) := ⟨by decide +kernel, rfl⟩
set_option maxRecDepth 100000 in
theorem ii_ho_far_29 : sm_D prog_1_method_26_code 29 3 32 (.getfield 40) := ⟨by decide +kernel, rfl⟩
set_option maxRecDepth 100000 in
theorem ii_ho_far_32 : sm_D prog_1_method_26_code 32 3 35 (.invokevirtual 222) := ⟨by decide +kernel, rfl⟩
set_option maxRecDepth 100000 in
theorem ii_ho_far_35 : sm_D prog_1_method_26_code 35 1 36 (.istore_n 3) := ⟨by decide +kernel, rfl⟩
set_option maxRecDepth 100000 in
theorem ii_ho_far_36 : sm_D prog_1_method_26_code 36 1 37 (.aload_n 0) := ⟨by decide +kernel, rfl⟩
set_option maxRecDepth 100000 in
theorem ii_ho_far_37 : sm_D prog_1_method_26_code 37 3 40 (.getfield 54) := ⟨by decide +kernel, rfl⟩
set_option maxRecDepth 100000 in
theorem ii_ho_far_40 : sm_D prog_1_method_26_code 40 1 41 (.aload_n 0) := ⟨by decide +kernel, rfl⟩
set_option maxRecDepth 100000 in
theorem ii_ho_far_41 : sm_D prog_1_method_26_code 41 3 44 (.getfield 40) := ⟨by decide +kernel, rfl⟩
set_option maxRecDepth 100000 in
theorem ii_ho_far_44 : sm_D prog_1_method_26_code 44 3 47 (.getfield 225) := ⟨by decide +kernel, rfl⟩
set_option maxRecDepth 100000 in
theorem ii_ho_far_47 : sm_D prog_1_method_26_code 47 1 48 (.iload_n 3) := ⟨by decide +kernel, rfl⟩
set_option maxRecDepth 100000 in
theorem ii_ho_far_48 : sm_D prog_1_method_26_code 48 1 49 (.iaload) := ⟨by decide +kernel, rfl⟩
set_option maxRecDepth 100000 in
theorem ii_ho_far_49 : sm_D prog_1_method_26_code 49 3 52 (.putfield 70) := ⟨by decide +kernel, rfl⟩
set_option maxRecDepth 100000 in
theorem ii_ho_far_52 : sm_D prog_1_method_26_code 52 1 53 (.iload_n 3) := ⟨by decide +kernel, rfl⟩
set_option maxRecDepth 100000 in
theorem ii_ho_far_53 : sm_D prog_1_method_26_code 53 1 54 (.ireturn) := ⟨by decide +kernel, rfl⟩
noncomputable def ff_ho_far  (a1 : Int32) (w : sm_Mem) : sm_R := (sm_cI (ff_ho_refusalOfWords (a1) ((5 : Int32)) w) fun x1 w2 => (if x1 = (0 : Int32) then (Option.bind (sm_rr 1 a1) fun r3 => (sm_cV (ff_wy_runWords (r3) ((-9 : Int32)) w2) fun w5 => (sm_cI (ff_wy_farthest  w5) fun x6 w7 => (Option.bind (sm_rd w7 53 6 x6) fun x8 => (sm_let (sm_wI w7 60 0 x8) fun w9 => (some (.int x6, w9))))))) else (some (.int x1, w2))))
set_option maxHeartbeats 4000000 in
set_option maxRecDepth 100000 in
theorem ss_ho_far_0 {E : Nat × (Nat → Int32)}  (a1 : Int32) (w : sm_Mem) : sm_Sim E (mi_ho_far) 0 [some (.ref 0), some (.int a1), none, none] [] w (ff_ho_far  a1 w) := by
  unfold ff_ho_far
  refine sm_aload_n ii_ho_far_0 rfl ?_
  refine sm_iload_n ii_ho_far_1 rfl ?_
  refine sm_iconst (5 : Int32) ii_ho_far_2 (by decide) ?_
  refine sm_cvI [.int a1, .int (5 : Int32)] [] rfl ii_ho_far_3 ml_ho_192 (mf_ho_refusalOfWords) (mv_ho_refusalOfWords) (Nat.le_of_ble_eq_true rfl) rfl 6 rfl rfl rfl rfl (mc_ho_refusalOfWords (a1) ((5 : Int32)) w) (fun x1 w2 => ?_)
  refine sm_istore_n [some (.ref 0), some (.int a1), some (.int x1), none] ii_ho_far_6 rfl rfl ?_
  refine sm_iload_n ii_ho_far_7 rfl ?_
  refine sm_if_eq 13 ii_ho_far_8 (by decide) ?_ ?_
  · refine sm_aload_n ii_ho_far_13 rfl ?_
    refine sm_getR 49 ii_ho_far_14 fl_ho_40 (k := 0) rfl ?_
    refine sm_aload_n ii_ho_far_17 rfl ?_
    refine sm_getR 1 ii_ho_far_18 fl_ho_11 (k := 0) rfl ?_
    refine sm_iload_n ii_ho_far_21 rfl ?_
    refine sm_aald ii_ho_far_22 (fun r3 => ?_)
    refine sm_bipush (-9 : Int32) ii_ho_far_23 (by decide) ?_
    refine sm_cvV [.ref r3, .int (-9 : Int32)] [] rfl ii_ho_far_25 ml_ho_195 (mf_wy_runWords) (mv_wy_runWords) (Nat.le_of_ble_eq_true rfl) rfl 5 rfl rfl rfl rfl (mc_wy_runWords (r3) ((-9 : Int32)) w2) (fun w5 => ?_)
    refine sm_aload_n ii_ho_far_28 rfl ?_
    refine sm_getR 49 ii_ho_far_29 fl_ho_40 (k := 0) rfl ?_
    refine sm_cvI [] [] rfl ii_ho_far_32 ml_ho_222 (mf_wy_farthest) (mv_wy_farthest) (Nat.le_of_ble_eq_true rfl) rfl 5 rfl rfl rfl rfl (mc_wy_farthest  w5) (fun x6 w7 => ?_)
    refine sm_istore_n [some (.ref 0), some (.int a1), some (.int x1), some (.int x6)] ii_ho_far_35 rfl rfl ?_
    refine sm_aload_n ii_ho_far_36 rfl ?_
    refine sm_getR 60 ii_ho_far_37 fl_ho_54 (k := 0) rfl ?_
    refine sm_aload_n ii_ho_far_40 rfl ?_
    refine sm_getR 49 ii_ho_far_41 fl_ho_40 (k := 0) rfl ?_
    refine sm_getR 53 ii_ho_far_44 fl_ho_225 (k := 49) rfl ?_
    refine sm_iload_n ii_ho_far_47 rfl ?_
    refine sm_iald ii_ho_far_48 (k := 53) rfl (fun x8 => ?_)
    refine sm_putI ii_ho_far_49 fp_ho_70 (k := 60) rfl (fun w9 => ?_)
    refine sm_iload_n ii_ho_far_52 rfl ?_
    exact sm_iret ii_ho_far_53 rfl
  · refine sm_iload_n ii_ho_far_11 rfl ?_
    exact sm_iret ii_ho_far_12 rfl
set_option maxHeartbeats 4000000 in
set_option maxRecDepth 100000 in
theorem mc_ho_far (a1 : Int32) (w : sm_Mem) : sm_MC mi_ho_far [.ref 0, .int a1] w (ff_ho_far a1 w) := sm_MC_of (0, fun _ => 0) (by decide +kernel) (by decide) rfl (Nat.le_of_ble_eq_true rfl) (ss_ho_far_0 a1 w)
abbrev mi_mo_hasWay : sm_MI := (⟨"HerOrdersModel", "hasWay", "()Z"⟩, prog_9_method_66_code, 1, (some .boolean), 6)
set_option maxRecDepth 100000 in
theorem mf_mo_hasWay : sm_MF mi_mo_hasWay 0 := ⟨List.mem_of_getElem? (i := 1307) (by decide +kernel), List.mem_of_getElem? (i := 132) (by decide +kernel), ⟨by decide, by decide⟩, by decide +kernel⟩
set_option maxRecDepth 100000 in
theorem mv_mo_hasWay : sm_MFV mi_mo_hasWay := ⟨List.mem_of_getElem? (i := 1306) (by decide +kernel), List.mem_of_getElem? (i := 108) (by decide +kernel)⟩
set_option maxRecDepth 100000 in
theorem ii_mo_hasWay_0 : sm_D prog_9_method_66_code 0 1 1 (.aload_n 0) := ⟨by decide +kernel, rfl⟩
set_option maxRecDepth 100000 in
theorem ii_mo_hasWay_1 : sm_D prog_9_method_66_code 1 3 4 (.invokevirtual 233) := ⟨by decide +kernel, rfl⟩
set_option maxRecDepth 100000 in
theorem ii_mo_hasWay_4 : sm_D prog_9_method_66_code 4 1 5 (.aload_n 0) := ⟨by decide +kernel, rfl⟩
set_option maxRecDepth 100000 in
theorem ii_mo_hasWay_5 : sm_D prog_9_method_66_code 5 3 8 (.invokevirtual 236) := ⟨by decide +kernel, rfl⟩
set_option maxRecDepth 100000 in
theorem ii_mo_hasWay_8 : sm_D prog_9_method_66_code 8 1 9 (.ireturn) := ⟨by decide +kernel, rfl⟩
noncomputable def ff_mo_hasWay   (w : sm_Mem) : sm_R := (sm_cV (ff_mo_beginWays  w) fun w2 => (sm_cI (ff_mo_nextWay  w2) fun x3 w4 => (sm_rz x3 w4)))
set_option maxHeartbeats 4000000 in
set_option maxRecDepth 100000 in
theorem ss_mo_hasWay_0 {E : Nat × (Nat → Int32)}   (w : sm_Mem) : sm_Sim E (mi_mo_hasWay) 0 [some (.ref 62)] [] w (ff_mo_hasWay   w) := by
  unfold ff_mo_hasWay
  refine sm_aload_n ii_mo_hasWay_0 rfl ?_
  refine sm_cvV [] [] rfl ii_mo_hasWay_1 ml_mo_233 (mf_mo_beginWays) (mv_mo_beginWays) (Nat.le_of_ble_eq_true rfl) rfl 7 rfl rfl rfl rfl (mc_mo_beginWays  w) (fun w2 => ?_)
  refine sm_aload_n ii_mo_hasWay_4 rfl ?_
  refine sm_cvI [] [] rfl ii_mo_hasWay_5 ml_mo_236 (mf_mo_nextWay) (mv_mo_nextWay) (Nat.le_of_ble_eq_true rfl) rfl 7 rfl rfl rfl rfl (mc_mo_nextWay  w2) (fun x3 w4 => ?_)
  exact sm_zret ii_mo_hasWay_8 rfl
set_option maxHeartbeats 4000000 in
set_option maxRecDepth 100000 in
theorem mc_mo_hasWay  (w : sm_Mem) : sm_MC mi_mo_hasWay [.ref 62] w (ff_mo_hasWay  w) := sm_MC_of (0, fun _ => 0) (by decide +kernel) (by decide) rfl (Nat.le_of_ble_eq_true rfl) (ss_mo_hasWay_0  w)
abbrev mi_mo_farGoal : sm_MI := (⟨"HerOrdersModel", "farGoal", "()I"⟩, prog_9_method_71_code, 4, (some .int), 7)
set_option maxRecDepth 100000 in
theorem mf_mo_farGoal : sm_MF mi_mo_farGoal 0 := ⟨List.mem_of_getElem? (i := 1303) (by decide +kernel), List.mem_of_getElem? (i := 132) (by decide +kernel), ⟨by decide, by decide⟩, by decide +kernel⟩
set_option maxRecDepth 100000 in
theorem mv_mo_farGoal : sm_MFV mi_mo_farGoal := ⟨List.mem_of_getElem? (i := 1302) (by decide +kernel), List.mem_of_getElem? (i := 107) (by decide +kernel)⟩
set_option maxRecDepth 100000 in
theorem ii_mo_farGoal_0 : sm_D prog_9_method_71_code 0 1 1 (.aload_n 0) := ⟨by decide +kernel, rfl⟩
set_option maxRecDepth 100000 in
theorem ii_mo_farGoal_1 : sm_D prog_9_method_71_code 1 3 4 (.getfield 208) := ⟨by decide +kernel, rfl⟩
set_option maxRecDepth 100000 in
theorem ii_mo_farGoal_4 : sm_D prog_9_method_71_code 4 1 5 (.istore_n 1) := ⟨by decide +kernel, rfl⟩
set_option maxRecDepth 100000 in
theorem ii_mo_farGoal_5 : sm_D prog_9_method_71_code 5 1 6 (.iconst 0) := ⟨by decide +kernel, rfl⟩
set_option maxRecDepth 100000 in
theorem ii_mo_farGoal_6 : sm_D prog_9_method_71_code 6 1 7 (.istore_n 2) := ⟨by decide +kernel, rfl⟩
set_option maxRecDepth 100000 in
theorem ii_mo_farGoal_7 : sm_D prog_9_method_71_code 7 1 8 (.iconst 1) := ⟨by decide +kernel, rfl⟩
set_option maxRecDepth 100000 in
theorem ii_mo_farGoal_8 : sm_D prog_9_method_71_code 8 1 9 (.istore_n 3) := ⟨by decide +kernel, rfl⟩
set_option maxRecDepth 100000 in
theorem ii_mo_farGoal_9 : sm_D prog_9_method_71_code 9 1 10 (.iload_n 3) := ⟨by decide +kernel, rfl⟩
set_option maxRecDepth 100000 in
theorem ii_mo_farGoal_10 : sm_D prog_9_method_71_code 10 3 13 (.ifCond .eq 35) := ⟨by decide +kernel, rfl⟩
set_option maxRecDepth 100000 in
theorem ii_mo_farGoal_13 : sm_D prog_9_method_71_code 13 1 14 (.iload_n 2) := ⟨by decide +kernel, rfl⟩
set_option maxRecDepth 100000 in
theorem ii_mo_farGoal_14 : sm_D prog_9_method_71_code 14 1 15 (.iload_n 1) := ⟨by decide +kernel, rfl⟩
set_option maxRecDepth 100000 in
theorem ii_mo_farGoal_15 : sm_D prog_9_method_71_code 15 3 18 (.if_icmp .ge 30) := ⟨by decide +kernel, rfl⟩
set_option maxRecDepth 100000 in
theorem ii_mo_farGoal_18 : sm_D prog_9_method_71_code 18 1 19 (.aload_n 0) := ⟨by decide +kernel, rfl⟩
set_option maxRecDepth 100000 in
theorem ii_mo_farGoal_19 : sm_D prog_9_method_71_code 19 1 20 (.iload_n 2) := ⟨by decide +kernel, rfl⟩
set_option maxRecDepth 100000 in
theorem ii_mo_farGoal_20 : sm_D prog_9_method_71_code 20 1 21 (.iconst 1) := ⟨by decide +kernel, rfl⟩
set_option maxRecDepth 100000 in
theorem ii_mo_farGoal_21 : sm_D prog_9_method_71_code 21 1 22 (.iadd) := ⟨by decide +kernel, rfl⟩
set_option maxRecDepth 100000 in
theorem ii_mo_farGoal_22 : sm_D prog_9_method_71_code 22 3 25 (.putfield 208) := ⟨by decide +kernel, rfl⟩
set_option maxRecDepth 100000 in
theorem ii_mo_farGoal_25 : sm_D prog_9_method_71_code 25 1 26 (.aload_n 0) := ⟨by decide +kernel, rfl⟩
set_option maxRecDepth 100000 in
theorem ii_mo_farGoal_26 : sm_D prog_9_method_71_code 26 3 29 (.invokevirtual 251) := ⟨by decide +kernel, rfl⟩
set_option maxRecDepth 100000 in
theorem ii_mo_farGoal_29 : sm_D prog_9_method_71_code 29 1 30 (.istore_n 3) := ⟨by decide +kernel, rfl⟩
set_option maxRecDepth 100000 in
theorem ii_mo_farGoal_30 : sm_D prog_9_method_71_code 30 1 31 (.iload_n 2) := ⟨by decide +kernel, rfl⟩
set_option maxRecDepth 100000 in
theorem ii_mo_farGoal_31 : sm_D prog_9_method_71_code 31 1 32 (.iload_n 3) := ⟨by decide +kernel, rfl⟩
set_option maxRecDepth 100000 in
theorem ii_mo_farGoal_32 : sm_D prog_9_method_71_code 32 3 35 (.ifCond .eq 7) := ⟨by decide +kernel, rfl⟩
set_option maxRecDepth 100000 in
theorem ii_mo_farGoal_35 : sm_D prog_9_method_71_code 35 1 36 (.iconst 1) := ⟨by decide +kernel, rfl⟩
set_option maxRecDepth 100000 in
theorem ii_mo_farGoal_36 : sm_D prog_9_method_71_code 36 3 39 (.goto 4) := ⟨by decide +kernel, rfl⟩
set_option maxRecDepth 100000 in
theorem ii_mo_farGoal_39 : sm_D prog_9_method_71_code 39 1 40 (.iconst 0) := ⟨by decide +kernel, rfl⟩
set_option maxRecDepth 100000 in
theorem ii_mo_farGoal_40 : sm_D prog_9_method_71_code 40 1 41 (.iadd) := ⟨by decide +kernel, rfl⟩
set_option maxRecDepth 100000 in
theorem ii_mo_farGoal_41 : sm_D prog_9_method_71_code 41 1 42 (.istore_n 2) := ⟨by decide +kernel, rfl⟩
set_option maxRecDepth 100000 in
theorem ii_mo_farGoal_42 : sm_D prog_9_method_71_code 42 3 45 (.goto (-33)) := ⟨by decide +kernel, rfl⟩
set_option maxRecDepth 100000 in
theorem ii_mo_farGoal_45 : sm_D prog_9_method_71_code 45 1 46 (.aload_n 0) := ⟨by decide +kernel, rfl⟩
set_option maxRecDepth 100000 in
theorem ii_mo_farGoal_46 : sm_D prog_9_method_71_code 46 1 47 (.iload_n 2) := ⟨by decide +kernel, rfl⟩
set_option maxRecDepth 100000 in
theorem ii_mo_farGoal_47 : sm_D prog_9_method_71_code 47 3 50 (.putfield 208) := ⟨by decide +kernel, rfl⟩
set_option maxRecDepth 100000 in
theorem ii_mo_farGoal_50 : sm_D prog_9_method_71_code 50 1 51 (.iload_n 2) := ⟨by decide +kernel, rfl⟩
set_option maxRecDepth 100000 in
theorem ii_mo_farGoal_51 : sm_D prog_9_method_71_code 51 1 52 (.ireturn) := ⟨by decide +kernel, rfl⟩
noncomputable def ff_mo_farGoal_45  (a2 : Int32) (w : sm_Mem) : sm_R := (sm_let (sm_wI w 62 21 a2) fun w1 => (some (.int a2, w1)))
set_option maxHeartbeats 4000000 in
set_option maxRecDepth 100000 in
theorem ss_mo_farGoal_45 {E : Nat × (Nat → Int32)}  (a2 : Int32) (w : sm_Mem) : sm_Sim E (mi_mo_farGoal) 45 [some (.ref 62), none, some (.int a2), none] [] w (ff_mo_farGoal_45  a2 w) := by
  unfold ff_mo_farGoal_45
  refine sm_aload_n ii_mo_farGoal_45 rfl ?_
  refine sm_iload_n ii_mo_farGoal_46 rfl ?_
  refine sm_putI ii_mo_farGoal_47 fp_mo_208 (k := 62) rfl (fun w1 => ?_)
  refine sm_iload_n ii_mo_farGoal_50 rfl ?_
  exact sm_iret ii_mo_farGoal_51 rfl
noncomputable def ff_mo_farGoal_40 (self9 : Int32 → Int32 → Int32 → sm_Mem → sm_R) (a1 : Int32) (a3 : Int32) (b0 : Int32) (b1 : Int32) (w : sm_Mem) : sm_R := self9 (a1) ((b0 + b1)) (a3) w
set_option maxHeartbeats 4000000 in
set_option maxRecDepth 100000 in
theorem ss_mo_farGoal_40 {E : Nat × (Nat → Int32)} (self9 : Int32 → Int32 → Int32 → sm_Mem → sm_R) (hself9 : ∀ (a1 : Int32) (a2 : Int32) (a3 : Int32) (w : sm_Mem), sm_Sim E (mi_mo_farGoal) 9 [some (.ref 62), some (.int a1), some (.int a2), some (.int a3)] [] w (self9 a1 a2 a3 w)) (a1 : Int32) (a3 : Int32) (b0 : Int32) (b1 : Int32) (w : sm_Mem) : sm_Sim E (mi_mo_farGoal) 40 [some (.ref 62), some (.int a1), none, some (.int a3)] [.int b1, .int b0] w (ff_mo_farGoal_40 self9 a1 a3 b0 b1 w) := by
  unfold ff_mo_farGoal_40
  refine sm_iadd ii_mo_farGoal_40 ?_
  refine sm_istore_n [some (.ref 62), some (.int a1), some (.int (b0 + b1)), some (.int a3)] ii_mo_farGoal_41 rfl rfl ?_
  refine sm_goto 9 ii_mo_farGoal_42 (by decide) ?_
  exact hself9 (a1) ((b0 + b1)) (a3) w
noncomputable def ff_mo_farGoal_9_b  (self9 : Int32 → Int32 → Int32 → sm_Mem → sm_R) (a1 : Int32) (a2 : Int32) (a3 : Int32) (w : sm_Mem) : sm_R := (if a3 = (0 : Int32) then ff_mo_farGoal_45 (a2) w else (if a1 ≤ a2 then ff_mo_farGoal_45 (a2) w else (sm_let (sm_wI w 62 21 (a2 + (1 : Int32))) fun w2 => (sm_cI (ff_mo_hasWay  w2) fun x3 w4 => (if x3 = (0 : Int32) then ff_mo_farGoal_40 self9 (a1) (x3) (a2) ((0 : Int32)) w4 else ff_mo_farGoal_40 self9 (a1) (x3) (a2) ((1 : Int32)) w4)))))
noncomputable def ff_mo_farGoal_9_f  : Nat → Int32 → Int32 → Int32 → sm_Mem → sm_R
  | 0, _, _, _, _ => none
  | n + 1, a1, a2, a3, w => ff_mo_farGoal_9_b  (ff_mo_farGoal_9_f  n) a1 a2 a3 w
noncomputable def ff_mo_farGoal_9  (a1 : Int32) (a2 : Int32) (a3 : Int32) (w : sm_Mem) : sm_R := ff_mo_farGoal_9_f  sm_N a1 a2 a3 w
set_option maxHeartbeats 4000000 in
set_option maxRecDepth 100000 in
theorem ss_mo_farGoal_9_b {E : Nat × (Nat → Int32)}  (self9 : Int32 → Int32 → Int32 → sm_Mem → sm_R) (hself9 : ∀ (a1 : Int32) (a2 : Int32) (a3 : Int32) (w : sm_Mem), sm_Sim E (mi_mo_farGoal) 9 [some (.ref 62), some (.int a1), some (.int a2), some (.int a3)] [] w (self9 a1 a2 a3 w)) (a1 : Int32) (a2 : Int32) (a3 : Int32) (w : sm_Mem) : sm_Sim E (mi_mo_farGoal) 9 [some (.ref 62), some (.int a1), some (.int a2), some (.int a3)] [] w (ff_mo_farGoal_9_b  self9 a1 a2 a3 w) := by
  unfold ff_mo_farGoal_9_b
  refine sm_iload_n ii_mo_farGoal_9 rfl ?_
  refine sm_if_eq 45 ii_mo_farGoal_10 (by decide) ?_ ?_
  · refine sm_msk [true, false, true, false] [some (.ref 62), none, some (.int a2), none] rfl ?_
    exact ss_mo_farGoal_45 (a2) w
  · refine sm_iload_n ii_mo_farGoal_13 rfl ?_
    refine sm_iload_n ii_mo_farGoal_14 rfl ?_
    refine sm_icmp_ge 45 ii_mo_farGoal_15 (by decide) ?_ ?_
    · refine sm_msk [true, false, true, false] [some (.ref 62), none, some (.int a2), none] rfl ?_
      exact ss_mo_farGoal_45 (a2) w
    · refine sm_aload_n ii_mo_farGoal_18 rfl ?_
      refine sm_iload_n ii_mo_farGoal_19 rfl ?_
      refine sm_iconst (1 : Int32) ii_mo_farGoal_20 (by decide) ?_
      refine sm_iadd ii_mo_farGoal_21 ?_
      refine sm_putI ii_mo_farGoal_22 fp_mo_208 (k := 62) rfl (fun w2 => ?_)
      refine sm_aload_n ii_mo_farGoal_25 rfl ?_
      refine sm_cvI [] [] rfl ii_mo_farGoal_26 ml_mo_251 (mf_mo_hasWay) (mv_mo_hasWay) (Nat.le_of_ble_eq_true rfl) rfl 7 rfl rfl rfl rfl (mc_mo_hasWay  w2) (fun x3 w4 => ?_)
      refine sm_istore_n [some (.ref 62), some (.int a1), some (.int a2), some (.int x3)] ii_mo_farGoal_29 rfl rfl ?_
      refine sm_iload_n ii_mo_farGoal_30 rfl ?_
      refine sm_iload_n ii_mo_farGoal_31 rfl ?_
      refine sm_if_eq 39 ii_mo_farGoal_32 (by decide) ?_ ?_
      · refine sm_iconst (0 : Int32) ii_mo_farGoal_39 (by decide) ?_
        refine sm_msk [true, true, false, true] [some (.ref 62), some (.int a1), none, some (.int x3)] rfl ?_
        exact ss_mo_farGoal_40 self9 hself9 (a1) (x3) (a2) ((0 : Int32)) w4
      · refine sm_iconst (1 : Int32) ii_mo_farGoal_35 (by decide) ?_
        refine sm_goto 40 ii_mo_farGoal_36 (by decide) ?_
        refine sm_msk [true, true, false, true] [some (.ref 62), some (.int a1), none, some (.int x3)] rfl ?_
        exact ss_mo_farGoal_40 self9 hself9 (a1) (x3) (a2) ((1 : Int32)) w4
set_option maxHeartbeats 4000000 in
set_option maxRecDepth 100000 in
theorem ss_mo_farGoal_9_f {E : Nat × (Nat → Int32)}  : ∀ (n : Nat) (a1 : Int32) (a2 : Int32) (a3 : Int32) (w : sm_Mem), sm_Sim E (mi_mo_farGoal) 9 [some (.ref 62), some (.int a1), some (.int a2), some (.int a3)] [] w (ff_mo_farGoal_9_f  n a1 a2 a3 w)
  | 0, _, _, _, _ => fun _ _ h => by cases h
  | n + 1, a1, a2, a3, w => ss_mo_farGoal_9_b  _ (ss_mo_farGoal_9_f  n) a1 a2 a3 w
set_option maxHeartbeats 4000000 in
set_option maxRecDepth 100000 in
theorem ss_mo_farGoal_9 {E : Nat × (Nat → Int32)}  (a1 : Int32) (a2 : Int32) (a3 : Int32) (w : sm_Mem) : sm_Sim E (mi_mo_farGoal) 9 [some (.ref 62), some (.int a1), some (.int a2), some (.int a3)] [] w (ff_mo_farGoal_9  a1 a2 a3 w) := ss_mo_farGoal_9_f  sm_N a1 a2 a3 w
noncomputable def ff_mo_farGoal   (w : sm_Mem) : sm_R := ff_mo_farGoal_9 ((w.1 62 21)) ((0 : Int32)) ((1 : Int32)) w
set_option maxHeartbeats 4000000 in
set_option maxRecDepth 100000 in
theorem ss_mo_farGoal_0 {E : Nat × (Nat → Int32)}   (w : sm_Mem) : sm_Sim E (mi_mo_farGoal) 0 [some (.ref 62), none, none, none] [] w (ff_mo_farGoal   w) := by
  unfold ff_mo_farGoal
  refine sm_aload_n ii_mo_farGoal_0 rfl ?_
  refine sm_getI ii_mo_farGoal_1 fl_mo_208 (k := 62) rfl ?_
  refine sm_istore_n [some (.ref 62), some (.int (w.1 62 21)), none, none] ii_mo_farGoal_4 rfl rfl ?_
  refine sm_iconst (0 : Int32) ii_mo_farGoal_5 (by decide) ?_
  refine sm_istore_n [some (.ref 62), some (.int (w.1 62 21)), some (.int (0 : Int32)), none] ii_mo_farGoal_6 rfl rfl ?_
  refine sm_iconst (1 : Int32) ii_mo_farGoal_7 (by decide) ?_
  refine sm_istore_n [some (.ref 62), some (.int (w.1 62 21)), some (.int (0 : Int32)), some (.int (1 : Int32))] ii_mo_farGoal_8 rfl rfl ?_
  exact ss_mo_farGoal_9 ((w.1 62 21)) ((0 : Int32)) ((1 : Int32)) w
set_option maxHeartbeats 4000000 in
set_option maxRecDepth 100000 in
theorem mc_mo_farGoal  (w : sm_Mem) : sm_MC mi_mo_farGoal [.ref 62] w (ff_mo_farGoal  w) := sm_MC_of (0, fun _ => 0) (by decide +kernel) (by decide) rfl (Nat.le_of_ble_eq_true rfl) (ss_mo_farGoal_0  w)
abbrev mi_mo_far : sm_MI := (⟨"HerOrdersModel", "far", "(I)I"⟩, prog_9_method_72_code, 4, (some .int), 8)
set_option maxRecDepth 100000 in
theorem mf_mo_far : sm_MF mi_mo_far 1 := ⟨List.mem_of_getElem? (i := 1299) (by decide +kernel), List.mem_of_getElem? (i := 132) (by decide +kernel), ⟨by decide, by decide⟩, by decide +kernel⟩
set_option maxRecDepth 100000 in
theorem mv_mo_far : sm_MFV mi_mo_far := ⟨List.mem_of_getElem? (i := 1297) (by decide +kernel), List.mem_of_getElem? (i := 1298) (by decide +kernel)⟩
set_option maxRecDepth 100000 in
theorem ii_mo_far_0 : sm_D prog_9_method_72_code 0 1 1 (.iload_n 1) := ⟨by decide +kernel, rfl⟩
set_option maxRecDepth 100000 in
theorem ii_mo_far_1 : sm_D prog_9_method_72_code 1 3 4 (.invokestatic 77) := ⟨by decide +kernel, rfl⟩
set_option maxRecDepth 100000 in
theorem ii_mo_far_4 : sm_D prog_9_method_72_code 4 3 7 (.ifCond .ne 5) := ⟨by decide +kernel, rfl⟩
set_option maxRecDepth 100000 in
theorem ii_mo_far_7 : sm_D prog_9_method_72_code 7 1 8 (.iconst (-1)) := ⟨by decide +kernel, rfl⟩
set_option maxRecDepth 100000 in
theorem ii_mo_far_8 : sm_D prog_9_method_72_code 8 1 9 (.ireturn) := ⟨by decide +kernel, rfl⟩
set_option maxRecDepth 100000 in
theorem ii_mo_far_9 : sm_D prog_9_method_72_code 9 1 10 (.aload_n 0) := ⟨by decide +kernel, rfl⟩
set_option maxRecDepth 100000 in
theorem ii_mo_far_10 : sm_D prog_9_method_72_code 10 1 11 (.iload_n 1) := ⟨by decide +kernel, rfl⟩
set_option maxRecDepth 100000 in
theorem ii_mo_far_11 : sm_D prog_9_method_72_code 11 1 12 (.iconst 1) := ⟨by decide +kernel, rfl⟩
set_option maxRecDepth 100000 in
theorem ii_mo_far_12 : sm_D prog_9_method_72_code 12 3 15 (.invokevirtual 242) := ⟨by decide +kernel, rfl⟩
set_option maxRecDepth 100000 in
theorem ii_mo_far_15 : sm_D prog_9_method_72_code 15 1 16 (.istore_n 2) := ⟨by decide +kernel, rfl⟩
set_option maxRecDepth 100000 in
theorem ii_mo_far_16 : sm_D prog_9_method_72_code 16 1 17 (.iload_n 2) := ⟨by decide +kernel, rfl⟩
set_option maxRecDepth 100000 in
theorem ii_mo_far_17 : sm_D prog_9_method_72_code 17 3 20 (.ifCond .eq 5) := ⟨by decide +kernel, rfl⟩
set_option maxRecDepth 100000 in
theorem ii_mo_far_20 : sm_D prog_9_method_72_code 20 1 21 (.iload_n 2) := ⟨by decide +kernel, rfl⟩
set_option maxRecDepth 100000 in
theorem ii_mo_far_21 : sm_D prog_9_method_72_code 21 1 22 (.ireturn) := ⟨by decide +kernel, rfl⟩
set_option maxRecDepth 100000 in
theorem ii_mo_far_22 : sm_D prog_9_method_72_code 22 1 23 (.aload_n 0) := ⟨by decide +kernel, rfl⟩
set_option maxRecDepth 100000 in
theorem ii_mo_far_23 : sm_D prog_9_method_72_code 23 3 26 (.invokevirtual 254) := ⟨by decide +kernel, rfl⟩
set_option maxRecDepth 100000 in
theorem ii_mo_far_26 : sm_D prog_9_method_72_code 26 1 27 (.istore_n 3) := ⟨by decide +kernel, rfl⟩
set_option maxRecDepth 100000 in
theorem ii_mo_far_27 : sm_D prog_9_method_72_code 27 1 28 (.aload_n 0) := ⟨by decide +kernel, rfl⟩
set_option maxRecDepth 100000 in
theorem ii_mo_far_28 : sm_D prog_9_method_72_code 28 1 29 (.iconst 0) := ⟨by decide +kernel, rfl⟩
set_option maxRecDepth 100000 in
theorem ii_mo_far_29 : sm_D prog_9_method_72_code 29 3 32 (.putfield 66) := ⟨by decide +kernel, rfl⟩
set_option maxRecDepth 100000 in
theorem ii_mo_far_32 : sm_D prog_9_method_72_code 32 1 33 (.aload_n 0) := ⟨by decide +kernel, rfl⟩
set_option maxRecDepth 100000 in
theorem ii_mo_far_33 : sm_D prog_9_method_72_code 33 3 36 (.invokevirtual 233) := ⟨by decide +kernel, rfl⟩
set_option maxRecDepth 100000 in
theorem ii_mo_far_36 : sm_D prog_9_method_72_code 36 1 37 (.aload_n 0) := ⟨by decide +kernel, rfl⟩
set_option maxRecDepth 100000 in
theorem ii_mo_far_37 : sm_D prog_9_method_72_code 37 3 40 (.invokevirtual 236) := ⟨by decide +kernel, rfl⟩
set_option maxRecDepth 100000 in
theorem ii_mo_far_40 : sm_D prog_9_method_72_code 40 3 43 (.ifCond .eq 16) := ⟨by decide +kernel, rfl⟩
set_option maxRecDepth 100000 in
theorem ii_mo_far_43 : sm_D prog_9_method_72_code 43 1 44 (.aload_n 0) := ⟨by decide +kernel, rfl⟩
set_option maxRecDepth 100000 in
theorem ii_mo_far_44 : sm_D prog_9_method_72_code 44 1 45 (.dup) := ⟨by decide +kernel, rfl⟩
set_option maxRecDepth 100000 in
theorem ii_mo_far_45 : sm_D prog_9_method_72_code 45 3 48 (.getfield 66) := ⟨by decide +kernel, rfl⟩
set_option maxRecDepth 100000 in
theorem ii_mo_far_48 : sm_D prog_9_method_72_code 48 1 49 (.iconst 1) := ⟨by decide +kernel, rfl⟩
set_option maxRecDepth 100000 in
theorem ii_mo_far_49 : sm_D prog_9_method_72_code 49 1 50 (.iadd) := ⟨by decide +kernel, rfl⟩
set_option maxRecDepth 100000 in
theorem ii_mo_far_50 : sm_D prog_9_method_72_code 50 3 53 (.putfield 66) := ⟨by decide +kernel, rfl⟩
set_option maxRecDepth 100000 in
theorem ii_mo_far_53 : sm_D prog_9_method_72_code 53 3 56 (.goto (-17)) := ⟨by decide +kernel, rfl⟩
set_option maxRecDepth 100000 in
theorem ii_mo_far_56 : sm_D prog_9_method_72_code 56 1 57 (.iload_n 3) := ⟨by decide +kernel, rfl⟩
set_option maxRecDepth 100000 in
theorem ii_mo_far_57 : sm_D prog_9_method_72_code 57 1 58 (.ireturn) := ⟨by decide +kernel, rfl⟩
noncomputable def ff_mo_far_36_b  (self36 : Int32 → sm_Mem → sm_R) (a3 : Int32) (w : sm_Mem) : sm_R := (sm_cI (ff_mo_nextWay  w) fun x1 w2 => (if x1 = (0 : Int32) then (some (.int a3, w2)) else (sm_let (sm_wI w2 62 9 ((w2.1 62 9) + (1 : Int32))) fun w3 => self36 (a3) w3)))
noncomputable def ff_mo_far_36_f  : Nat → Int32 → sm_Mem → sm_R
  | 0, _, _ => none
  | n + 1, a3, w => ff_mo_far_36_b  (ff_mo_far_36_f  n) a3 w
noncomputable def ff_mo_far_36  (a3 : Int32) (w : sm_Mem) : sm_R := ff_mo_far_36_f  sm_N a3 w
set_option maxHeartbeats 4000000 in
set_option maxRecDepth 100000 in
theorem ss_mo_far_36_b {E : Nat × (Nat → Int32)}  (self36 : Int32 → sm_Mem → sm_R) (hself36 : ∀ (a3 : Int32) (w : sm_Mem), sm_Sim E (mi_mo_far) 36 [some (.ref 62), none, none, some (.int a3)] [] w (self36 a3 w)) (a3 : Int32) (w : sm_Mem) : sm_Sim E (mi_mo_far) 36 [some (.ref 62), none, none, some (.int a3)] [] w (ff_mo_far_36_b  self36 a3 w) := by
  unfold ff_mo_far_36_b
  refine sm_aload_n ii_mo_far_36 rfl ?_
  refine sm_cvI [] [] rfl ii_mo_far_37 ml_mo_236 (mf_mo_nextWay) (mv_mo_nextWay) (Nat.le_of_ble_eq_true rfl) rfl 7 rfl rfl rfl rfl (mc_mo_nextWay  w) (fun x1 w2 => ?_)
  refine sm_if_eq 56 ii_mo_far_40 (by decide) ?_ ?_
  · refine sm_iload_n ii_mo_far_56 rfl ?_
    exact sm_iret ii_mo_far_57 rfl
  · refine sm_aload_n ii_mo_far_43 rfl ?_
    refine sm_dupR ii_mo_far_44 ?_
    refine sm_getI ii_mo_far_45 fl_mo_66 (k := 62) rfl ?_
    refine sm_iconst (1 : Int32) ii_mo_far_48 (by decide) ?_
    refine sm_iadd ii_mo_far_49 ?_
    refine sm_putI ii_mo_far_50 fp_mo_66 (k := 62) rfl (fun w3 => ?_)
    refine sm_goto 36 ii_mo_far_53 (by decide) ?_
    exact hself36 (a3) w3
set_option maxHeartbeats 4000000 in
set_option maxRecDepth 100000 in
theorem ss_mo_far_36_f {E : Nat × (Nat → Int32)}  : ∀ (n : Nat) (a3 : Int32) (w : sm_Mem), sm_Sim E (mi_mo_far) 36 [some (.ref 62), none, none, some (.int a3)] [] w (ff_mo_far_36_f  n a3 w)
  | 0, _, _ => fun _ _ h => by cases h
  | n + 1, a3, w => ss_mo_far_36_b  _ (ss_mo_far_36_f  n) a3 w
set_option maxHeartbeats 4000000 in
set_option maxRecDepth 100000 in
theorem ss_mo_far_36 {E : Nat × (Nat → Int32)}  (a3 : Int32) (w : sm_Mem) : sm_Sim E (mi_mo_far) 36 [some (.ref 62), none, none, some (.int a3)] [] w (ff_mo_far_36  a3 w) := ss_mo_far_36_f  sm_N a3 w
noncomputable def ff_mo_far  (a1 : Int32) (w : sm_Mem) : sm_R := (sm_cI (ff_mo_isRow (a1) w) fun x4 w5 => (if x4 = (0 : Int32) then (some (.int (-1 : Int32), w5)) else (sm_cI (ff_mo_noGoal (a1) ((1 : Int32)) w5) fun x6 w7 => (if x6 = (0 : Int32) then (sm_cI (ff_mo_farGoal  w7) fun x8 w9 => (sm_let (sm_wI w9 62 9 (0 : Int32)) fun w10 => (sm_cV (ff_mo_beginWays  w10) fun w12 => ff_mo_far_36 (x8) w12))) else (some (.int x6, w7))))))
set_option maxHeartbeats 4000000 in
set_option maxRecDepth 100000 in
theorem ss_mo_far_0 {E : Nat × (Nat → Int32)}  (a1 : Int32) (w : sm_Mem) : sm_Sim E (mi_mo_far) 0 [some (.ref 62), some (.int a1), none, none] [] w (ff_mo_far  a1 w) := by
  unfold ff_mo_far
  refine sm_iload_n ii_mo_far_0 rfl ?_
  refine sm_csI [.int a1] [] rfl ii_mo_far_1 ml_mo_77 (mf_mo_isRow) (mv_mo_isRow) (Nat.le_of_ble_eq_true rfl) rfl rfl rfl (mc_mo_isRow (a1) w) (fun x4 w5 => ?_)
  refine sm_if_ne 9 ii_mo_far_4 (by decide) ?_ ?_
  · refine sm_iconst (-1 : Int32) ii_mo_far_7 (by decide) ?_
    exact sm_iret ii_mo_far_8 rfl
  · refine sm_aload_n ii_mo_far_9 rfl ?_
    refine sm_iload_n ii_mo_far_10 rfl ?_
    refine sm_iconst (1 : Int32) ii_mo_far_11 (by decide) ?_
    refine sm_cvI [.int a1, .int (1 : Int32)] [] rfl ii_mo_far_12 ml_mo_242 (mf_mo_noGoal) (mv_mo_noGoal) (Nat.le_of_ble_eq_true rfl) rfl 7 rfl rfl rfl rfl (mc_mo_noGoal (a1) ((1 : Int32)) w5) (fun x6 w7 => ?_)
    refine sm_istore_n [some (.ref 62), some (.int a1), some (.int x6), none] ii_mo_far_15 rfl rfl ?_
    refine sm_iload_n ii_mo_far_16 rfl ?_
    refine sm_if_eq 22 ii_mo_far_17 (by decide) ?_ ?_
    · refine sm_aload_n ii_mo_far_22 rfl ?_
      refine sm_cvI [] [] rfl ii_mo_far_23 ml_mo_254 (mf_mo_farGoal) (mv_mo_farGoal) (Nat.le_of_ble_eq_true rfl) rfl 7 rfl rfl rfl rfl (mc_mo_farGoal  w7) (fun x8 w9 => ?_)
      refine sm_istore_n [some (.ref 62), some (.int a1), some (.int x6), some (.int x8)] ii_mo_far_26 rfl rfl ?_
      refine sm_aload_n ii_mo_far_27 rfl ?_
      refine sm_iconst (0 : Int32) ii_mo_far_28 (by decide) ?_
      refine sm_putI ii_mo_far_29 fp_mo_66 (k := 62) rfl (fun w10 => ?_)
      refine sm_aload_n ii_mo_far_32 rfl ?_
      refine sm_cvV [] [] rfl ii_mo_far_33 ml_mo_233 (mf_mo_beginWays) (mv_mo_beginWays) (Nat.le_of_ble_eq_true rfl) rfl 7 rfl rfl rfl rfl (mc_mo_beginWays  w10) (fun w12 => ?_)
      refine sm_msk [true, false, false, true] [some (.ref 62), none, none, some (.int x8)] rfl ?_
      exact ss_mo_far_36 (x8) w12
    · refine sm_iload_n ii_mo_far_20 rfl ?_
      exact sm_iret ii_mo_far_21 rfl
set_option maxHeartbeats 4000000 in
set_option maxRecDepth 100000 in
theorem mc_mo_far (a1 : Int32) (w : sm_Mem) : sm_MC mi_mo_far [.ref 62, .int a1] w (ff_mo_far a1 w) := sm_MC_of (0, fun _ => 0) (by decide +kernel) (by decide) rfl (Nat.le_of_ble_eq_true rfl) (ss_mo_far_0 a1 w)
abbrev mi_tr_hasWay (k : Nat) : sm_MI := (⟨"HerOrders$Trials", "hasWay", "(II)Z"⟩, prog_6_method_3_code, 5, (some .boolean), k)
set_option maxRecDepth 100000 in
theorem mf_tr_hasWay_z : sm_MF (mi_tr_hasWay 0) 2 := ⟨List.mem_of_getElem? (i := 712) (by decide +kernel), List.mem_of_getElem? (i := 130) (by decide +kernel), ⟨by decide, by decide⟩, by decide +kernel⟩
set_option maxRecDepth 100000 in
theorem mf_tr_hasWay (k : Nat) : sm_MF (mi_tr_hasWay k) 2 := mf_tr_hasWay_z
set_option maxRecDepth 100000 in
theorem mv_tr_hasWay_z : sm_MFV (mi_tr_hasWay 0) := ⟨List.mem_of_getElem? (i := 711) (by decide +kernel), List.mem_of_getElem? (i := 42) (by decide +kernel)⟩
set_option maxRecDepth 100000 in
theorem mv_tr_hasWay (k : Nat) : sm_MFV (mi_tr_hasWay k) := mv_tr_hasWay_z
set_option maxRecDepth 100000 in
theorem ii_tr_hasWay_0 : sm_D prog_6_method_3_code 0 1 1 (.iload_n 1) := ⟨by decide +kernel, rfl⟩
set_option maxRecDepth 100000 in
theorem ii_tr_hasWay_1 : sm_D prog_6_method_3_code 1 1 2 (.iload_n 2) := ⟨by decide +kernel, rfl⟩
set_option maxRecDepth 100000 in
theorem ii_tr_hasWay_2 : sm_D prog_6_method_3_code 2 3 5 (.if_icmp .lt 5) := ⟨by decide +kernel, rfl⟩
set_option maxRecDepth 100000 in
theorem ii_tr_hasWay_5 : sm_D prog_6_method_3_code 5 1 6 (.iconst 1) := ⟨by decide +kernel, rfl⟩
set_option maxRecDepth 100000 in
theorem ii_tr_hasWay_6 : sm_D prog_6_method_3_code 6 1 7 (.ireturn) := ⟨by decide +kernel, rfl⟩
set_option maxRecDepth 100000 in
theorem ii_tr_hasWay_7 : sm_D prog_6_method_3_code 7 1 8 (.iconst 0) := ⟨by decide +kernel, rfl⟩
set_option maxRecDepth 100000 in
theorem ii_tr_hasWay_8 : sm_D prog_6_method_3_code 8 1 9 (.istore_n 3) := ⟨by decide +kernel, rfl⟩
set_option maxRecDepth 100000 in
theorem ii_tr_hasWay_9 : sm_D prog_6_method_3_code 9 1 10 (.iload_n 3) := ⟨by decide +kernel, rfl⟩
set_option maxRecDepth 100000 in
theorem ii_tr_hasWay_10 : sm_D prog_6_method_3_code 10 1 11 (.aload_n 0) := ⟨by decide +kernel, rfl⟩
set_option maxRecDepth 100000 in
theorem ii_tr_hasWay_11 : sm_D prog_6_method_3_code 11 3 14 (.getfield 9) := ⟨by decide +kernel, rfl⟩
set_option maxRecDepth 100000 in
theorem ii_tr_hasWay_14 : sm_D prog_6_method_3_code 14 3 17 (.getfield 29) := ⟨by decide +kernel, rfl⟩
set_option maxRecDepth 100000 in
theorem ii_tr_hasWay_17 : sm_D prog_6_method_3_code 17 3 20 (.if_icmp .ge 67) := ⟨by decide +kernel, rfl⟩
set_option maxRecDepth 100000 in
theorem ii_tr_hasWay_20 : sm_D prog_6_method_3_code 20 1 21 (.aload_n 0) := ⟨by decide +kernel, rfl⟩
set_option maxRecDepth 100000 in
theorem ii_tr_hasWay_21 : sm_D prog_6_method_3_code 21 3 24 (.getfield 9) := ⟨by decide +kernel, rfl⟩
set_option maxRecDepth 100000 in
theorem ii_tr_hasWay_24 : sm_D prog_6_method_3_code 24 1 25 (.iload_n 3) := ⟨by decide +kernel, rfl⟩
set_option maxRecDepth 100000 in
theorem ii_tr_hasWay_25 : sm_D prog_6_method_3_code 25 1 26 (.aload_n 0) := ⟨by decide +kernel, rfl⟩
set_option maxRecDepth 100000 in
theorem ii_tr_hasWay_26 : sm_D prog_6_method_3_code 26 3 29 (.getfield 15) := ⟨by decide +kernel, rfl⟩
set_option maxRecDepth 100000 in
theorem ii_tr_hasWay_29 : sm_D prog_6_method_3_code 29 1 30 (.iload_n 1) := ⟨by decide +kernel, rfl⟩
set_option maxRecDepth 100000 in
theorem ii_tr_hasWay_30 : sm_D prog_6_method_3_code 30 1 31 (.iaload) := ⟨by decide +kernel, rfl⟩
set_option maxRecDepth 100000 in
theorem ii_tr_hasWay_31 : sm_D prog_6_method_3_code 31 3 34 (.invokevirtual 35) := ⟨by decide +kernel, rfl⟩
set_option maxRecDepth 100000 in
theorem ii_tr_hasWay_34 : sm_D prog_6_method_3_code 34 3 37 (.ifCond .ne 6) := ⟨by decide +kernel, rfl⟩
set_option maxRecDepth 100000 in
theorem ii_tr_hasWay_37 : sm_D prog_6_method_3_code 37 3 40 (.goto 41) := ⟨by decide +kernel, rfl⟩
set_option maxRecDepth 100000 in
theorem ii_tr_hasWay_40 : sm_D prog_6_method_3_code 40 1 41 (.aload_n 0) := ⟨by decide +kernel, rfl⟩
set_option maxRecDepth 100000 in
theorem ii_tr_hasWay_41 : sm_D prog_6_method_3_code 41 3 44 (.getfield 9) := ⟨by decide +kernel, rfl⟩
set_option maxRecDepth 100000 in
theorem ii_tr_hasWay_44 : sm_D prog_6_method_3_code 44 1 45 (.iload_n 3) := ⟨by decide +kernel, rfl⟩
set_option maxRecDepth 100000 in
theorem ii_tr_hasWay_45 : sm_D prog_6_method_3_code 45 1 46 (.aload_n 0) := ⟨by decide +kernel, rfl⟩
set_option maxRecDepth 100000 in
theorem ii_tr_hasWay_46 : sm_D prog_6_method_3_code 46 3 49 (.getfield 15) := ⟨by decide +kernel, rfl⟩
set_option maxRecDepth 100000 in
theorem ii_tr_hasWay_49 : sm_D prog_6_method_3_code 49 1 50 (.iload_n 1) := ⟨by decide +kernel, rfl⟩
set_option maxRecDepth 100000 in
theorem ii_tr_hasWay_50 : sm_D prog_6_method_3_code 50 1 51 (.iaload) := ⟨by decide +kernel, rfl⟩
set_option maxRecDepth 100000 in
theorem ii_tr_hasWay_51 : sm_D prog_6_method_3_code 51 3 54 (.invokevirtual 38) := ⟨by decide +kernel, rfl⟩
set_option maxRecDepth 100000 in
theorem ii_tr_hasWay_54 : sm_D prog_6_method_3_code 54 1 55 (.aload_n 0) := ⟨by decide +kernel, rfl⟩
set_option maxRecDepth 100000 in
theorem ii_tr_hasWay_55 : sm_D prog_6_method_3_code 55 1 56 (.iload_n 1) := ⟨by decide +kernel, rfl⟩
set_option maxRecDepth 100000 in
theorem ii_tr_hasWay_56 : sm_D prog_6_method_3_code 56 1 57 (.iconst 1) := ⟨by decide +kernel, rfl⟩
set_option maxRecDepth 100000 in
theorem ii_tr_hasWay_57 : sm_D prog_6_method_3_code 57 1 58 (.iadd) := ⟨by decide +kernel, rfl⟩
set_option maxRecDepth 100000 in
theorem ii_tr_hasWay_58 : sm_D prog_6_method_3_code 58 1 59 (.iload_n 2) := ⟨by decide +kernel, rfl⟩
set_option maxRecDepth 100000 in
theorem ii_tr_hasWay_59 : sm_D prog_6_method_3_code 59 3 62 (.invokevirtual 25) := ⟨by decide +kernel, rfl⟩
set_option maxRecDepth 100000 in
theorem ii_tr_hasWay_62 : sm_D prog_6_method_3_code 62 2 64 (.istore 4) := ⟨by decide +kernel, rfl⟩
set_option maxRecDepth 100000 in
theorem ii_tr_hasWay_64 : sm_D prog_6_method_3_code 64 1 65 (.aload_n 0) := ⟨by decide +kernel, rfl⟩
set_option maxRecDepth 100000 in
theorem ii_tr_hasWay_65 : sm_D prog_6_method_3_code 65 3 68 (.getfield 9) := ⟨by decide +kernel, rfl⟩
set_option maxRecDepth 100000 in
theorem ii_tr_hasWay_68 : sm_D prog_6_method_3_code 68 3 71 (.invokevirtual 42) := ⟨by decide +kernel, rfl⟩
set_option maxRecDepth 100000 in
theorem ii_tr_hasWay_71 : sm_D prog_6_method_3_code 71 2 73 (.iload 4) := ⟨by decide +kernel, rfl⟩
set_option maxRecDepth 100000 in
theorem ii_tr_hasWay_73 : sm_D prog_6_method_3_code 73 3 76 (.ifCond .eq 5) := ⟨by decide +kernel, rfl⟩
set_option maxRecDepth 100000 in
theorem ii_tr_hasWay_76 : sm_D prog_6_method_3_code 76 1 77 (.iconst 1) := ⟨by decide +kernel, rfl⟩
set_option maxRecDepth 100000 in
theorem ii_tr_hasWay_77 : sm_D prog_6_method_3_code 77 1 78 (.ireturn) := ⟨by decide +kernel, rfl⟩
set_option maxRecDepth 100000 in
theorem ii_tr_hasWay_78 : sm_D prog_6_method_3_code 78 3 81 (.iinc 3 1) := ⟨by decide +kernel, rfl⟩
set_option maxRecDepth 100000 in
theorem ii_tr_hasWay_81 : sm_D prog_6_method_3_code 81 3 84 (.goto (-72)) := ⟨by decide +kernel, rfl⟩
set_option maxRecDepth 100000 in
theorem ii_tr_hasWay_84 : sm_D prog_6_method_3_code 84 1 85 (.iconst 0) := ⟨by decide +kernel, rfl⟩
set_option maxRecDepth 100000 in
theorem ii_tr_hasWay_85 : sm_D prog_6_method_3_code 85 1 86 (.ireturn) := ⟨by decide +kernel, rfl⟩
noncomputable def ff_tr_hasWay_9_b (rc : Int32 → Int32 → sm_Mem → sm_R)  (self9 : Int32 → Int32 → Int32 → sm_Mem → sm_R) (a1 : Int32) (a2 : Int32) (a3 : Int32) (w : sm_Mem) : sm_R := (if (w.1 36 0) ≤ a3 then (some (.int (0 : Int32), w)) else (Option.bind (sm_rd w 57 4 a1) fun x1 => (sm_cI (ff_hs_can (a3) (x1) w) fun x2 w3 => (if x2 = (0 : Int32) then self9 (a1) (a2) ((a3 + (1 : Int32))) w3 else (Option.bind (sm_rd w3 57 4 a1) fun x4 => (sm_cV (ff_hs_push (a3) (x4) w3) fun w6 => (sm_cI (rc ((a1 + (1 : Int32))) (a2) w6) fun x7 w8 => (sm_cV (ff_hs_pop  w8) fun w10 => (if x7 = (0 : Int32) then self9 (a1) (a2) ((a3 + (1 : Int32))) w10 else (some (.int (1 : Int32), w10)))))))))))
noncomputable def ff_tr_hasWay_9_f (rc : Int32 → Int32 → sm_Mem → sm_R)  : Nat → Int32 → Int32 → Int32 → sm_Mem → sm_R
  | 0, _, _, _, _ => none
  | n + 1, a1, a2, a3, w => ff_tr_hasWay_9_b rc  (ff_tr_hasWay_9_f rc  n) a1 a2 a3 w
noncomputable def ff_tr_hasWay_9 (rc : Int32 → Int32 → sm_Mem → sm_R)  (a1 : Int32) (a2 : Int32) (a3 : Int32) (w : sm_Mem) : sm_R := ff_tr_hasWay_9_f rc  sm_N a1 a2 a3 w
set_option maxHeartbeats 4000000 in
set_option maxRecDepth 100000 in
theorem ss_tr_hasWay_9_b {E : Nat × (Nat → Int32)} {dn : Nat} (rc : Int32 → Int32 → sm_Mem → sm_R) (hrc : ∀ (a1 : Int32) (a2 : Int32) (w : sm_Mem), sm_MC (mi_tr_hasWay (3 + dn)) [.ref 56, .int a1, .int a2] w (rc a1 a2 w))  (self9 : Int32 → Int32 → Int32 → sm_Mem → sm_R) (hself9 : ∀ (a1 : Int32) (a2 : Int32) (a3 : Int32) (w : sm_Mem), sm_Sim E (mi_tr_hasWay (3 + dn + 1)) 9 [some (.ref 56), some (.int a1), some (.int a2), some (.int a3), none] [] w (self9 a1 a2 a3 w)) (a1 : Int32) (a2 : Int32) (a3 : Int32) (w : sm_Mem) : sm_Sim E (mi_tr_hasWay (3 + dn + 1)) 9 [some (.ref 56), some (.int a1), some (.int a2), some (.int a3), none] [] w (ff_tr_hasWay_9_b rc  self9 a1 a2 a3 w) := by
  unfold ff_tr_hasWay_9_b
  refine sm_iload_n ii_tr_hasWay_9 rfl ?_
  refine sm_aload_n ii_tr_hasWay_10 rfl ?_
  refine sm_getR 36 ii_tr_hasWay_11 fl_tr_9 (k := 56) rfl ?_
  refine sm_getI ii_tr_hasWay_14 fl_tr_29 (k := 36) rfl ?_
  refine sm_icmp_ge 84 ii_tr_hasWay_17 (by decide) ?_ ?_
  · refine sm_iconst (0 : Int32) ii_tr_hasWay_84 (by decide) ?_
    exact sm_zret1 ii_tr_hasWay_85 rfl (by decide)
  · refine sm_aload_n ii_tr_hasWay_20 rfl ?_
    refine sm_getR 36 ii_tr_hasWay_21 fl_tr_9 (k := 56) rfl ?_
    refine sm_iload_n ii_tr_hasWay_24 rfl ?_
    refine sm_aload_n ii_tr_hasWay_25 rfl ?_
    refine sm_getR 57 ii_tr_hasWay_26 fl_tr_15 (k := 56) rfl ?_
    refine sm_iload_n ii_tr_hasWay_29 rfl ?_
    refine sm_iald ii_tr_hasWay_30 (k := 57) rfl (fun x1 => ?_)
    refine sm_cvI [.int a3, .int x1] [] rfl ii_tr_hasWay_31 ml_tr_35 (mf_hs_can) (mv_hs_can) (sm_kle rfl) rfl 1 rfl rfl rfl rfl (mc_hs_can (a3) (x1) w) (fun x2 w3 => ?_)
    refine sm_if_ne 40 ii_tr_hasWay_34 (by decide) ?_ ?_
    · refine sm_goto 78 ii_tr_hasWay_37 (by decide) ?_
      refine sm_iinc (a3 + (1 : Int32)) [some (.ref 56), some (.int a1), some (.int a2), some (.int (a3 + (1 : Int32))), none] ii_tr_hasWay_78 rfl rfl rfl rfl ?_
      refine sm_goto 9 ii_tr_hasWay_81 (by decide) ?_
      exact hself9 (a1) (a2) ((a3 + (1 : Int32))) w3
    · refine sm_aload_n ii_tr_hasWay_40 rfl ?_
      refine sm_getR 36 ii_tr_hasWay_41 fl_tr_9 (k := 56) rfl ?_
      refine sm_iload_n ii_tr_hasWay_44 rfl ?_
      refine sm_aload_n ii_tr_hasWay_45 rfl ?_
      refine sm_getR 57 ii_tr_hasWay_46 fl_tr_15 (k := 56) rfl ?_
      refine sm_iload_n ii_tr_hasWay_49 rfl ?_
      refine sm_iald ii_tr_hasWay_50 (k := 57) rfl (fun x4 => ?_)
      refine sm_cvV [.int a3, .int x4] [] rfl ii_tr_hasWay_51 ml_tr_38 (mf_hs_push) (mv_hs_push) (sm_kle rfl) rfl 1 rfl rfl rfl rfl (mc_hs_push (a3) (x4) w3) (fun w6 => ?_)
      refine sm_aload_n ii_tr_hasWay_54 rfl ?_
      refine sm_iload_n ii_tr_hasWay_55 rfl ?_
      refine sm_iconst (1 : Int32) ii_tr_hasWay_56 (by decide) ?_
      refine sm_iadd ii_tr_hasWay_57 ?_
      refine sm_iload_n ii_tr_hasWay_58 rfl ?_
      refine sm_cvI [.int (a1 + (1 : Int32)), .int a2] [] rfl ii_tr_hasWay_59 ml_tr_25 (mf_tr_hasWay (3 + dn)) (mv_tr_hasWay (3 + dn)) (Nat.le_refl _) rfl 4 rfl rfl rfl rfl (hrc ((a1 + (1 : Int32))) (a2) w6) (fun x7 w8 => ?_)
      refine sm_istore [some (.ref 56), some (.int a1), some (.int a2), some (.int a3), some (.int x7)] ii_tr_hasWay_62 rfl rfl ?_
      refine sm_aload_n ii_tr_hasWay_64 rfl ?_
      refine sm_getR 36 ii_tr_hasWay_65 fl_tr_9 (k := 56) rfl ?_
      refine sm_cvV [] [] rfl ii_tr_hasWay_68 ml_tr_42 (mf_hs_pop) (mv_hs_pop) (sm_kle rfl) rfl 1 rfl rfl rfl rfl (mc_hs_pop  w8) (fun w10 => ?_)
      refine sm_iload ii_tr_hasWay_71 rfl ?_
      refine sm_if_eq 78 ii_tr_hasWay_73 (by decide) ?_ ?_
      · refine sm_iinc (a3 + (1 : Int32)) [some (.ref 56), some (.int a1), some (.int a2), some (.int (a3 + (1 : Int32))), some (.int x7)] ii_tr_hasWay_78 rfl rfl rfl rfl ?_
        refine sm_goto 9 ii_tr_hasWay_81 (by decide) ?_
        refine sm_msk [true, true, true, true, false] [some (.ref 56), some (.int a1), some (.int a2), some (.int (a3 + (1 : Int32))), none] rfl ?_
        exact hself9 (a1) (a2) ((a3 + (1 : Int32))) w10
      · refine sm_iconst (1 : Int32) ii_tr_hasWay_76 (by decide) ?_
        exact sm_zret1 ii_tr_hasWay_77 rfl (by decide)
set_option maxHeartbeats 4000000 in
set_option maxRecDepth 100000 in
theorem ss_tr_hasWay_9_f {E : Nat × (Nat → Int32)} {dn : Nat} (rc : Int32 → Int32 → sm_Mem → sm_R) (hrc : ∀ (a1 : Int32) (a2 : Int32) (w : sm_Mem), sm_MC (mi_tr_hasWay (3 + dn)) [.ref 56, .int a1, .int a2] w (rc a1 a2 w))  : ∀ (n : Nat) (a1 : Int32) (a2 : Int32) (a3 : Int32) (w : sm_Mem), sm_Sim E (mi_tr_hasWay (3 + dn + 1)) 9 [some (.ref 56), some (.int a1), some (.int a2), some (.int a3), none] [] w (ff_tr_hasWay_9_f rc  n a1 a2 a3 w)
  | 0, _, _, _, _ => fun _ _ h => by cases h
  | n + 1, a1, a2, a3, w => ss_tr_hasWay_9_b rc hrc  _ (ss_tr_hasWay_9_f rc hrc  n) a1 a2 a3 w
set_option maxHeartbeats 4000000 in
set_option maxRecDepth 100000 in
theorem ss_tr_hasWay_9 {E : Nat × (Nat → Int32)} {dn : Nat} (rc : Int32 → Int32 → sm_Mem → sm_R) (hrc : ∀ (a1 : Int32) (a2 : Int32) (w : sm_Mem), sm_MC (mi_tr_hasWay (3 + dn)) [.ref 56, .int a1, .int a2] w (rc a1 a2 w))  (a1 : Int32) (a2 : Int32) (a3 : Int32) (w : sm_Mem) : sm_Sim E (mi_tr_hasWay (3 + dn + 1)) 9 [some (.ref 56), some (.int a1), some (.int a2), some (.int a3), none] [] w (ff_tr_hasWay_9 rc  a1 a2 a3 w) := ss_tr_hasWay_9_f rc hrc  sm_N a1 a2 a3 w
noncomputable def ff_tr_hasWay_0 (rc : Int32 → Int32 → sm_Mem → sm_R)  (a1 : Int32) (a2 : Int32) (w : sm_Mem) : sm_R := (if a1 < a2 then ff_tr_hasWay_9 rc (a1) (a2) ((0 : Int32)) w else (some (.int (1 : Int32), w)))
set_option maxHeartbeats 4000000 in
set_option maxRecDepth 100000 in
theorem ss_tr_hasWay_0 {E : Nat × (Nat → Int32)} {dn : Nat} (rc : Int32 → Int32 → sm_Mem → sm_R) (hrc : ∀ (a1 : Int32) (a2 : Int32) (w : sm_Mem), sm_MC (mi_tr_hasWay (3 + dn)) [.ref 56, .int a1, .int a2] w (rc a1 a2 w))  (a1 : Int32) (a2 : Int32) (w : sm_Mem) : sm_Sim E (mi_tr_hasWay (3 + dn + 1)) 0 [some (.ref 56), some (.int a1), some (.int a2), none, none] [] w (ff_tr_hasWay_0 rc  a1 a2 w) := by
  unfold ff_tr_hasWay_0
  refine sm_iload_n ii_tr_hasWay_0 rfl ?_
  refine sm_iload_n ii_tr_hasWay_1 rfl ?_
  refine sm_icmp_lt 7 ii_tr_hasWay_2 (by decide) ?_ ?_
  · refine sm_iconst (0 : Int32) ii_tr_hasWay_7 (by decide) ?_
    refine sm_istore_n [some (.ref 56), some (.int a1), some (.int a2), some (.int (0 : Int32)), none] ii_tr_hasWay_8 rfl rfl ?_
    exact ss_tr_hasWay_9 rc hrc (a1) (a2) ((0 : Int32)) w
  · refine sm_iconst (1 : Int32) ii_tr_hasWay_5 (by decide) ?_
    exact sm_zret1 ii_tr_hasWay_6 rfl (by decide)
noncomputable def ff_tr_hasWay : Nat → Int32 → Int32 → sm_Mem → sm_R
  | 0, _, _, _ => none
  | n + 1, a1, a2, w => ff_tr_hasWay_0 (ff_tr_hasWay n) a1 a2 w
set_option maxHeartbeats 4000000 in
set_option maxRecDepth 100000 in
theorem mc_tr_hasWay : ∀ (n : Nat) (a1 : Int32) (a2 : Int32) (w : sm_Mem), sm_MC (mi_tr_hasWay (3 + n)) [.ref 56, .int a1, .int a2] w (ff_tr_hasWay n a1 a2 w)
  | 0, _, _, _ => fun _ _ h => by cases h
  | n + 1, a1, a2, w => sm_MC_of (0, fun _ => 0) (show plainName "HerOrders$Trials" = true by decide +kernel) (show ("HerOrders$Trials" : String) ≠ "HerOrdersLaw" by decide) rfl (Nat.le_of_ble_eq_true rfl) (ss_tr_hasWay_0 (dn := n) _ (mc_tr_hasWay n) a1 a2 w)
abbrev mi_tr_firstDumb : sm_MI := (⟨"HerOrders$Trials", "firstDumb", "(I)I"⟩, prog_6_method_2_code, 6, (some .int), 12)
set_option maxRecDepth 100000 in
theorem mf_tr_firstDumb : sm_MF mi_tr_firstDumb 1 := ⟨List.mem_of_getElem? (i := 708) (by decide +kernel), List.mem_of_getElem? (i := 130) (by decide +kernel), ⟨by decide, by decide⟩, by decide +kernel⟩
set_option maxRecDepth 100000 in
theorem mv_tr_firstDumb : sm_MFV mi_tr_firstDumb := ⟨List.mem_of_getElem? (i := 707) (by decide +kernel), List.mem_of_getElem? (i := 41) (by decide +kernel)⟩
set_option maxRecDepth 100000 in
theorem ii_tr_firstDumb_0 : sm_D prog_6_method_2_code 0 1 1 (.iconst 1) := ⟨by decide +kernel, rfl⟩
set_option maxRecDepth 100000 in
theorem ii_tr_firstDumb_1 : sm_D prog_6_method_2_code 1 1 2 (.istore_n 2) := ⟨by decide +kernel, rfl⟩
set_option maxRecDepth 100000 in
theorem ii_tr_firstDumb_2 : sm_D prog_6_method_2_code 2 1 3 (.iconst 0) := ⟨by decide +kernel, rfl⟩
set_option maxRecDepth 100000 in
theorem ii_tr_firstDumb_3 : sm_D prog_6_method_2_code 3 1 4 (.istore_n 3) := ⟨by decide +kernel, rfl⟩
set_option maxRecDepth 100000 in
theorem ii_tr_firstDumb_4 : sm_D prog_6_method_2_code 4 1 5 (.iload_n 3) := ⟨by decide +kernel, rfl⟩
set_option maxRecDepth 100000 in
theorem ii_tr_firstDumb_5 : sm_D prog_6_method_2_code 5 1 6 (.iload_n 1) := ⟨by decide +kernel, rfl⟩
set_option maxRecDepth 100000 in
theorem ii_tr_firstDumb_6 : sm_D prog_6_method_2_code 6 3 9 (.if_icmp .ge 14) := ⟨by decide +kernel, rfl⟩
set_option maxRecDepth 100000 in
theorem ii_tr_firstDumb_9 : sm_D prog_6_method_2_code 9 1 10 (.iload_n 2) := ⟨by decide +kernel, rfl⟩
set_option maxRecDepth 100000 in
theorem ii_tr_firstDumb_10 : sm_D prog_6_method_2_code 10 2 12 (.bipush 6) := ⟨by decide +kernel, rfl⟩
set_option maxRecDepth 100000 in
theorem ii_tr_firstDumb_12 : sm_D prog_6_method_2_code 12 1 13 (.imul) := ⟨by decide +kernel, rfl⟩
set_option maxRecDepth 100000 in
theorem ii_tr_firstDumb_13 : sm_D prog_6_method_2_code 13 1 14 (.istore_n 2) := ⟨by decide +kernel, rfl⟩
set_option maxRecDepth 100000 in
theorem ii_tr_firstDumb_14 : sm_D prog_6_method_2_code 14 3 17 (.iinc 3 1) := ⟨by decide +kernel, rfl⟩
set_option maxRecDepth 100000 in
theorem ii_tr_firstDumb_17 : sm_D prog_6_method_2_code 17 3 20 (.goto (-13)) := ⟨by decide +kernel, rfl⟩
set_option maxRecDepth 100000 in
theorem ii_tr_firstDumb_20 : sm_D prog_6_method_2_code 20 1 21 (.iconst 0) := ⟨by decide +kernel, rfl⟩
set_option maxRecDepth 100000 in
theorem ii_tr_firstDumb_21 : sm_D prog_6_method_2_code 21 1 22 (.istore_n 3) := ⟨by decide +kernel, rfl⟩
set_option maxRecDepth 100000 in
theorem ii_tr_firstDumb_22 : sm_D prog_6_method_2_code 22 1 23 (.iload_n 3) := ⟨by decide +kernel, rfl⟩
set_option maxRecDepth 100000 in
theorem ii_tr_firstDumb_23 : sm_D prog_6_method_2_code 23 1 24 (.iload_n 2) := ⟨by decide +kernel, rfl⟩
set_option maxRecDepth 100000 in
theorem ii_tr_firstDumb_24 : sm_D prog_6_method_2_code 24 3 27 (.if_icmp .ge 58) := ⟨by decide +kernel, rfl⟩
set_option maxRecDepth 100000 in
theorem ii_tr_firstDumb_27 : sm_D prog_6_method_2_code 27 1 28 (.iload_n 3) := ⟨by decide +kernel, rfl⟩
set_option maxRecDepth 100000 in
theorem ii_tr_firstDumb_28 : sm_D prog_6_method_2_code 28 2 30 (.istore 4) := ⟨by decide +kernel, rfl⟩
set_option maxRecDepth 100000 in
theorem ii_tr_firstDumb_30 : sm_D prog_6_method_2_code 30 1 31 (.iload_n 1) := ⟨by decide +kernel, rfl⟩
set_option maxRecDepth 100000 in
theorem ii_tr_firstDumb_31 : sm_D prog_6_method_2_code 31 1 32 (.iconst 1) := ⟨by decide +kernel, rfl⟩
set_option maxRecDepth 100000 in
theorem ii_tr_firstDumb_32 : sm_D prog_6_method_2_code 32 1 33 (.isub) := ⟨by decide +kernel, rfl⟩
set_option maxRecDepth 100000 in
theorem ii_tr_firstDumb_33 : sm_D prog_6_method_2_code 33 2 35 (.istore 5) := ⟨by decide +kernel, rfl⟩
set_option maxRecDepth 100000 in
theorem ii_tr_firstDumb_35 : sm_D prog_6_method_2_code 35 2 37 (.iload 5) := ⟨by decide +kernel, rfl⟩
set_option maxRecDepth 100000 in
theorem ii_tr_firstDumb_37 : sm_D prog_6_method_2_code 37 3 40 (.ifCond .lt 28) := ⟨by decide +kernel, rfl⟩
set_option maxRecDepth 100000 in
theorem ii_tr_firstDumb_40 : sm_D prog_6_method_2_code 40 1 41 (.aload_n 0) := ⟨by decide +kernel, rfl⟩
set_option maxRecDepth 100000 in
theorem ii_tr_firstDumb_41 : sm_D prog_6_method_2_code 41 3 44 (.getfield 15) := ⟨by decide +kernel, rfl⟩
set_option maxRecDepth 100000 in
theorem ii_tr_firstDumb_44 : sm_D prog_6_method_2_code 44 2 46 (.iload 5) := ⟨by decide +kernel, rfl⟩
set_option maxRecDepth 100000 in
theorem ii_tr_firstDumb_46 : sm_D prog_6_method_2_code 46 2 48 (.iload 4) := ⟨by decide +kernel, rfl⟩
set_option maxRecDepth 100000 in
theorem ii_tr_firstDumb_48 : sm_D prog_6_method_2_code 48 2 50 (.bipush 6) := ⟨by decide +kernel, rfl⟩
set_option maxRecDepth 100000 in
theorem ii_tr_firstDumb_50 : sm_D prog_6_method_2_code 50 1 51 (.irem) := ⟨by decide +kernel, rfl⟩
set_option maxRecDepth 100000 in
theorem ii_tr_firstDumb_51 : sm_D prog_6_method_2_code 51 1 52 (.iastore) := ⟨by decide +kernel, rfl⟩
set_option maxRecDepth 100000 in
theorem ii_tr_firstDumb_52 : sm_D prog_6_method_2_code 52 2 54 (.iload 4) := ⟨by decide +kernel, rfl⟩
set_option maxRecDepth 100000 in
theorem ii_tr_firstDumb_54 : sm_D prog_6_method_2_code 54 2 56 (.bipush 6) := ⟨by decide +kernel, rfl⟩
set_option maxRecDepth 100000 in
theorem ii_tr_firstDumb_56 : sm_D prog_6_method_2_code 56 1 57 (.idiv) := ⟨by decide +kernel, rfl⟩
set_option maxRecDepth 100000 in
theorem ii_tr_firstDumb_57 : sm_D prog_6_method_2_code 57 2 59 (.istore 4) := ⟨by decide +kernel, rfl⟩
set_option maxRecDepth 100000 in
theorem ii_tr_firstDumb_59 : sm_D prog_6_method_2_code 59 3 62 (.iinc 5 (-1)) := ⟨by decide +kernel, rfl⟩
set_option maxRecDepth 100000 in
theorem ii_tr_firstDumb_62 : sm_D prog_6_method_2_code 62 3 65 (.goto (-27)) := ⟨by decide +kernel, rfl⟩
set_option maxRecDepth 100000 in
theorem ii_tr_firstDumb_65 : sm_D prog_6_method_2_code 65 1 66 (.aload_n 0) := ⟨by decide +kernel, rfl⟩
set_option maxRecDepth 100000 in
theorem ii_tr_firstDumb_66 : sm_D prog_6_method_2_code 66 1 67 (.iconst 0) := ⟨by decide +kernel, rfl⟩
set_option maxRecDepth 100000 in
theorem ii_tr_firstDumb_67 : sm_D prog_6_method_2_code 67 1 68 (.iload_n 1) := ⟨by decide +kernel, rfl⟩
set_option maxRecDepth 100000 in
theorem ii_tr_firstDumb_68 : sm_D prog_6_method_2_code 68 3 71 (.invokevirtual 25) := ⟨by decide +kernel, rfl⟩
set_option maxRecDepth 100000 in
theorem ii_tr_firstDumb_71 : sm_D prog_6_method_2_code 71 3 74 (.ifCond .ne 5) := ⟨by decide +kernel, rfl⟩
set_option maxRecDepth 100000 in
theorem ii_tr_firstDumb_74 : sm_D prog_6_method_2_code 74 1 75 (.iload_n 3) := ⟨by decide +kernel, rfl⟩
set_option maxRecDepth 100000 in
theorem ii_tr_firstDumb_75 : sm_D prog_6_method_2_code 75 1 76 (.ireturn) := ⟨by decide +kernel, rfl⟩
set_option maxRecDepth 100000 in
theorem ii_tr_firstDumb_76 : sm_D prog_6_method_2_code 76 3 79 (.iinc 3 1) := ⟨by decide +kernel, rfl⟩
set_option maxRecDepth 100000 in
theorem ii_tr_firstDumb_79 : sm_D prog_6_method_2_code 79 3 82 (.goto (-57)) := ⟨by decide +kernel, rfl⟩
set_option maxRecDepth 100000 in
theorem ii_tr_firstDumb_82 : sm_D prog_6_method_2_code 82 2 84 (.bipush (-9)) := ⟨by decide +kernel, rfl⟩
set_option maxRecDepth 100000 in
theorem ii_tr_firstDumb_84 : sm_D prog_6_method_2_code 84 1 85 (.ireturn) := ⟨by decide +kernel, rfl⟩
noncomputable def ff_tr_firstDumb_35_b (self22 : Int32 → Int32 → Int32 → sm_Mem → sm_R) (self35 : Int32 → Int32 → Int32 → Int32 → Int32 → sm_Mem → sm_R) (a1 : Int32) (a2 : Int32) (a3 : Int32) (a4 : Int32) (a5 : Int32) (w : sm_Mem) : sm_R := (if a5 < (0 : Int32) then (sm_cI (ff_tr_hasWay 8 ((0 : Int32)) (a1) w) fun x1 w2 => (if x1 = (0 : Int32) then (some (.int a3, w2)) else self22 (a1) (a2) ((a3 + (1 : Int32))) w2)) else (if (6 : Int32) = (0 : Int32) then none else (Option.bind (sm_wr w 57 4 a5 (a4 - a4 / (6 : Int32) * (6 : Int32))) fun w4 => (if (6 : Int32) = (0 : Int32) then none else self35 (a1) (a2) (a3) ((a4 / (6 : Int32))) ((a5 + (-1 : Int32))) w4))))
noncomputable def ff_tr_firstDumb_35_f (self22 : Int32 → Int32 → Int32 → sm_Mem → sm_R) : Nat → Int32 → Int32 → Int32 → Int32 → Int32 → sm_Mem → sm_R
  | 0, _, _, _, _, _, _ => none
  | n + 1, a1, a2, a3, a4, a5, w => ff_tr_firstDumb_35_b self22 (ff_tr_firstDumb_35_f self22 n) a1 a2 a3 a4 a5 w
noncomputable def ff_tr_firstDumb_35 (self22 : Int32 → Int32 → Int32 → sm_Mem → sm_R) (a1 : Int32) (a2 : Int32) (a3 : Int32) (a4 : Int32) (a5 : Int32) (w : sm_Mem) : sm_R := ff_tr_firstDumb_35_f self22 sm_N a1 a2 a3 a4 a5 w
set_option maxHeartbeats 4000000 in
set_option maxRecDepth 100000 in
theorem ss_tr_firstDumb_35_b {E : Nat × (Nat → Int32)} (self22 : Int32 → Int32 → Int32 → sm_Mem → sm_R) (hself22 : ∀ (a1 : Int32) (a2 : Int32) (a3 : Int32) (w : sm_Mem), sm_Sim E (mi_tr_firstDumb) 22 [some (.ref 56), some (.int a1), some (.int a2), some (.int a3), none, none] [] w (self22 a1 a2 a3 w)) (self35 : Int32 → Int32 → Int32 → Int32 → Int32 → sm_Mem → sm_R) (hself35 : ∀ (a1 : Int32) (a2 : Int32) (a3 : Int32) (a4 : Int32) (a5 : Int32) (w : sm_Mem), sm_Sim E (mi_tr_firstDumb) 35 [some (.ref 56), some (.int a1), some (.int a2), some (.int a3), some (.int a4), some (.int a5)] [] w (self35 a1 a2 a3 a4 a5 w)) (a1 : Int32) (a2 : Int32) (a3 : Int32) (a4 : Int32) (a5 : Int32) (w : sm_Mem) : sm_Sim E (mi_tr_firstDumb) 35 [some (.ref 56), some (.int a1), some (.int a2), some (.int a3), some (.int a4), some (.int a5)] [] w (ff_tr_firstDumb_35_b self22 self35 a1 a2 a3 a4 a5 w) := by
  unfold ff_tr_firstDumb_35_b
  refine sm_iload ii_tr_firstDumb_35 rfl ?_
  refine sm_if_lt 65 ii_tr_firstDumb_37 (by decide) ?_ ?_
  · refine sm_aload_n ii_tr_firstDumb_65 rfl ?_
    refine sm_iconst (0 : Int32) ii_tr_firstDumb_66 (by decide) ?_
    refine sm_iload_n ii_tr_firstDumb_67 rfl ?_
    refine sm_cvI [.int (0 : Int32), .int a1] [] rfl ii_tr_firstDumb_68 ml_tr_25 (mf_tr_hasWay 11) (mv_tr_hasWay 11) (Nat.le_of_ble_eq_true rfl) rfl 4 rfl rfl rfl rfl (mc_tr_hasWay 8 ((0 : Int32)) (a1) w) (fun x1 w2 => ?_)
    refine sm_if_ne 76 ii_tr_firstDumb_71 (by decide) ?_ ?_
    · refine sm_iload_n ii_tr_firstDumb_74 rfl ?_
      exact sm_iret ii_tr_firstDumb_75 rfl
    · refine sm_iinc (a3 + (1 : Int32)) [some (.ref 56), some (.int a1), some (.int a2), some (.int (a3 + (1 : Int32))), some (.int a4), some (.int a5)] ii_tr_firstDumb_76 rfl rfl rfl rfl ?_
      refine sm_goto 22 ii_tr_firstDumb_79 (by decide) ?_
      refine sm_msk [true, true, true, true, false, false] [some (.ref 56), some (.int a1), some (.int a2), some (.int (a3 + (1 : Int32))), none, none] rfl ?_
      exact hself22 (a1) (a2) ((a3 + (1 : Int32))) w2
  · refine sm_aload_n ii_tr_firstDumb_40 rfl ?_
    refine sm_getR 57 ii_tr_firstDumb_41 fl_tr_15 (k := 56) rfl ?_
    refine sm_iload ii_tr_firstDumb_44 rfl ?_
    refine sm_iload ii_tr_firstDumb_46 rfl ?_
    refine sm_bipush (6 : Int32) ii_tr_firstDumb_48 (by decide) ?_
    refine sm_irem ii_tr_firstDumb_50 ?_
    refine sm_iast ii_tr_firstDumb_51 (k := 57) rfl (fun w4 => ?_)
    refine sm_iload ii_tr_firstDumb_52 rfl ?_
    refine sm_bipush (6 : Int32) ii_tr_firstDumb_54 (by decide) ?_
    refine sm_idiv ii_tr_firstDumb_56 ?_
    refine sm_istore [some (.ref 56), some (.int a1), some (.int a2), some (.int a3), some (.int (a4 / (6 : Int32))), some (.int a5)] ii_tr_firstDumb_57 rfl rfl ?_
    refine sm_iinc (a5 + (-1 : Int32)) [some (.ref 56), some (.int a1), some (.int a2), some (.int a3), some (.int (a4 / (6 : Int32))), some (.int (a5 + (-1 : Int32)))] ii_tr_firstDumb_59 rfl rfl rfl rfl ?_
    refine sm_goto 35 ii_tr_firstDumb_62 (by decide) ?_
    exact hself35 (a1) (a2) (a3) ((a4 / (6 : Int32))) ((a5 + (-1 : Int32))) w4
set_option maxHeartbeats 4000000 in
set_option maxRecDepth 100000 in
theorem ss_tr_firstDumb_35_f {E : Nat × (Nat → Int32)} (self22 : Int32 → Int32 → Int32 → sm_Mem → sm_R) (hself22 : ∀ (a1 : Int32) (a2 : Int32) (a3 : Int32) (w : sm_Mem), sm_Sim E (mi_tr_firstDumb) 22 [some (.ref 56), some (.int a1), some (.int a2), some (.int a3), none, none] [] w (self22 a1 a2 a3 w)) : ∀ (n : Nat) (a1 : Int32) (a2 : Int32) (a3 : Int32) (a4 : Int32) (a5 : Int32) (w : sm_Mem), sm_Sim E (mi_tr_firstDumb) 35 [some (.ref 56), some (.int a1), some (.int a2), some (.int a3), some (.int a4), some (.int a5)] [] w (ff_tr_firstDumb_35_f self22 n a1 a2 a3 a4 a5 w)
  | 0, _, _, _, _, _, _ => fun _ _ h => by cases h
  | n + 1, a1, a2, a3, a4, a5, w => ss_tr_firstDumb_35_b self22 hself22 _ (ss_tr_firstDumb_35_f self22 hself22 n) a1 a2 a3 a4 a5 w
set_option maxHeartbeats 4000000 in
set_option maxRecDepth 100000 in
theorem ss_tr_firstDumb_35 {E : Nat × (Nat → Int32)} (self22 : Int32 → Int32 → Int32 → sm_Mem → sm_R) (hself22 : ∀ (a1 : Int32) (a2 : Int32) (a3 : Int32) (w : sm_Mem), sm_Sim E (mi_tr_firstDumb) 22 [some (.ref 56), some (.int a1), some (.int a2), some (.int a3), none, none] [] w (self22 a1 a2 a3 w)) (a1 : Int32) (a2 : Int32) (a3 : Int32) (a4 : Int32) (a5 : Int32) (w : sm_Mem) : sm_Sim E (mi_tr_firstDumb) 35 [some (.ref 56), some (.int a1), some (.int a2), some (.int a3), some (.int a4), some (.int a5)] [] w (ff_tr_firstDumb_35 self22 a1 a2 a3 a4 a5 w) := ss_tr_firstDumb_35_f self22 hself22 sm_N a1 a2 a3 a4 a5 w
noncomputable def ff_tr_firstDumb_22_b  (self22 : Int32 → Int32 → Int32 → sm_Mem → sm_R) (a1 : Int32) (a2 : Int32) (a3 : Int32) (w : sm_Mem) : sm_R := (if a2 ≤ a3 then (some (.int (-9 : Int32), w)) else ff_tr_firstDumb_35 self22 (a1) (a2) (a3) (a3) ((a1 - (1 : Int32))) w)
noncomputable def ff_tr_firstDumb_22_f  : Nat → Int32 → Int32 → Int32 → sm_Mem → sm_R
  | 0, _, _, _, _ => none
  | n + 1, a1, a2, a3, w => ff_tr_firstDumb_22_b  (ff_tr_firstDumb_22_f  n) a1 a2 a3 w
noncomputable def ff_tr_firstDumb_22  (a1 : Int32) (a2 : Int32) (a3 : Int32) (w : sm_Mem) : sm_R := ff_tr_firstDumb_22_f  sm_N a1 a2 a3 w
set_option maxHeartbeats 4000000 in
set_option maxRecDepth 100000 in
theorem ss_tr_firstDumb_22_b {E : Nat × (Nat → Int32)}  (self22 : Int32 → Int32 → Int32 → sm_Mem → sm_R) (hself22 : ∀ (a1 : Int32) (a2 : Int32) (a3 : Int32) (w : sm_Mem), sm_Sim E (mi_tr_firstDumb) 22 [some (.ref 56), some (.int a1), some (.int a2), some (.int a3), none, none] [] w (self22 a1 a2 a3 w)) (a1 : Int32) (a2 : Int32) (a3 : Int32) (w : sm_Mem) : sm_Sim E (mi_tr_firstDumb) 22 [some (.ref 56), some (.int a1), some (.int a2), some (.int a3), none, none] [] w (ff_tr_firstDumb_22_b  self22 a1 a2 a3 w) := by
  unfold ff_tr_firstDumb_22_b
  refine sm_iload_n ii_tr_firstDumb_22 rfl ?_
  refine sm_iload_n ii_tr_firstDumb_23 rfl ?_
  refine sm_icmp_ge 82 ii_tr_firstDumb_24 (by decide) ?_ ?_
  · refine sm_bipush (-9 : Int32) ii_tr_firstDumb_82 (by decide) ?_
    exact sm_iret ii_tr_firstDumb_84 rfl
  · refine sm_iload_n ii_tr_firstDumb_27 rfl ?_
    refine sm_istore [some (.ref 56), some (.int a1), some (.int a2), some (.int a3), some (.int a3), none] ii_tr_firstDumb_28 rfl rfl ?_
    refine sm_iload_n ii_tr_firstDumb_30 rfl ?_
    refine sm_iconst (1 : Int32) ii_tr_firstDumb_31 (by decide) ?_
    refine sm_isub ii_tr_firstDumb_32 ?_
    refine sm_istore [some (.ref 56), some (.int a1), some (.int a2), some (.int a3), some (.int a3), some (.int (a1 - (1 : Int32)))] ii_tr_firstDumb_33 rfl rfl ?_
    exact ss_tr_firstDumb_35 self22 hself22 (a1) (a2) (a3) (a3) ((a1 - (1 : Int32))) w
set_option maxHeartbeats 4000000 in
set_option maxRecDepth 100000 in
theorem ss_tr_firstDumb_22_f {E : Nat × (Nat → Int32)}  : ∀ (n : Nat) (a1 : Int32) (a2 : Int32) (a3 : Int32) (w : sm_Mem), sm_Sim E (mi_tr_firstDumb) 22 [some (.ref 56), some (.int a1), some (.int a2), some (.int a3), none, none] [] w (ff_tr_firstDumb_22_f  n a1 a2 a3 w)
  | 0, _, _, _, _ => fun _ _ h => by cases h
  | n + 1, a1, a2, a3, w => ss_tr_firstDumb_22_b  _ (ss_tr_firstDumb_22_f  n) a1 a2 a3 w
set_option maxHeartbeats 4000000 in
set_option maxRecDepth 100000 in
theorem ss_tr_firstDumb_22 {E : Nat × (Nat → Int32)}  (a1 : Int32) (a2 : Int32) (a3 : Int32) (w : sm_Mem) : sm_Sim E (mi_tr_firstDumb) 22 [some (.ref 56), some (.int a1), some (.int a2), some (.int a3), none, none] [] w (ff_tr_firstDumb_22  a1 a2 a3 w) := ss_tr_firstDumb_22_f  sm_N a1 a2 a3 w
noncomputable def ff_tr_firstDumb_4_b  (self4 : Int32 → Int32 → Int32 → sm_Mem → sm_R) (a1 : Int32) (a2 : Int32) (a3 : Int32) (w : sm_Mem) : sm_R := (if a1 ≤ a3 then ff_tr_firstDumb_22 (a1) (a2) ((0 : Int32)) w else self4 (a1) ((a2 * (6 : Int32))) ((a3 + (1 : Int32))) w)
noncomputable def ff_tr_firstDumb_4_f  : Nat → Int32 → Int32 → Int32 → sm_Mem → sm_R
  | 0, _, _, _, _ => none
  | n + 1, a1, a2, a3, w => ff_tr_firstDumb_4_b  (ff_tr_firstDumb_4_f  n) a1 a2 a3 w
noncomputable def ff_tr_firstDumb_4  (a1 : Int32) (a2 : Int32) (a3 : Int32) (w : sm_Mem) : sm_R := ff_tr_firstDumb_4_f  sm_N a1 a2 a3 w
set_option maxHeartbeats 4000000 in
set_option maxRecDepth 100000 in
theorem ss_tr_firstDumb_4_b {E : Nat × (Nat → Int32)}  (self4 : Int32 → Int32 → Int32 → sm_Mem → sm_R) (hself4 : ∀ (a1 : Int32) (a2 : Int32) (a3 : Int32) (w : sm_Mem), sm_Sim E (mi_tr_firstDumb) 4 [some (.ref 56), some (.int a1), some (.int a2), some (.int a3), none, none] [] w (self4 a1 a2 a3 w)) (a1 : Int32) (a2 : Int32) (a3 : Int32) (w : sm_Mem) : sm_Sim E (mi_tr_firstDumb) 4 [some (.ref 56), some (.int a1), some (.int a2), some (.int a3), none, none] [] w (ff_tr_firstDumb_4_b  self4 a1 a2 a3 w) := by
  unfold ff_tr_firstDumb_4_b
  refine sm_iload_n ii_tr_firstDumb_4 rfl ?_
  refine sm_iload_n ii_tr_firstDumb_5 rfl ?_
  refine sm_icmp_ge 20 ii_tr_firstDumb_6 (by decide) ?_ ?_
  · refine sm_iconst (0 : Int32) ii_tr_firstDumb_20 (by decide) ?_
    refine sm_istore_n [some (.ref 56), some (.int a1), some (.int a2), some (.int (0 : Int32)), none, none] ii_tr_firstDumb_21 rfl rfl ?_
    exact ss_tr_firstDumb_22 (a1) (a2) ((0 : Int32)) w
  · refine sm_iload_n ii_tr_firstDumb_9 rfl ?_
    refine sm_bipush (6 : Int32) ii_tr_firstDumb_10 (by decide) ?_
    refine sm_imul ii_tr_firstDumb_12 ?_
    refine sm_istore_n [some (.ref 56), some (.int a1), some (.int (a2 * (6 : Int32))), some (.int a3), none, none] ii_tr_firstDumb_13 rfl rfl ?_
    refine sm_iinc (a3 + (1 : Int32)) [some (.ref 56), some (.int a1), some (.int (a2 * (6 : Int32))), some (.int (a3 + (1 : Int32))), none, none] ii_tr_firstDumb_14 rfl rfl rfl rfl ?_
    refine sm_goto 4 ii_tr_firstDumb_17 (by decide) ?_
    exact hself4 (a1) ((a2 * (6 : Int32))) ((a3 + (1 : Int32))) w
set_option maxHeartbeats 4000000 in
set_option maxRecDepth 100000 in
theorem ss_tr_firstDumb_4_f {E : Nat × (Nat → Int32)}  : ∀ (n : Nat) (a1 : Int32) (a2 : Int32) (a3 : Int32) (w : sm_Mem), sm_Sim E (mi_tr_firstDumb) 4 [some (.ref 56), some (.int a1), some (.int a2), some (.int a3), none, none] [] w (ff_tr_firstDumb_4_f  n a1 a2 a3 w)
  | 0, _, _, _, _ => fun _ _ h => by cases h
  | n + 1, a1, a2, a3, w => ss_tr_firstDumb_4_b  _ (ss_tr_firstDumb_4_f  n) a1 a2 a3 w
set_option maxHeartbeats 4000000 in
set_option maxRecDepth 100000 in
theorem ss_tr_firstDumb_4 {E : Nat × (Nat → Int32)}  (a1 : Int32) (a2 : Int32) (a3 : Int32) (w : sm_Mem) : sm_Sim E (mi_tr_firstDumb) 4 [some (.ref 56), some (.int a1), some (.int a2), some (.int a3), none, none] [] w (ff_tr_firstDumb_4  a1 a2 a3 w) := ss_tr_firstDumb_4_f  sm_N a1 a2 a3 w
noncomputable def ff_tr_firstDumb  (a1 : Int32) (w : sm_Mem) : sm_R := ff_tr_firstDumb_4 (a1) ((1 : Int32)) ((0 : Int32)) w
set_option maxHeartbeats 4000000 in
set_option maxRecDepth 100000 in
theorem ss_tr_firstDumb_0 {E : Nat × (Nat → Int32)}  (a1 : Int32) (w : sm_Mem) : sm_Sim E (mi_tr_firstDumb) 0 [some (.ref 56), some (.int a1), none, none, none, none] [] w (ff_tr_firstDumb  a1 w) := by
  unfold ff_tr_firstDumb
  refine sm_iconst (1 : Int32) ii_tr_firstDumb_0 (by decide) ?_
  refine sm_istore_n [some (.ref 56), some (.int a1), some (.int (1 : Int32)), none, none, none] ii_tr_firstDumb_1 rfl rfl ?_
  refine sm_iconst (0 : Int32) ii_tr_firstDumb_2 (by decide) ?_
  refine sm_istore_n [some (.ref 56), some (.int a1), some (.int (1 : Int32)), some (.int (0 : Int32)), none, none] ii_tr_firstDumb_3 rfl rfl ?_
  exact ss_tr_firstDumb_4 (a1) ((1 : Int32)) ((0 : Int32)) w
set_option maxHeartbeats 4000000 in
set_option maxRecDepth 100000 in
theorem mc_tr_firstDumb (a1 : Int32) (w : sm_Mem) : sm_MC mi_tr_firstDumb [.ref 56, .int a1] w (ff_tr_firstDumb a1 w) := sm_MC_of (0, fun _ => 0) (by decide +kernel) (by decide) rfl (Nat.le_of_ble_eq_true rfl) (ss_tr_firstDumb_0 a1 w)
abbrev mi_ho_dumb : sm_MI := (⟨"HerOrders", "dumb", "()I"⟩, prog_1_method_27_code, 3, (some .int), 13)
set_option maxRecDepth 100000 in
theorem mf_ho_dumb : sm_MF mi_ho_dumb 0 := ⟨List.mem_of_getElem? (i := 704) (by decide +kernel), List.mem_of_getElem? (i := 124) (by decide +kernel), ⟨by decide, by decide⟩, by decide +kernel⟩
set_option maxRecDepth 100000 in
theorem mv_ho_dumb : sm_MFV mi_ho_dumb := ⟨List.mem_of_getElem? (i := 702) (by decide +kernel), List.mem_of_getElem? (i := 703) (by decide +kernel)⟩
set_option maxRecDepth 100000 in
theorem ii_ho_dumb_0 : sm_D prog_1_method_27_code 0 1 1 (.aload_n 0) := ⟨by decide +kernel, rfl⟩
set_option maxRecDepth 100000 in
theorem ii_ho_dumb_1 : sm_D prog_1_method_27_code 1 3 4 (.getfield 31) := ⟨by decide +kernel, rfl⟩
set_option maxRecDepth 100000 in
theorem ii_ho_dumb_4 : sm_D prog_1_method_27_code 4 3 7 (.getfield 115) := ⟨by decide +kernel, rfl⟩
set_option maxRecDepth 100000 in
theorem ii_ho_dumb_7 : sm_D prog_1_method_27_code 7 3 10 (.ifCond .ne 6) := ⟨by decide +kernel, rfl⟩
set_option maxRecDepth 100000 in
theorem ii_ho_dumb_10 : sm_D prog_1_method_27_code 10 2 12 (.bipush (-4)) := ⟨by decide +kernel, rfl⟩
set_option maxRecDepth 100000 in
theorem ii_ho_dumb_12 : sm_D prog_1_method_27_code 12 1 13 (.ireturn) := ⟨by decide +kernel, rfl⟩
set_option maxRecDepth 100000 in
theorem ii_ho_dumb_13 : sm_D prog_1_method_27_code 13 1 14 (.iconst 1) := ⟨by decide +kernel, rfl⟩
set_option maxRecDepth 100000 in
theorem ii_ho_dumb_14 : sm_D prog_1_method_27_code 14 1 15 (.istore_n 1) := ⟨by decide +kernel, rfl⟩
set_option maxRecDepth 100000 in
theorem ii_ho_dumb_15 : sm_D prog_1_method_27_code 15 1 16 (.iload_n 1) := ⟨by decide +kernel, rfl⟩
set_option maxRecDepth 100000 in
theorem ii_ho_dumb_16 : sm_D prog_1_method_27_code 16 1 17 (.iconst 3) := ⟨by decide +kernel, rfl⟩
set_option maxRecDepth 100000 in
theorem ii_ho_dumb_17 : sm_D prog_1_method_27_code 17 3 20 (.if_icmp .gt 34) := ⟨by decide +kernel, rfl⟩
set_option maxRecDepth 100000 in
theorem ii_ho_dumb_20 : sm_D prog_1_method_27_code 20 1 21 (.aload_n 0) := ⟨by decide +kernel, rfl⟩
set_option maxRecDepth 100000 in
theorem ii_ho_dumb_21 : sm_D prog_1_method_27_code 21 3 24 (.getfield 47) := ⟨by decide +kernel, rfl⟩
set_option maxRecDepth 100000 in
theorem ii_ho_dumb_24 : sm_D prog_1_method_27_code 24 1 25 (.iload_n 1) := ⟨by decide +kernel, rfl⟩
set_option maxRecDepth 100000 in
theorem ii_ho_dumb_25 : sm_D prog_1_method_27_code 25 3 28 (.invokevirtual 228) := ⟨by decide +kernel, rfl⟩
set_option maxRecDepth 100000 in
theorem ii_ho_dumb_28 : sm_D prog_1_method_27_code 28 1 29 (.istore_n 2) := ⟨by decide +kernel, rfl⟩
set_option maxRecDepth 100000 in
theorem ii_ho_dumb_29 : sm_D prog_1_method_27_code 29 1 30 (.iload_n 2) := ⟨by decide +kernel, rfl⟩
set_option maxRecDepth 100000 in
theorem ii_ho_dumb_30 : sm_D prog_1_method_27_code 30 2 32 (.bipush (-9)) := ⟨by decide +kernel, rfl⟩
set_option maxRecDepth 100000 in
theorem ii_ho_dumb_32 : sm_D prog_1_method_27_code 32 3 35 (.if_icmp .eq 13) := ⟨by decide +kernel, rfl⟩
set_option maxRecDepth 100000 in
theorem ii_ho_dumb_35 : sm_D prog_1_method_27_code 35 1 36 (.aload_n 0) := ⟨by decide +kernel, rfl⟩
set_option maxRecDepth 100000 in
theorem ii_ho_dumb_36 : sm_D prog_1_method_27_code 36 3 39 (.getfield 54) := ⟨by decide +kernel, rfl⟩
set_option maxRecDepth 100000 in
theorem ii_ho_dumb_39 : sm_D prog_1_method_27_code 39 1 40 (.iload_n 2) := ⟨by decide +kernel, rfl⟩
set_option maxRecDepth 100000 in
theorem ii_ho_dumb_40 : sm_D prog_1_method_27_code 40 3 43 (.putfield 70) := ⟨by decide +kernel, rfl⟩
set_option maxRecDepth 100000 in
theorem ii_ho_dumb_43 : sm_D prog_1_method_27_code 43 1 44 (.iload_n 1) := ⟨by decide +kernel, rfl⟩
set_option maxRecDepth 100000 in
theorem ii_ho_dumb_44 : sm_D prog_1_method_27_code 44 1 45 (.ireturn) := ⟨by decide +kernel, rfl⟩
set_option maxRecDepth 100000 in
theorem ii_ho_dumb_45 : sm_D prog_1_method_27_code 45 3 48 (.iinc 1 1) := ⟨by decide +kernel, rfl⟩
set_option maxRecDepth 100000 in
theorem ii_ho_dumb_48 : sm_D prog_1_method_27_code 48 3 51 (.goto (-33)) := ⟨by decide +kernel, rfl⟩
set_option maxRecDepth 100000 in
theorem ii_ho_dumb_51 : sm_D prog_1_method_27_code 51 2 53 (.bipush (-9)) := ⟨by decide +kernel, rfl⟩
set_option maxRecDepth 100000 in
theorem ii_ho_dumb_53 : sm_D prog_1_method_27_code 53 1 54 (.ireturn) := ⟨by decide +kernel, rfl⟩
noncomputable def ff_ho_dumb_15_b  (self15 : Int32 → sm_Mem → sm_R) (a1 : Int32) (w : sm_Mem) : sm_R := (if (3 : Int32) < a1 then (some (.int (-9 : Int32), w)) else (sm_cI (ff_tr_firstDumb (a1) w) fun x1 w2 => (if x1 = (-9 : Int32) then self15 ((a1 + (1 : Int32))) w2 else (sm_let (sm_wI w2 60 0 x1) fun w3 => (some (.int a1, w3))))))
noncomputable def ff_ho_dumb_15_f  : Nat → Int32 → sm_Mem → sm_R
  | 0, _, _ => none
  | n + 1, a1, w => ff_ho_dumb_15_b  (ff_ho_dumb_15_f  n) a1 w
noncomputable def ff_ho_dumb_15  (a1 : Int32) (w : sm_Mem) : sm_R := ff_ho_dumb_15_f  sm_N a1 w
set_option maxHeartbeats 4000000 in
set_option maxRecDepth 100000 in
theorem ss_ho_dumb_15_b {E : Nat × (Nat → Int32)}  (self15 : Int32 → sm_Mem → sm_R) (hself15 : ∀ (a1 : Int32) (w : sm_Mem), sm_Sim E (mi_ho_dumb) 15 [some (.ref 0), some (.int a1), none] [] w (self15 a1 w)) (a1 : Int32) (w : sm_Mem) : sm_Sim E (mi_ho_dumb) 15 [some (.ref 0), some (.int a1), none] [] w (ff_ho_dumb_15_b  self15 a1 w) := by
  unfold ff_ho_dumb_15_b
  refine sm_iload_n ii_ho_dumb_15 rfl ?_
  refine sm_iconst (3 : Int32) ii_ho_dumb_16 (by decide) ?_
  refine sm_icmp_gt 51 ii_ho_dumb_17 (by decide) ?_ ?_
  · refine sm_bipush (-9 : Int32) ii_ho_dumb_51 (by decide) ?_
    exact sm_iret ii_ho_dumb_53 rfl
  · refine sm_aload_n ii_ho_dumb_20 rfl ?_
    refine sm_getR 56 ii_ho_dumb_21 fl_ho_47 (k := 0) rfl ?_
    refine sm_iload_n ii_ho_dumb_24 rfl ?_
    refine sm_cvI [.int a1] [] rfl ii_ho_dumb_25 ml_ho_228 (mf_tr_firstDumb) (mv_tr_firstDumb) (Nat.le_of_ble_eq_true rfl) rfl 4 rfl rfl rfl rfl (mc_tr_firstDumb (a1) w) (fun x1 w2 => ?_)
    refine sm_istore_n [some (.ref 0), some (.int a1), some (.int x1)] ii_ho_dumb_28 rfl rfl ?_
    refine sm_iload_n ii_ho_dumb_29 rfl ?_
    refine sm_bipush (-9 : Int32) ii_ho_dumb_30 (by decide) ?_
    refine sm_icmp_eq 45 ii_ho_dumb_32 (by decide) ?_ ?_
    · refine sm_iinc (a1 + (1 : Int32)) [some (.ref 0), some (.int (a1 + (1 : Int32))), some (.int x1)] ii_ho_dumb_45 rfl rfl rfl rfl ?_
      refine sm_goto 15 ii_ho_dumb_48 (by decide) ?_
      refine sm_msk [true, true, false] [some (.ref 0), some (.int (a1 + (1 : Int32))), none] rfl ?_
      exact hself15 ((a1 + (1 : Int32))) w2
    · refine sm_aload_n ii_ho_dumb_35 rfl ?_
      refine sm_getR 60 ii_ho_dumb_36 fl_ho_54 (k := 0) rfl ?_
      refine sm_iload_n ii_ho_dumb_39 rfl ?_
      refine sm_putI ii_ho_dumb_40 fp_ho_70 (k := 60) rfl (fun w3 => ?_)
      refine sm_iload_n ii_ho_dumb_43 rfl ?_
      exact sm_iret ii_ho_dumb_44 rfl
set_option maxHeartbeats 4000000 in
set_option maxRecDepth 100000 in
theorem ss_ho_dumb_15_f {E : Nat × (Nat → Int32)}  : ∀ (n : Nat) (a1 : Int32) (w : sm_Mem), sm_Sim E (mi_ho_dumb) 15 [some (.ref 0), some (.int a1), none] [] w (ff_ho_dumb_15_f  n a1 w)
  | 0, _, _ => fun _ _ h => by cases h
  | n + 1, a1, w => ss_ho_dumb_15_b  _ (ss_ho_dumb_15_f  n) a1 w
set_option maxHeartbeats 4000000 in
set_option maxRecDepth 100000 in
theorem ss_ho_dumb_15 {E : Nat × (Nat → Int32)}  (a1 : Int32) (w : sm_Mem) : sm_Sim E (mi_ho_dumb) 15 [some (.ref 0), some (.int a1), none] [] w (ff_ho_dumb_15  a1 w) := ss_ho_dumb_15_f  sm_N a1 w
noncomputable def ff_ho_dumb   (w : sm_Mem) : sm_R := (if (w.1 36 0) = (0 : Int32) then (some (.int (-4 : Int32), w)) else ff_ho_dumb_15 ((1 : Int32)) w)
set_option maxHeartbeats 4000000 in
set_option maxRecDepth 100000 in
theorem ss_ho_dumb_0 {E : Nat × (Nat → Int32)}   (w : sm_Mem) : sm_Sim E (mi_ho_dumb) 0 [some (.ref 0), none, none] [] w (ff_ho_dumb   w) := by
  unfold ff_ho_dumb
  refine sm_aload_n ii_ho_dumb_0 rfl ?_
  refine sm_getR 36 ii_ho_dumb_1 fl_ho_31 (k := 0) rfl ?_
  refine sm_getI ii_ho_dumb_4 fl_ho_115 (k := 36) rfl ?_
  refine sm_if_ne 13 ii_ho_dumb_7 (by decide) ?_ ?_
  · refine sm_bipush (-4 : Int32) ii_ho_dumb_10 (by decide) ?_
    exact sm_iret ii_ho_dumb_12 rfl
  · refine sm_iconst (1 : Int32) ii_ho_dumb_13 (by decide) ?_
    refine sm_istore_n [some (.ref 0), some (.int (1 : Int32)), none] ii_ho_dumb_14 rfl rfl ?_
    exact ss_ho_dumb_15 ((1 : Int32)) w
set_option maxHeartbeats 4000000 in
set_option maxRecDepth 100000 in
theorem mc_ho_dumb  (w : sm_Mem) : sm_MC mi_ho_dumb [.ref 0] w (ff_ho_dumb  w) := sm_MC_of (0, fun _ => 0) (by decide +kernel) (by decide) rfl (Nat.le_of_ble_eq_true rfl) (ss_ho_dumb_0  w)
abbrev mi_mo_sixes : sm_MI := (⟨"HerOrdersModel", "sixes", "(I)I"⟩, prog_9_method_73_code, 3, (some .int), 1)
set_option maxRecDepth 100000 in
theorem mf_mo_sixes : sm_MF mi_mo_sixes 1 := ⟨List.mem_of_getElem? (i := 1314) (by decide +kernel), List.mem_of_getElem? (i := 132) (by decide +kernel), ⟨by decide, by decide⟩, by decide +kernel⟩
set_option maxRecDepth 100000 in
theorem mv_mo_sixes : sm_MFS mi_mo_sixes := List.mem_of_getElem? (i := 1313) (by decide +kernel)
set_option maxRecDepth 100000 in
theorem ii_mo_sixes_0 : sm_D prog_9_method_73_code 0 1 1 (.iconst 1) := ⟨by decide +kernel, rfl⟩
set_option maxRecDepth 100000 in
theorem ii_mo_sixes_1 : sm_D prog_9_method_73_code 1 1 2 (.istore_n 1) := ⟨by decide +kernel, rfl⟩
set_option maxRecDepth 100000 in
theorem ii_mo_sixes_2 : sm_D prog_9_method_73_code 2 1 3 (.iconst 0) := ⟨by decide +kernel, rfl⟩
set_option maxRecDepth 100000 in
theorem ii_mo_sixes_3 : sm_D prog_9_method_73_code 3 1 4 (.istore_n 2) := ⟨by decide +kernel, rfl⟩
set_option maxRecDepth 100000 in
theorem ii_mo_sixes_4 : sm_D prog_9_method_73_code 4 1 5 (.iload_n 2) := ⟨by decide +kernel, rfl⟩
set_option maxRecDepth 100000 in
theorem ii_mo_sixes_5 : sm_D prog_9_method_73_code 5 1 6 (.iload_n 0) := ⟨by decide +kernel, rfl⟩
set_option maxRecDepth 100000 in
theorem ii_mo_sixes_6 : sm_D prog_9_method_73_code 6 3 9 (.if_icmp .ge 14) := ⟨by decide +kernel, rfl⟩
set_option maxRecDepth 100000 in
theorem ii_mo_sixes_9 : sm_D prog_9_method_73_code 9 1 10 (.iload_n 1) := ⟨by decide +kernel, rfl⟩
set_option maxRecDepth 100000 in
theorem ii_mo_sixes_10 : sm_D prog_9_method_73_code 10 2 12 (.bipush 6) := ⟨by decide +kernel, rfl⟩
set_option maxRecDepth 100000 in
theorem ii_mo_sixes_12 : sm_D prog_9_method_73_code 12 1 13 (.imul) := ⟨by decide +kernel, rfl⟩
set_option maxRecDepth 100000 in
theorem ii_mo_sixes_13 : sm_D prog_9_method_73_code 13 1 14 (.istore_n 1) := ⟨by decide +kernel, rfl⟩
set_option maxRecDepth 100000 in
theorem ii_mo_sixes_14 : sm_D prog_9_method_73_code 14 3 17 (.iinc 2 1) := ⟨by decide +kernel, rfl⟩
set_option maxRecDepth 100000 in
theorem ii_mo_sixes_17 : sm_D prog_9_method_73_code 17 3 20 (.goto (-13)) := ⟨by decide +kernel, rfl⟩
set_option maxRecDepth 100000 in
theorem ii_mo_sixes_20 : sm_D prog_9_method_73_code 20 1 21 (.iload_n 1) := ⟨by decide +kernel, rfl⟩
set_option maxRecDepth 100000 in
theorem ii_mo_sixes_21 : sm_D prog_9_method_73_code 21 1 22 (.ireturn) := ⟨by decide +kernel, rfl⟩
noncomputable def ff_mo_sixes_4_b  (self4 : Int32 → Int32 → Int32 → sm_Mem → sm_R) (a0 : Int32) (a1 : Int32) (a2 : Int32) (w : sm_Mem) : sm_R := (if a0 ≤ a2 then (some (.int a1, w)) else self4 (a0) ((a1 * (6 : Int32))) ((a2 + (1 : Int32))) w)
noncomputable def ff_mo_sixes_4_f  : Nat → Int32 → Int32 → Int32 → sm_Mem → sm_R
  | 0, _, _, _, _ => none
  | n + 1, a0, a1, a2, w => ff_mo_sixes_4_b  (ff_mo_sixes_4_f  n) a0 a1 a2 w
noncomputable def ff_mo_sixes_4  (a0 : Int32) (a1 : Int32) (a2 : Int32) (w : sm_Mem) : sm_R := ff_mo_sixes_4_f  sm_N a0 a1 a2 w
set_option maxHeartbeats 4000000 in
set_option maxRecDepth 100000 in
theorem ss_mo_sixes_4_b {E : Nat × (Nat → Int32)}  (self4 : Int32 → Int32 → Int32 → sm_Mem → sm_R) (hself4 : ∀ (a0 : Int32) (a1 : Int32) (a2 : Int32) (w : sm_Mem), sm_Sim E (mi_mo_sixes) 4 [some (.int a0), some (.int a1), some (.int a2)] [] w (self4 a0 a1 a2 w)) (a0 : Int32) (a1 : Int32) (a2 : Int32) (w : sm_Mem) : sm_Sim E (mi_mo_sixes) 4 [some (.int a0), some (.int a1), some (.int a2)] [] w (ff_mo_sixes_4_b  self4 a0 a1 a2 w) := by
  unfold ff_mo_sixes_4_b
  refine sm_iload_n ii_mo_sixes_4 rfl ?_
  refine sm_iload_n ii_mo_sixes_5 rfl ?_
  refine sm_icmp_ge 20 ii_mo_sixes_6 (by decide) ?_ ?_
  · refine sm_iload_n ii_mo_sixes_20 rfl ?_
    exact sm_iret ii_mo_sixes_21 rfl
  · refine sm_iload_n ii_mo_sixes_9 rfl ?_
    refine sm_bipush (6 : Int32) ii_mo_sixes_10 (by decide) ?_
    refine sm_imul ii_mo_sixes_12 ?_
    refine sm_istore_n [some (.int a0), some (.int (a1 * (6 : Int32))), some (.int a2)] ii_mo_sixes_13 rfl rfl ?_
    refine sm_iinc (a2 + (1 : Int32)) [some (.int a0), some (.int (a1 * (6 : Int32))), some (.int (a2 + (1 : Int32)))] ii_mo_sixes_14 rfl rfl rfl rfl ?_
    refine sm_goto 4 ii_mo_sixes_17 (by decide) ?_
    exact hself4 (a0) ((a1 * (6 : Int32))) ((a2 + (1 : Int32))) w
set_option maxHeartbeats 4000000 in
set_option maxRecDepth 100000 in
theorem ss_mo_sixes_4_f {E : Nat × (Nat → Int32)}  : ∀ (n : Nat) (a0 : Int32) (a1 : Int32) (a2 : Int32) (w : sm_Mem), sm_Sim E (mi_mo_sixes) 4 [some (.int a0), some (.int a1), some (.int a2)] [] w (ff_mo_sixes_4_f  n a0 a1 a2 w)
  | 0, _, _, _, _ => fun _ _ h => by cases h
  | n + 1, a0, a1, a2, w => ss_mo_sixes_4_b  _ (ss_mo_sixes_4_f  n) a0 a1 a2 w
set_option maxHeartbeats 4000000 in
set_option maxRecDepth 100000 in
theorem ss_mo_sixes_4 {E : Nat × (Nat → Int32)}  (a0 : Int32) (a1 : Int32) (a2 : Int32) (w : sm_Mem) : sm_Sim E (mi_mo_sixes) 4 [some (.int a0), some (.int a1), some (.int a2)] [] w (ff_mo_sixes_4  a0 a1 a2 w) := ss_mo_sixes_4_f  sm_N a0 a1 a2 w
noncomputable def ff_mo_sixes  (a0 : Int32) (w : sm_Mem) : sm_R := ff_mo_sixes_4 (a0) ((1 : Int32)) ((0 : Int32)) w
set_option maxHeartbeats 4000000 in
set_option maxRecDepth 100000 in
theorem ss_mo_sixes_0 {E : Nat × (Nat → Int32)}  (a0 : Int32) (w : sm_Mem) : sm_Sim E (mi_mo_sixes) 0 [some (.int a0), none, none] [] w (ff_mo_sixes  a0 w) := by
  unfold ff_mo_sixes
  refine sm_iconst (1 : Int32) ii_mo_sixes_0 (by decide) ?_
  refine sm_istore_n [some (.int a0), some (.int (1 : Int32)), none] ii_mo_sixes_1 rfl rfl ?_
  refine sm_iconst (0 : Int32) ii_mo_sixes_2 (by decide) ?_
  refine sm_istore_n [some (.int a0), some (.int (1 : Int32)), some (.int (0 : Int32))] ii_mo_sixes_3 rfl rfl ?_
  exact ss_mo_sixes_4 (a0) ((1 : Int32)) ((0 : Int32)) w
set_option maxHeartbeats 4000000 in
set_option maxRecDepth 100000 in
theorem mc_mo_sixes (a0 : Int32) (w : sm_Mem) : sm_MC mi_mo_sixes [.int a0] w (ff_mo_sixes a0 w) := sm_MC_of (0, fun _ => 0) (by decide +kernel) (by decide) rfl (Nat.le_of_ble_eq_true rfl) (ss_mo_sixes_0 a0 w)
abbrev mi_mo_layNumber : sm_MI := (⟨"HerOrdersModel", "layNumber", "(II)V"⟩, prog_9_method_74_code, 5, none, 1)
set_option maxRecDepth 100000 in
theorem mf_mo_layNumber : sm_MF mi_mo_layNumber 2 := ⟨List.mem_of_getElem? (i := 1318) (by decide +kernel), List.mem_of_getElem? (i := 132) (by decide +kernel), ⟨by decide, by decide⟩, by decide +kernel⟩
set_option maxRecDepth 100000 in
theorem mv_mo_layNumber : sm_MFV mi_mo_layNumber := ⟨List.mem_of_getElem? (i := 1317) (by decide +kernel), List.mem_of_getElem? (i := 109) (by decide +kernel)⟩
set_option maxRecDepth 100000 in
theorem ii_mo_layNumber_0 : sm_D prog_9_method_74_code 0 1 1 (.iload_n 1) := ⟨by decide +kernel, rfl⟩
set_option maxRecDepth 100000 in
theorem ii_mo_layNumber_1 : sm_D prog_9_method_74_code 1 1 2 (.istore_n 3) := ⟨by decide +kernel, rfl⟩
set_option maxRecDepth 100000 in
theorem ii_mo_layNumber_2 : sm_D prog_9_method_74_code 2 1 3 (.aload_n 0) := ⟨by decide +kernel, rfl⟩
set_option maxRecDepth 100000 in
theorem ii_mo_layNumber_3 : sm_D prog_9_method_74_code 3 1 4 (.iload_n 2) := ⟨by decide +kernel, rfl⟩
set_option maxRecDepth 100000 in
theorem ii_mo_layNumber_4 : sm_D prog_9_method_74_code 4 3 7 (.putfield 208) := ⟨by decide +kernel, rfl⟩
set_option maxRecDepth 100000 in
theorem ii_mo_layNumber_7 : sm_D prog_9_method_74_code 7 1 8 (.iload_n 2) := ⟨by decide +kernel, rfl⟩
set_option maxRecDepth 100000 in
theorem ii_mo_layNumber_8 : sm_D prog_9_method_74_code 8 1 9 (.iconst 1) := ⟨by decide +kernel, rfl⟩
set_option maxRecDepth 100000 in
theorem ii_mo_layNumber_9 : sm_D prog_9_method_74_code 9 1 10 (.isub) := ⟨by decide +kernel, rfl⟩
set_option maxRecDepth 100000 in
theorem ii_mo_layNumber_10 : sm_D prog_9_method_74_code 10 2 12 (.istore 4) := ⟨by decide +kernel, rfl⟩
set_option maxRecDepth 100000 in
theorem ii_mo_layNumber_12 : sm_D prog_9_method_74_code 12 2 14 (.iload 4) := ⟨by decide +kernel, rfl⟩
set_option maxRecDepth 100000 in
theorem ii_mo_layNumber_14 : sm_D prog_9_method_74_code 14 3 17 (.ifCond .lt 34) := ⟨by decide +kernel, rfl⟩
set_option maxRecDepth 100000 in
theorem ii_mo_layNumber_17 : sm_D prog_9_method_74_code 17 1 18 (.aload_n 0) := ⟨by decide +kernel, rfl⟩
set_option maxRecDepth 100000 in
theorem ii_mo_layNumber_18 : sm_D prog_9_method_74_code 18 3 21 (.getfield 44) := ⟨by decide +kernel, rfl⟩
set_option maxRecDepth 100000 in
theorem ii_mo_layNumber_21 : sm_D prog_9_method_74_code 21 2 23 (.iload 4) := ⟨by decide +kernel, rfl⟩
set_option maxRecDepth 100000 in
theorem ii_mo_layNumber_23 : sm_D prog_9_method_74_code 23 1 24 (.iload_n 3) := ⟨by decide +kernel, rfl⟩
set_option maxRecDepth 100000 in
theorem ii_mo_layNumber_24 : sm_D prog_9_method_74_code 24 2 26 (.bipush 6) := ⟨by decide +kernel, rfl⟩
set_option maxRecDepth 100000 in
theorem ii_mo_layNumber_26 : sm_D prog_9_method_74_code 26 1 27 (.irem) := ⟨by decide +kernel, rfl⟩
set_option maxRecDepth 100000 in
theorem ii_mo_layNumber_27 : sm_D prog_9_method_74_code 27 1 28 (.iastore) := ⟨by decide +kernel, rfl⟩
set_option maxRecDepth 100000 in
theorem ii_mo_layNumber_28 : sm_D prog_9_method_74_code 28 1 29 (.aload_n 0) := ⟨by decide +kernel, rfl⟩
set_option maxRecDepth 100000 in
theorem ii_mo_layNumber_29 : sm_D prog_9_method_74_code 29 3 32 (.getfield 47) := ⟨by decide +kernel, rfl⟩
set_option maxRecDepth 100000 in
theorem ii_mo_layNumber_32 : sm_D prog_9_method_74_code 32 2 34 (.iload 4) := ⟨by decide +kernel, rfl⟩
set_option maxRecDepth 100000 in
theorem ii_mo_layNumber_34 : sm_D prog_9_method_74_code 34 2 36 (.bipush (-9)) := ⟨by decide +kernel, rfl⟩
set_option maxRecDepth 100000 in
theorem ii_mo_layNumber_36 : sm_D prog_9_method_74_code 36 1 37 (.iastore) := ⟨by decide +kernel, rfl⟩
set_option maxRecDepth 100000 in
theorem ii_mo_layNumber_37 : sm_D prog_9_method_74_code 37 1 38 (.iload_n 3) := ⟨by decide +kernel, rfl⟩
set_option maxRecDepth 100000 in
theorem ii_mo_layNumber_38 : sm_D prog_9_method_74_code 38 2 40 (.bipush 6) := ⟨by decide +kernel, rfl⟩
set_option maxRecDepth 100000 in
theorem ii_mo_layNumber_40 : sm_D prog_9_method_74_code 40 1 41 (.idiv) := ⟨by decide +kernel, rfl⟩
set_option maxRecDepth 100000 in
theorem ii_mo_layNumber_41 : sm_D prog_9_method_74_code 41 1 42 (.istore_n 3) := ⟨by decide +kernel, rfl⟩
set_option maxRecDepth 100000 in
theorem ii_mo_layNumber_42 : sm_D prog_9_method_74_code 42 3 45 (.iinc 4 (-1)) := ⟨by decide +kernel, rfl⟩
set_option maxRecDepth 100000 in
theorem ii_mo_layNumber_45 : sm_D prog_9_method_74_code 45 3 48 (.goto (-33)) := ⟨by decide +kernel, rfl⟩
set_option maxRecDepth 100000 in
theorem ii_mo_layNumber_48 : sm_D prog_9_method_74_code 48 1 49 (.aload_n 0) := ⟨by decide +kernel, rfl⟩
set_option maxRecDepth 100000 in
theorem ii_mo_layNumber_49 : sm_D prog_9_method_74_code 49 1 50 (.aload_n 0) := ⟨by decide +kernel, rfl⟩
set_option maxRecDepth 100000 in
theorem ii_mo_layNumber_50 : sm_D prog_9_method_74_code 50 3 53 (.getfield 135) := ⟨by decide +kernel, rfl⟩
set_option maxRecDepth 100000 in
theorem ii_mo_layNumber_53 : sm_D prog_9_method_74_code 53 3 56 (.putfield 211) := ⟨by decide +kernel, rfl⟩
set_option maxRecDepth 100000 in
theorem ii_mo_layNumber_56 : sm_D prog_9_method_74_code 56 1 57 (.aload_n 0) := ⟨by decide +kernel, rfl⟩
set_option maxRecDepth 100000 in
theorem ii_mo_layNumber_57 : sm_D prog_9_method_74_code 57 1 58 (.iconst 0) := ⟨by decide +kernel, rfl⟩
set_option maxRecDepth 100000 in
theorem ii_mo_layNumber_58 : sm_D prog_9_method_74_code 58 3 61 (.putfield 214) := ⟨by decide +kernel, rfl⟩
set_option maxRecDepth 100000 in
theorem ii_mo_layNumber_61 : sm_D prog_9_method_74_code 61 1 62 (.return_) := ⟨by decide +kernel, rfl⟩
noncomputable def ff_mo_layNumber_12_b  (self12 : Int32 → Int32 → sm_Mem → sm_R) (a3 : Int32) (a4 : Int32) (w : sm_Mem) : sm_R := (if a4 < (0 : Int32) then (sm_let (sm_wI w 62 22 (w.1 62 1)) fun w1 => (sm_let (sm_wI w1 62 23 (0 : Int32)) fun w2 => (some (.null, w2)))) else (if (6 : Int32) = (0 : Int32) then none else (Option.bind (sm_wr w 73 5 a4 (a3 - a3 / (6 : Int32) * (6 : Int32))) fun w4 => (Option.bind (sm_wr w4 74 5 a4 (-9 : Int32)) fun w5 => (if (6 : Int32) = (0 : Int32) then none else self12 ((a3 / (6 : Int32))) ((a4 + (-1 : Int32))) w5)))))
noncomputable def ff_mo_layNumber_12_f  : Nat → Int32 → Int32 → sm_Mem → sm_R
  | 0, _, _, _ => none
  | n + 1, a3, a4, w => ff_mo_layNumber_12_b  (ff_mo_layNumber_12_f  n) a3 a4 w
noncomputable def ff_mo_layNumber_12  (a3 : Int32) (a4 : Int32) (w : sm_Mem) : sm_R := ff_mo_layNumber_12_f  sm_N a3 a4 w
set_option maxHeartbeats 4000000 in
set_option maxRecDepth 100000 in
theorem ss_mo_layNumber_12_b {E : Nat × (Nat → Int32)}  (self12 : Int32 → Int32 → sm_Mem → sm_R) (hself12 : ∀ (a3 : Int32) (a4 : Int32) (w : sm_Mem), sm_Sim E (mi_mo_layNumber) 12 [some (.ref 62), none, none, some (.int a3), some (.int a4)] [] w (self12 a3 a4 w)) (a3 : Int32) (a4 : Int32) (w : sm_Mem) : sm_Sim E (mi_mo_layNumber) 12 [some (.ref 62), none, none, some (.int a3), some (.int a4)] [] w (ff_mo_layNumber_12_b  self12 a3 a4 w) := by
  unfold ff_mo_layNumber_12_b
  refine sm_iload ii_mo_layNumber_12 rfl ?_
  refine sm_if_lt 48 ii_mo_layNumber_14 (by decide) ?_ ?_
  · refine sm_aload_n ii_mo_layNumber_48 rfl ?_
    refine sm_aload_n ii_mo_layNumber_49 rfl ?_
    refine sm_getI ii_mo_layNumber_50 fl_mo_135 (k := 62) rfl ?_
    refine sm_putI ii_mo_layNumber_53 fp_mo_211 (k := 62) rfl (fun w1 => ?_)
    refine sm_aload_n ii_mo_layNumber_56 rfl ?_
    refine sm_iconst (0 : Int32) ii_mo_layNumber_57 (by decide) ?_
    refine sm_putI ii_mo_layNumber_58 fp_mo_214 (k := 62) rfl (fun w2 => ?_)
    exact sm_vret ii_mo_layNumber_61 rfl
  · refine sm_aload_n ii_mo_layNumber_17 rfl ?_
    refine sm_getR 73 ii_mo_layNumber_18 fl_mo_44 (k := 62) rfl ?_
    refine sm_iload ii_mo_layNumber_21 rfl ?_
    refine sm_iload_n ii_mo_layNumber_23 rfl ?_
    refine sm_bipush (6 : Int32) ii_mo_layNumber_24 (by decide) ?_
    refine sm_irem ii_mo_layNumber_26 ?_
    refine sm_iast ii_mo_layNumber_27 (k := 73) rfl (fun w4 => ?_)
    refine sm_aload_n ii_mo_layNumber_28 rfl ?_
    refine sm_getR 74 ii_mo_layNumber_29 fl_mo_47 (k := 62) rfl ?_
    refine sm_iload ii_mo_layNumber_32 rfl ?_
    refine sm_bipush (-9 : Int32) ii_mo_layNumber_34 (by decide) ?_
    refine sm_iast ii_mo_layNumber_36 (k := 74) rfl (fun w5 => ?_)
    refine sm_iload_n ii_mo_layNumber_37 rfl ?_
    refine sm_bipush (6 : Int32) ii_mo_layNumber_38 (by decide) ?_
    refine sm_idiv ii_mo_layNumber_40 ?_
    refine sm_istore_n [some (.ref 62), none, none, some (.int (a3 / (6 : Int32))), some (.int a4)] ii_mo_layNumber_41 rfl rfl ?_
    refine sm_iinc (a4 + (-1 : Int32)) [some (.ref 62), none, none, some (.int (a3 / (6 : Int32))), some (.int (a4 + (-1 : Int32)))] ii_mo_layNumber_42 rfl rfl rfl rfl ?_
    refine sm_goto 12 ii_mo_layNumber_45 (by decide) ?_
    exact hself12 ((a3 / (6 : Int32))) ((a4 + (-1 : Int32))) w5
set_option maxHeartbeats 4000000 in
set_option maxRecDepth 100000 in
theorem ss_mo_layNumber_12_f {E : Nat × (Nat → Int32)}  : ∀ (n : Nat) (a3 : Int32) (a4 : Int32) (w : sm_Mem), sm_Sim E (mi_mo_layNumber) 12 [some (.ref 62), none, none, some (.int a3), some (.int a4)] [] w (ff_mo_layNumber_12_f  n a3 a4 w)
  | 0, _, _, _ => fun _ _ h => by cases h
  | n + 1, a3, a4, w => ss_mo_layNumber_12_b  _ (ss_mo_layNumber_12_f  n) a3 a4 w
set_option maxHeartbeats 4000000 in
set_option maxRecDepth 100000 in
theorem ss_mo_layNumber_12 {E : Nat × (Nat → Int32)}  (a3 : Int32) (a4 : Int32) (w : sm_Mem) : sm_Sim E (mi_mo_layNumber) 12 [some (.ref 62), none, none, some (.int a3), some (.int a4)] [] w (ff_mo_layNumber_12  a3 a4 w) := ss_mo_layNumber_12_f  sm_N a3 a4 w
noncomputable def ff_mo_layNumber  (a1 : Int32) (a2 : Int32) (w : sm_Mem) : sm_R := (sm_let (sm_wI w 62 21 a2) fun w7 => ff_mo_layNumber_12 (a1) ((a2 - (1 : Int32))) w7)
set_option maxHeartbeats 4000000 in
set_option maxRecDepth 100000 in
theorem ss_mo_layNumber_0 {E : Nat × (Nat → Int32)}  (a1 : Int32) (a2 : Int32) (w : sm_Mem) : sm_Sim E (mi_mo_layNumber) 0 [some (.ref 62), some (.int a1), some (.int a2), none, none] [] w (ff_mo_layNumber  a1 a2 w) := by
  unfold ff_mo_layNumber
  refine sm_iload_n ii_mo_layNumber_0 rfl ?_
  refine sm_istore_n [some (.ref 62), some (.int a1), some (.int a2), some (.int a1), none] ii_mo_layNumber_1 rfl rfl ?_
  refine sm_aload_n ii_mo_layNumber_2 rfl ?_
  refine sm_iload_n ii_mo_layNumber_3 rfl ?_
  refine sm_putI ii_mo_layNumber_4 fp_mo_208 (k := 62) rfl (fun w7 => ?_)
  refine sm_iload_n ii_mo_layNumber_7 rfl ?_
  refine sm_iconst (1 : Int32) ii_mo_layNumber_8 (by decide) ?_
  refine sm_isub ii_mo_layNumber_9 ?_
  refine sm_istore [some (.ref 62), some (.int a1), some (.int a2), some (.int a1), some (.int (a2 - (1 : Int32)))] ii_mo_layNumber_10 rfl rfl ?_
  refine sm_msk [true, false, false, true, true] [some (.ref 62), none, none, some (.int a1), some (.int (a2 - (1 : Int32)))] rfl ?_
  exact ss_mo_layNumber_12 (a1) ((a2 - (1 : Int32))) w7
set_option maxHeartbeats 4000000 in
set_option maxRecDepth 100000 in
theorem mc_mo_layNumber (a1 : Int32) (a2 : Int32) (w : sm_Mem) : sm_MC mi_mo_layNumber [.ref 62, .int a1, .int a2] w (ff_mo_layNumber a1 a2 w) := sm_MC_of (0, fun _ => 0) (by decide +kernel) (by decide) rfl (Nat.le_of_ble_eq_true rfl) (ss_mo_layNumber_0 a1 a2 w)
abbrev mi_mo_dumb : sm_MI := (⟨"HerOrdersModel", "dumb", "()I"⟩, prog_9_method_75_code, 3, (some .int), 7)
set_option maxRecDepth 100000 in
theorem mf_mo_dumb : sm_MF mi_mo_dumb 0 := ⟨List.mem_of_getElem? (i := 1311) (by decide +kernel), List.mem_of_getElem? (i := 132) (by decide +kernel), ⟨by decide, by decide⟩, by decide +kernel⟩
set_option maxRecDepth 100000 in
theorem mv_mo_dumb : sm_MFV mi_mo_dumb := ⟨List.mem_of_getElem? (i := 1309) (by decide +kernel), List.mem_of_getElem? (i := 1310) (by decide +kernel)⟩
set_option maxRecDepth 100000 in
theorem ii_mo_dumb_0 : sm_D prog_9_method_75_code 0 1 1 (.aload_n 0) := ⟨by decide +kernel, rfl⟩
set_option maxRecDepth 100000 in
theorem ii_mo_dumb_1 : sm_D prog_9_method_75_code 1 3 4 (.getfield 135) := ⟨by decide +kernel, rfl⟩
set_option maxRecDepth 100000 in
theorem ii_mo_dumb_4 : sm_D prog_9_method_75_code 4 3 7 (.ifCond .ne 6) := ⟨by decide +kernel, rfl⟩
set_option maxRecDepth 100000 in
theorem ii_mo_dumb_7 : sm_D prog_9_method_75_code 7 2 9 (.bipush (-4)) := ⟨by decide +kernel, rfl⟩
set_option maxRecDepth 100000 in
theorem ii_mo_dumb_9 : sm_D prog_9_method_75_code 9 1 10 (.ireturn) := ⟨by decide +kernel, rfl⟩
set_option maxRecDepth 100000 in
theorem ii_mo_dumb_10 : sm_D prog_9_method_75_code 10 1 11 (.iconst 1) := ⟨by decide +kernel, rfl⟩
set_option maxRecDepth 100000 in
theorem ii_mo_dumb_11 : sm_D prog_9_method_75_code 11 1 12 (.istore_n 1) := ⟨by decide +kernel, rfl⟩
set_option maxRecDepth 100000 in
theorem ii_mo_dumb_12 : sm_D prog_9_method_75_code 12 1 13 (.iload_n 1) := ⟨by decide +kernel, rfl⟩
set_option maxRecDepth 100000 in
theorem ii_mo_dumb_13 : sm_D prog_9_method_75_code 13 1 14 (.iconst 4) := ⟨by decide +kernel, rfl⟩
set_option maxRecDepth 100000 in
theorem ii_mo_dumb_14 : sm_D prog_9_method_75_code 14 3 17 (.if_icmp .ge 45) := ⟨by decide +kernel, rfl⟩
set_option maxRecDepth 100000 in
theorem ii_mo_dumb_17 : sm_D prog_9_method_75_code 17 1 18 (.iconst 0) := ⟨by decide +kernel, rfl⟩
set_option maxRecDepth 100000 in
theorem ii_mo_dumb_18 : sm_D prog_9_method_75_code 18 1 19 (.istore_n 2) := ⟨by decide +kernel, rfl⟩
set_option maxRecDepth 100000 in
theorem ii_mo_dumb_19 : sm_D prog_9_method_75_code 19 1 20 (.iload_n 2) := ⟨by decide +kernel, rfl⟩
set_option maxRecDepth 100000 in
theorem ii_mo_dumb_20 : sm_D prog_9_method_75_code 20 1 21 (.iload_n 1) := ⟨by decide +kernel, rfl⟩
set_option maxRecDepth 100000 in
theorem ii_mo_dumb_21 : sm_D prog_9_method_75_code 21 3 24 (.invokestatic 257) := ⟨by decide +kernel, rfl⟩
set_option maxRecDepth 100000 in
theorem ii_mo_dumb_24 : sm_D prog_9_method_75_code 24 3 27 (.if_icmp .ge 29) := ⟨by decide +kernel, rfl⟩
set_option maxRecDepth 100000 in
theorem ii_mo_dumb_27 : sm_D prog_9_method_75_code 27 1 28 (.aload_n 0) := ⟨by decide +kernel, rfl⟩
set_option maxRecDepth 100000 in
theorem ii_mo_dumb_28 : sm_D prog_9_method_75_code 28 1 29 (.iload_n 2) := ⟨by decide +kernel, rfl⟩
set_option maxRecDepth 100000 in
theorem ii_mo_dumb_29 : sm_D prog_9_method_75_code 29 1 30 (.iload_n 1) := ⟨by decide +kernel, rfl⟩
set_option maxRecDepth 100000 in
theorem ii_mo_dumb_30 : sm_D prog_9_method_75_code 30 3 33 (.invokevirtual 260) := ⟨by decide +kernel, rfl⟩
set_option maxRecDepth 100000 in
theorem ii_mo_dumb_33 : sm_D prog_9_method_75_code 33 1 34 (.aload_n 0) := ⟨by decide +kernel, rfl⟩
set_option maxRecDepth 100000 in
theorem ii_mo_dumb_34 : sm_D prog_9_method_75_code 34 3 37 (.invokevirtual 251) := ⟨by decide +kernel, rfl⟩
set_option maxRecDepth 100000 in
theorem ii_mo_dumb_37 : sm_D prog_9_method_75_code 37 3 40 (.ifCond .ne 10) := ⟨by decide +kernel, rfl⟩
set_option maxRecDepth 100000 in
theorem ii_mo_dumb_40 : sm_D prog_9_method_75_code 40 1 41 (.aload_n 0) := ⟨by decide +kernel, rfl⟩
set_option maxRecDepth 100000 in
theorem ii_mo_dumb_41 : sm_D prog_9_method_75_code 41 1 42 (.iload_n 2) := ⟨by decide +kernel, rfl⟩
set_option maxRecDepth 100000 in
theorem ii_mo_dumb_42 : sm_D prog_9_method_75_code 42 3 45 (.putfield 66) := ⟨by decide +kernel, rfl⟩
set_option maxRecDepth 100000 in
theorem ii_mo_dumb_45 : sm_D prog_9_method_75_code 45 1 46 (.iload_n 1) := ⟨by decide +kernel, rfl⟩
set_option maxRecDepth 100000 in
theorem ii_mo_dumb_46 : sm_D prog_9_method_75_code 46 1 47 (.ireturn) := ⟨by decide +kernel, rfl⟩
set_option maxRecDepth 100000 in
theorem ii_mo_dumb_47 : sm_D prog_9_method_75_code 47 3 50 (.iinc 2 1) := ⟨by decide +kernel, rfl⟩
set_option maxRecDepth 100000 in
theorem ii_mo_dumb_50 : sm_D prog_9_method_75_code 50 3 53 (.goto (-31)) := ⟨by decide +kernel, rfl⟩
set_option maxRecDepth 100000 in
theorem ii_mo_dumb_53 : sm_D prog_9_method_75_code 53 3 56 (.iinc 1 1) := ⟨by decide +kernel, rfl⟩
set_option maxRecDepth 100000 in
theorem ii_mo_dumb_56 : sm_D prog_9_method_75_code 56 3 59 (.goto (-44)) := ⟨by decide +kernel, rfl⟩
set_option maxRecDepth 100000 in
theorem ii_mo_dumb_59 : sm_D prog_9_method_75_code 59 2 61 (.bipush (-9)) := ⟨by decide +kernel, rfl⟩
set_option maxRecDepth 100000 in
theorem ii_mo_dumb_61 : sm_D prog_9_method_75_code 61 1 62 (.ireturn) := ⟨by decide +kernel, rfl⟩
noncomputable def ff_mo_dumb_19_b (self12 : Int32 → sm_Mem → sm_R) (self19 : Int32 → Int32 → sm_Mem → sm_R) (a1 : Int32) (a2 : Int32) (w : sm_Mem) : sm_R := (sm_cI (ff_mo_sixes (a1) w) fun x1 w2 => (if x1 ≤ a2 then self12 ((a1 + (1 : Int32))) w2 else (sm_cV (ff_mo_layNumber (a2) (a1) w2) fun w4 => (sm_cI (ff_mo_hasWay  w4) fun x5 w6 => (if x5 = (0 : Int32) then (sm_let (sm_wI w6 62 9 a2) fun w7 => (some (.int a1, w7))) else self19 (a1) ((a2 + (1 : Int32))) w6)))))
noncomputable def ff_mo_dumb_19_f (self12 : Int32 → sm_Mem → sm_R) : Nat → Int32 → Int32 → sm_Mem → sm_R
  | 0, _, _, _ => none
  | n + 1, a1, a2, w => ff_mo_dumb_19_b self12 (ff_mo_dumb_19_f self12 n) a1 a2 w
noncomputable def ff_mo_dumb_19 (self12 : Int32 → sm_Mem → sm_R) (a1 : Int32) (a2 : Int32) (w : sm_Mem) : sm_R := ff_mo_dumb_19_f self12 sm_N a1 a2 w
set_option maxHeartbeats 4000000 in
set_option maxRecDepth 100000 in
theorem ss_mo_dumb_19_b {E : Nat × (Nat → Int32)} (self12 : Int32 → sm_Mem → sm_R) (hself12 : ∀ (a1 : Int32) (w : sm_Mem), sm_Sim E (mi_mo_dumb) 12 [some (.ref 62), some (.int a1), none] [] w (self12 a1 w)) (self19 : Int32 → Int32 → sm_Mem → sm_R) (hself19 : ∀ (a1 : Int32) (a2 : Int32) (w : sm_Mem), sm_Sim E (mi_mo_dumb) 19 [some (.ref 62), some (.int a1), some (.int a2)] [] w (self19 a1 a2 w)) (a1 : Int32) (a2 : Int32) (w : sm_Mem) : sm_Sim E (mi_mo_dumb) 19 [some (.ref 62), some (.int a1), some (.int a2)] [] w (ff_mo_dumb_19_b self12 self19 a1 a2 w) := by
  unfold ff_mo_dumb_19_b
  refine sm_iload_n ii_mo_dumb_19 rfl ?_
  refine sm_iload_n ii_mo_dumb_20 rfl ?_
  refine sm_csI [.int a1] [.int a2] rfl ii_mo_dumb_21 ml_mo_257 (mf_mo_sixes) (mv_mo_sixes) (Nat.le_of_ble_eq_true rfl) rfl rfl rfl (mc_mo_sixes (a1) w) (fun x1 w2 => ?_)
  refine sm_icmp_ge 53 ii_mo_dumb_24 (by decide) ?_ ?_
  · refine sm_iinc (a1 + (1 : Int32)) [some (.ref 62), some (.int (a1 + (1 : Int32))), some (.int a2)] ii_mo_dumb_53 rfl rfl rfl rfl ?_
    refine sm_goto 12 ii_mo_dumb_56 (by decide) ?_
    refine sm_msk [true, true, false] [some (.ref 62), some (.int (a1 + (1 : Int32))), none] rfl ?_
    exact hself12 ((a1 + (1 : Int32))) w2
  · refine sm_aload_n ii_mo_dumb_27 rfl ?_
    refine sm_iload_n ii_mo_dumb_28 rfl ?_
    refine sm_iload_n ii_mo_dumb_29 rfl ?_
    refine sm_cvV [.int a2, .int a1] [] rfl ii_mo_dumb_30 ml_mo_260 (mf_mo_layNumber) (mv_mo_layNumber) (Nat.le_of_ble_eq_true rfl) rfl 7 rfl rfl rfl rfl (mc_mo_layNumber (a2) (a1) w2) (fun w4 => ?_)
    refine sm_aload_n ii_mo_dumb_33 rfl ?_
    refine sm_cvI [] [] rfl ii_mo_dumb_34 ml_mo_251 (mf_mo_hasWay) (mv_mo_hasWay) (Nat.le_of_ble_eq_true rfl) rfl 7 rfl rfl rfl rfl (mc_mo_hasWay  w4) (fun x5 w6 => ?_)
    refine sm_if_ne 47 ii_mo_dumb_37 (by decide) ?_ ?_
    · refine sm_aload_n ii_mo_dumb_40 rfl ?_
      refine sm_iload_n ii_mo_dumb_41 rfl ?_
      refine sm_putI ii_mo_dumb_42 fp_mo_66 (k := 62) rfl (fun w7 => ?_)
      refine sm_iload_n ii_mo_dumb_45 rfl ?_
      exact sm_iret ii_mo_dumb_46 rfl
    · refine sm_iinc (a2 + (1 : Int32)) [some (.ref 62), some (.int a1), some (.int (a2 + (1 : Int32)))] ii_mo_dumb_47 rfl rfl rfl rfl ?_
      refine sm_goto 19 ii_mo_dumb_50 (by decide) ?_
      exact hself19 (a1) ((a2 + (1 : Int32))) w6
set_option maxHeartbeats 4000000 in
set_option maxRecDepth 100000 in
theorem ss_mo_dumb_19_f {E : Nat × (Nat → Int32)} (self12 : Int32 → sm_Mem → sm_R) (hself12 : ∀ (a1 : Int32) (w : sm_Mem), sm_Sim E (mi_mo_dumb) 12 [some (.ref 62), some (.int a1), none] [] w (self12 a1 w)) : ∀ (n : Nat) (a1 : Int32) (a2 : Int32) (w : sm_Mem), sm_Sim E (mi_mo_dumb) 19 [some (.ref 62), some (.int a1), some (.int a2)] [] w (ff_mo_dumb_19_f self12 n a1 a2 w)
  | 0, _, _, _ => fun _ _ h => by cases h
  | n + 1, a1, a2, w => ss_mo_dumb_19_b self12 hself12 _ (ss_mo_dumb_19_f self12 hself12 n) a1 a2 w
set_option maxHeartbeats 4000000 in
set_option maxRecDepth 100000 in
theorem ss_mo_dumb_19 {E : Nat × (Nat → Int32)} (self12 : Int32 → sm_Mem → sm_R) (hself12 : ∀ (a1 : Int32) (w : sm_Mem), sm_Sim E (mi_mo_dumb) 12 [some (.ref 62), some (.int a1), none] [] w (self12 a1 w)) (a1 : Int32) (a2 : Int32) (w : sm_Mem) : sm_Sim E (mi_mo_dumb) 19 [some (.ref 62), some (.int a1), some (.int a2)] [] w (ff_mo_dumb_19 self12 a1 a2 w) := ss_mo_dumb_19_f self12 hself12 sm_N a1 a2 w
noncomputable def ff_mo_dumb_12_b  (self12 : Int32 → sm_Mem → sm_R) (a1 : Int32) (w : sm_Mem) : sm_R := (if (4 : Int32) ≤ a1 then (some (.int (-9 : Int32), w)) else ff_mo_dumb_19 self12 (a1) ((0 : Int32)) w)
noncomputable def ff_mo_dumb_12_f  : Nat → Int32 → sm_Mem → sm_R
  | 0, _, _ => none
  | n + 1, a1, w => ff_mo_dumb_12_b  (ff_mo_dumb_12_f  n) a1 w
noncomputable def ff_mo_dumb_12  (a1 : Int32) (w : sm_Mem) : sm_R := ff_mo_dumb_12_f  sm_N a1 w
set_option maxHeartbeats 4000000 in
set_option maxRecDepth 100000 in
theorem ss_mo_dumb_12_b {E : Nat × (Nat → Int32)}  (self12 : Int32 → sm_Mem → sm_R) (hself12 : ∀ (a1 : Int32) (w : sm_Mem), sm_Sim E (mi_mo_dumb) 12 [some (.ref 62), some (.int a1), none] [] w (self12 a1 w)) (a1 : Int32) (w : sm_Mem) : sm_Sim E (mi_mo_dumb) 12 [some (.ref 62), some (.int a1), none] [] w (ff_mo_dumb_12_b  self12 a1 w) := by
  unfold ff_mo_dumb_12_b
  refine sm_iload_n ii_mo_dumb_12 rfl ?_
  refine sm_iconst (4 : Int32) ii_mo_dumb_13 (by decide) ?_
  refine sm_icmp_ge 59 ii_mo_dumb_14 (by decide) ?_ ?_
  · refine sm_bipush (-9 : Int32) ii_mo_dumb_59 (by decide) ?_
    exact sm_iret ii_mo_dumb_61 rfl
  · refine sm_iconst (0 : Int32) ii_mo_dumb_17 (by decide) ?_
    refine sm_istore_n [some (.ref 62), some (.int a1), some (.int (0 : Int32))] ii_mo_dumb_18 rfl rfl ?_
    exact ss_mo_dumb_19 self12 hself12 (a1) ((0 : Int32)) w
set_option maxHeartbeats 4000000 in
set_option maxRecDepth 100000 in
theorem ss_mo_dumb_12_f {E : Nat × (Nat → Int32)}  : ∀ (n : Nat) (a1 : Int32) (w : sm_Mem), sm_Sim E (mi_mo_dumb) 12 [some (.ref 62), some (.int a1), none] [] w (ff_mo_dumb_12_f  n a1 w)
  | 0, _, _ => fun _ _ h => by cases h
  | n + 1, a1, w => ss_mo_dumb_12_b  _ (ss_mo_dumb_12_f  n) a1 w
set_option maxHeartbeats 4000000 in
set_option maxRecDepth 100000 in
theorem ss_mo_dumb_12 {E : Nat × (Nat → Int32)}  (a1 : Int32) (w : sm_Mem) : sm_Sim E (mi_mo_dumb) 12 [some (.ref 62), some (.int a1), none] [] w (ff_mo_dumb_12  a1 w) := ss_mo_dumb_12_f  sm_N a1 w
noncomputable def ff_mo_dumb   (w : sm_Mem) : sm_R := (if (w.1 62 1) = (0 : Int32) then (some (.int (-4 : Int32), w)) else ff_mo_dumb_12 ((1 : Int32)) w)
set_option maxHeartbeats 4000000 in
set_option maxRecDepth 100000 in
theorem ss_mo_dumb_0 {E : Nat × (Nat → Int32)}   (w : sm_Mem) : sm_Sim E (mi_mo_dumb) 0 [some (.ref 62), none, none] [] w (ff_mo_dumb   w) := by
  unfold ff_mo_dumb
  refine sm_aload_n ii_mo_dumb_0 rfl ?_
  refine sm_getI ii_mo_dumb_1 fl_mo_135 (k := 62) rfl ?_
  refine sm_if_ne 10 ii_mo_dumb_4 (by decide) ?_ ?_
  · refine sm_bipush (-4 : Int32) ii_mo_dumb_7 (by decide) ?_
    exact sm_iret ii_mo_dumb_9 rfl
  · refine sm_iconst (1 : Int32) ii_mo_dumb_10 (by decide) ?_
    refine sm_istore_n [some (.ref 62), some (.int (1 : Int32)), none] ii_mo_dumb_11 rfl rfl ?_
    exact ss_mo_dumb_12 ((1 : Int32)) w
set_option maxHeartbeats 4000000 in
set_option maxRecDepth 100000 in
theorem mc_mo_dumb  (w : sm_Mem) : sm_MC mi_mo_dumb [.ref 62] w (ff_mo_dumb  w) := sm_MC_of (0, fun _ => 0) (by decide +kernel) (by decide) rfl (Nat.le_of_ble_eq_true rfl) (ss_mo_dumb_0  w)
abbrev mi_tr_freeTurns (k : Nat) : sm_MI := (⟨"HerOrders$Trials", "freeTurns", "(I)I"⟩, prog_6_method_5_code, 4, (some .int), k)
set_option maxRecDepth 100000 in
theorem mf_tr_freeTurns_z : sm_MF (mi_tr_freeTurns 0) 1 := ⟨List.mem_of_getElem? (i := 727) (by decide +kernel), List.mem_of_getElem? (i := 130) (by decide +kernel), ⟨by decide, by decide⟩, by decide +kernel⟩
set_option maxRecDepth 100000 in
theorem mf_tr_freeTurns (k : Nat) : sm_MF (mi_tr_freeTurns k) 1 := mf_tr_freeTurns_z
set_option maxRecDepth 100000 in
theorem mv_tr_freeTurns_z : sm_MFV (mi_tr_freeTurns 0) := ⟨List.mem_of_getElem? (i := 726) (by decide +kernel), List.mem_of_getElem? (i := 44) (by decide +kernel)⟩
set_option maxRecDepth 100000 in
theorem mv_tr_freeTurns (k : Nat) : sm_MFV (mi_tr_freeTurns k) := mv_tr_freeTurns_z
set_option maxRecDepth 100000 in
theorem ii_tr_freeTurns_0 : sm_D prog_6_method_5_code 0 1 1 (.iload_n 1) := ⟨by decide +kernel, rfl⟩
set_option maxRecDepth 100000 in
theorem ii_tr_freeTurns_1 : sm_D prog_6_method_5_code 1 1 2 (.istore_n 2) := ⟨by decide +kernel, rfl⟩
set_option maxRecDepth 100000 in
theorem ii_tr_freeTurns_2 : sm_D prog_6_method_5_code 2 1 3 (.iconst 0) := ⟨by decide +kernel, rfl⟩
set_option maxRecDepth 100000 in
theorem ii_tr_freeTurns_3 : sm_D prog_6_method_5_code 3 1 4 (.istore_n 3) := ⟨by decide +kernel, rfl⟩
set_option maxRecDepth 100000 in
theorem ii_tr_freeTurns_4 : sm_D prog_6_method_5_code 4 1 5 (.iload_n 3) := ⟨by decide +kernel, rfl⟩
set_option maxRecDepth 100000 in
theorem ii_tr_freeTurns_5 : sm_D prog_6_method_5_code 5 1 6 (.aload_n 0) := ⟨by decide +kernel, rfl⟩
set_option maxRecDepth 100000 in
theorem ii_tr_freeTurns_6 : sm_D prog_6_method_5_code 6 3 9 (.getfield 9) := ⟨by decide +kernel, rfl⟩
set_option maxRecDepth 100000 in
theorem ii_tr_freeTurns_9 : sm_D prog_6_method_5_code 9 3 12 (.getfield 29) := ⟨by decide +kernel, rfl⟩
set_option maxRecDepth 100000 in
theorem ii_tr_freeTurns_12 : sm_D prog_6_method_5_code 12 3 15 (.if_icmp .ge 61) := ⟨by decide +kernel, rfl⟩
set_option maxRecDepth 100000 in
theorem ii_tr_freeTurns_15 : sm_D prog_6_method_5_code 15 1 16 (.iload_n 1) := ⟨by decide +kernel, rfl⟩
set_option maxRecDepth 100000 in
theorem ii_tr_freeTurns_16 : sm_D prog_6_method_5_code 16 1 17 (.iconst 4) := ⟨by decide +kernel, rfl⟩
set_option maxRecDepth 100000 in
theorem ii_tr_freeTurns_17 : sm_D prog_6_method_5_code 17 3 20 (.if_icmp .ge 56) := ⟨by decide +kernel, rfl⟩
set_option maxRecDepth 100000 in
theorem ii_tr_freeTurns_20 : sm_D prog_6_method_5_code 20 1 21 (.iload_n 2) := ⟨by decide +kernel, rfl⟩
set_option maxRecDepth 100000 in
theorem ii_tr_freeTurns_21 : sm_D prog_6_method_5_code 21 1 22 (.iconst 4) := ⟨by decide +kernel, rfl⟩
set_option maxRecDepth 100000 in
theorem ii_tr_freeTurns_22 : sm_D prog_6_method_5_code 22 3 25 (.if_icmp .ge 51) := ⟨by decide +kernel, rfl⟩
set_option maxRecDepth 100000 in
theorem ii_tr_freeTurns_25 : sm_D prog_6_method_5_code 25 1 26 (.aload_n 0) := ⟨by decide +kernel, rfl⟩
set_option maxRecDepth 100000 in
theorem ii_tr_freeTurns_26 : sm_D prog_6_method_5_code 26 3 29 (.getfield 9) := ⟨by decide +kernel, rfl⟩
set_option maxRecDepth 100000 in
theorem ii_tr_freeTurns_29 : sm_D prog_6_method_5_code 29 1 30 (.iload_n 3) := ⟨by decide +kernel, rfl⟩
set_option maxRecDepth 100000 in
theorem ii_tr_freeTurns_30 : sm_D prog_6_method_5_code 30 3 33 (.invokevirtual 55) := ⟨by decide +kernel, rfl⟩
set_option maxRecDepth 100000 in
theorem ii_tr_freeTurns_33 : sm_D prog_6_method_5_code 33 3 36 (.ifCond .ne 6) := ⟨by decide +kernel, rfl⟩
set_option maxRecDepth 100000 in
theorem ii_tr_freeTurns_36 : sm_D prog_6_method_5_code 36 3 39 (.goto 31) := ⟨by decide +kernel, rfl⟩
set_option maxRecDepth 100000 in
theorem ii_tr_freeTurns_39 : sm_D prog_6_method_5_code 39 1 40 (.aload_n 0) := ⟨by decide +kernel, rfl⟩
set_option maxRecDepth 100000 in
theorem ii_tr_freeTurns_40 : sm_D prog_6_method_5_code 40 3 43 (.getfield 9) := ⟨by decide +kernel, rfl⟩
set_option maxRecDepth 100000 in
theorem ii_tr_freeTurns_43 : sm_D prog_6_method_5_code 43 1 44 (.iload_n 3) := ⟨by decide +kernel, rfl⟩
set_option maxRecDepth 100000 in
theorem ii_tr_freeTurns_44 : sm_D prog_6_method_5_code 44 1 45 (.iconst 0) := ⟨by decide +kernel, rfl⟩
set_option maxRecDepth 100000 in
theorem ii_tr_freeTurns_45 : sm_D prog_6_method_5_code 45 3 48 (.invokevirtual 38) := ⟨by decide +kernel, rfl⟩
set_option maxRecDepth 100000 in
theorem ii_tr_freeTurns_48 : sm_D prog_6_method_5_code 48 1 49 (.iload_n 2) := ⟨by decide +kernel, rfl⟩
set_option maxRecDepth 100000 in
theorem ii_tr_freeTurns_49 : sm_D prog_6_method_5_code 49 1 50 (.aload_n 0) := ⟨by decide +kernel, rfl⟩
set_option maxRecDepth 100000 in
theorem ii_tr_freeTurns_50 : sm_D prog_6_method_5_code 50 1 51 (.iload_n 1) := ⟨by decide +kernel, rfl⟩
set_option maxRecDepth 100000 in
theorem ii_tr_freeTurns_51 : sm_D prog_6_method_5_code 51 1 52 (.iconst 1) := ⟨by decide +kernel, rfl⟩
set_option maxRecDepth 100000 in
theorem ii_tr_freeTurns_52 : sm_D prog_6_method_5_code 52 1 53 (.iadd) := ⟨by decide +kernel, rfl⟩
set_option maxRecDepth 100000 in
theorem ii_tr_freeTurns_53 : sm_D prog_6_method_5_code 53 3 56 (.invokevirtual 48) := ⟨by decide +kernel, rfl⟩
set_option maxRecDepth 100000 in
theorem ii_tr_freeTurns_56 : sm_D prog_6_method_5_code 56 3 59 (.invokestatic 59) := ⟨by decide +kernel, rfl⟩
set_option maxRecDepth 100000 in
theorem ii_tr_freeTurns_59 : sm_D prog_6_method_5_code 59 1 60 (.istore_n 2) := ⟨by decide +kernel, rfl⟩
set_option maxRecDepth 100000 in
theorem ii_tr_freeTurns_60 : sm_D prog_6_method_5_code 60 1 61 (.aload_n 0) := ⟨by decide +kernel, rfl⟩
set_option maxRecDepth 100000 in
theorem ii_tr_freeTurns_61 : sm_D prog_6_method_5_code 61 3 64 (.getfield 9) := ⟨by decide +kernel, rfl⟩
set_option maxRecDepth 100000 in
theorem ii_tr_freeTurns_64 : sm_D prog_6_method_5_code 64 3 67 (.invokevirtual 42) := ⟨by decide +kernel, rfl⟩
set_option maxRecDepth 100000 in
theorem ii_tr_freeTurns_67 : sm_D prog_6_method_5_code 67 3 70 (.iinc 3 1) := ⟨by decide +kernel, rfl⟩
set_option maxRecDepth 100000 in
theorem ii_tr_freeTurns_70 : sm_D prog_6_method_5_code 70 3 73 (.goto (-66)) := ⟨by decide +kernel, rfl⟩
set_option maxRecDepth 100000 in
theorem ii_tr_freeTurns_73 : sm_D prog_6_method_5_code 73 1 74 (.iload_n 2) := ⟨by decide +kernel, rfl⟩
set_option maxRecDepth 100000 in
theorem ii_tr_freeTurns_74 : sm_D prog_6_method_5_code 74 1 75 (.ireturn) := ⟨by decide +kernel, rfl⟩
noncomputable def ff_tr_freeTurns_4_b (rc : Int32 → sm_Mem → sm_R)  (self4 : Int32 → Int32 → Int32 → sm_Mem → sm_R) (a1 : Int32) (a2 : Int32) (a3 : Int32) (w : sm_Mem) : sm_R := (if (w.1 36 0) ≤ a3 then (some (.int a2, w)) else (if (4 : Int32) ≤ a1 then (some (.int a2, w)) else (if (4 : Int32) ≤ a2 then (some (.int a2, w)) else (sm_cI (ff_hs_isFree (a3) w) fun x1 w2 => (if x1 = (0 : Int32) then self4 (a1) (a2) ((a3 + (1 : Int32))) w2 else (sm_cV (ff_hs_push (a3) ((0 : Int32)) w2) fun w4 => (sm_cI (rc ((a1 + (1 : Int32))) w4) fun x5 w6 => (sm_cV (ff_hs_pop  w6) fun w8 => self4 (a1) ((if a2 < x5 then x5 else a2)) ((a3 + (1 : Int32))) w8))))))))
noncomputable def ff_tr_freeTurns_4_f (rc : Int32 → sm_Mem → sm_R)  : Nat → Int32 → Int32 → Int32 → sm_Mem → sm_R
  | 0, _, _, _, _ => none
  | n + 1, a1, a2, a3, w => ff_tr_freeTurns_4_b rc  (ff_tr_freeTurns_4_f rc  n) a1 a2 a3 w
noncomputable def ff_tr_freeTurns_4 (rc : Int32 → sm_Mem → sm_R)  (a1 : Int32) (a2 : Int32) (a3 : Int32) (w : sm_Mem) : sm_R := ff_tr_freeTurns_4_f rc  sm_N a1 a2 a3 w
set_option maxHeartbeats 4000000 in
set_option maxRecDepth 100000 in
theorem ss_tr_freeTurns_4_b {E : Nat × (Nat → Int32)} {dn : Nat} (rc : Int32 → sm_Mem → sm_R) (hrc : ∀ (a1 : Int32) (w : sm_Mem), sm_MC (mi_tr_freeTurns (2 + dn)) [.ref 56, .int a1] w (rc a1 w))  (self4 : Int32 → Int32 → Int32 → sm_Mem → sm_R) (hself4 : ∀ (a1 : Int32) (a2 : Int32) (a3 : Int32) (w : sm_Mem), sm_Sim E (mi_tr_freeTurns (2 + dn + 1)) 4 [some (.ref 56), some (.int a1), some (.int a2), some (.int a3)] [] w (self4 a1 a2 a3 w)) (a1 : Int32) (a2 : Int32) (a3 : Int32) (w : sm_Mem) : sm_Sim E (mi_tr_freeTurns (2 + dn + 1)) 4 [some (.ref 56), some (.int a1), some (.int a2), some (.int a3)] [] w (ff_tr_freeTurns_4_b rc  self4 a1 a2 a3 w) := by
  unfold ff_tr_freeTurns_4_b
  refine sm_iload_n ii_tr_freeTurns_4 rfl ?_
  refine sm_aload_n ii_tr_freeTurns_5 rfl ?_
  refine sm_getR 36 ii_tr_freeTurns_6 fl_tr_9 (k := 56) rfl ?_
  refine sm_getI ii_tr_freeTurns_9 fl_tr_29 (k := 36) rfl ?_
  refine sm_icmp_ge 73 ii_tr_freeTurns_12 (by decide) ?_ ?_
  · refine sm_iload_n ii_tr_freeTurns_73 rfl ?_
    exact sm_iret ii_tr_freeTurns_74 rfl
  · refine sm_iload_n ii_tr_freeTurns_15 rfl ?_
    refine sm_iconst (4 : Int32) ii_tr_freeTurns_16 (by decide) ?_
    refine sm_icmp_ge 73 ii_tr_freeTurns_17 (by decide) ?_ ?_
    · refine sm_iload_n ii_tr_freeTurns_73 rfl ?_
      exact sm_iret ii_tr_freeTurns_74 rfl
    · refine sm_iload_n ii_tr_freeTurns_20 rfl ?_
      refine sm_iconst (4 : Int32) ii_tr_freeTurns_21 (by decide) ?_
      refine sm_icmp_ge 73 ii_tr_freeTurns_22 (by decide) ?_ ?_
      · refine sm_iload_n ii_tr_freeTurns_73 rfl ?_
        exact sm_iret ii_tr_freeTurns_74 rfl
      · refine sm_aload_n ii_tr_freeTurns_25 rfl ?_
        refine sm_getR 36 ii_tr_freeTurns_26 fl_tr_9 (k := 56) rfl ?_
        refine sm_iload_n ii_tr_freeTurns_29 rfl ?_
        refine sm_cvI [.int a3] [] rfl ii_tr_freeTurns_30 ml_tr_55 (mf_hs_isFree) (mv_hs_isFree) (sm_kle rfl) rfl 1 rfl rfl rfl rfl (mc_hs_isFree (a3) w) (fun x1 w2 => ?_)
        refine sm_if_ne 39 ii_tr_freeTurns_33 (by decide) ?_ ?_
        · refine sm_goto 67 ii_tr_freeTurns_36 (by decide) ?_
          refine sm_iinc (a3 + (1 : Int32)) [some (.ref 56), some (.int a1), some (.int a2), some (.int (a3 + (1 : Int32)))] ii_tr_freeTurns_67 rfl rfl rfl rfl ?_
          refine sm_goto 4 ii_tr_freeTurns_70 (by decide) ?_
          exact hself4 (a1) (a2) ((a3 + (1 : Int32))) w2
        · refine sm_aload_n ii_tr_freeTurns_39 rfl ?_
          refine sm_getR 36 ii_tr_freeTurns_40 fl_tr_9 (k := 56) rfl ?_
          refine sm_iload_n ii_tr_freeTurns_43 rfl ?_
          refine sm_iconst (0 : Int32) ii_tr_freeTurns_44 (by decide) ?_
          refine sm_cvV [.int a3, .int (0 : Int32)] [] rfl ii_tr_freeTurns_45 ml_tr_38 (mf_hs_push) (mv_hs_push) (sm_kle rfl) rfl 1 rfl rfl rfl rfl (mc_hs_push (a3) ((0 : Int32)) w2) (fun w4 => ?_)
          refine sm_iload_n ii_tr_freeTurns_48 rfl ?_
          refine sm_aload_n ii_tr_freeTurns_49 rfl ?_
          refine sm_iload_n ii_tr_freeTurns_50 rfl ?_
          refine sm_iconst (1 : Int32) ii_tr_freeTurns_51 (by decide) ?_
          refine sm_iadd ii_tr_freeTurns_52 ?_
          refine sm_cvI [.int (a1 + (1 : Int32))] [.int a2] rfl ii_tr_freeTurns_53 ml_tr_48 (mf_tr_freeTurns (2 + dn)) (mv_tr_freeTurns (2 + dn)) (Nat.le_refl _) rfl 4 rfl rfl rfl rfl (hrc ((a1 + (1 : Int32))) w4) (fun x5 w6 => ?_)
          refine sm_mmax ii_tr_freeTurns_56 mq_tr_59 mq_st_max mq_in mq_co_max (Nat.le_add_left 1 _) rfl ?_
          refine sm_istore_n [some (.ref 56), some (.int a1), some (.int (if a2 < x5 then x5 else a2)), some (.int a3)] ii_tr_freeTurns_59 rfl rfl ?_
          refine sm_aload_n ii_tr_freeTurns_60 rfl ?_
          refine sm_getR 36 ii_tr_freeTurns_61 fl_tr_9 (k := 56) rfl ?_
          refine sm_cvV [] [] rfl ii_tr_freeTurns_64 ml_tr_42 (mf_hs_pop) (mv_hs_pop) (sm_kle rfl) rfl 1 rfl rfl rfl rfl (mc_hs_pop  w6) (fun w8 => ?_)
          refine sm_iinc (a3 + (1 : Int32)) [some (.ref 56), some (.int a1), some (.int (if a2 < x5 then x5 else a2)), some (.int (a3 + (1 : Int32)))] ii_tr_freeTurns_67 rfl rfl rfl rfl ?_
          refine sm_goto 4 ii_tr_freeTurns_70 (by decide) ?_
          exact hself4 (a1) ((if a2 < x5 then x5 else a2)) ((a3 + (1 : Int32))) w8
set_option maxHeartbeats 4000000 in
set_option maxRecDepth 100000 in
theorem ss_tr_freeTurns_4_f {E : Nat × (Nat → Int32)} {dn : Nat} (rc : Int32 → sm_Mem → sm_R) (hrc : ∀ (a1 : Int32) (w : sm_Mem), sm_MC (mi_tr_freeTurns (2 + dn)) [.ref 56, .int a1] w (rc a1 w))  : ∀ (n : Nat) (a1 : Int32) (a2 : Int32) (a3 : Int32) (w : sm_Mem), sm_Sim E (mi_tr_freeTurns (2 + dn + 1)) 4 [some (.ref 56), some (.int a1), some (.int a2), some (.int a3)] [] w (ff_tr_freeTurns_4_f rc  n a1 a2 a3 w)
  | 0, _, _, _, _ => fun _ _ h => by cases h
  | n + 1, a1, a2, a3, w => ss_tr_freeTurns_4_b rc hrc  _ (ss_tr_freeTurns_4_f rc hrc  n) a1 a2 a3 w
set_option maxHeartbeats 4000000 in
set_option maxRecDepth 100000 in
theorem ss_tr_freeTurns_4 {E : Nat × (Nat → Int32)} {dn : Nat} (rc : Int32 → sm_Mem → sm_R) (hrc : ∀ (a1 : Int32) (w : sm_Mem), sm_MC (mi_tr_freeTurns (2 + dn)) [.ref 56, .int a1] w (rc a1 w))  (a1 : Int32) (a2 : Int32) (a3 : Int32) (w : sm_Mem) : sm_Sim E (mi_tr_freeTurns (2 + dn + 1)) 4 [some (.ref 56), some (.int a1), some (.int a2), some (.int a3)] [] w (ff_tr_freeTurns_4 rc  a1 a2 a3 w) := ss_tr_freeTurns_4_f rc hrc  sm_N a1 a2 a3 w
noncomputable def ff_tr_freeTurns_0 (rc : Int32 → sm_Mem → sm_R)  (a1 : Int32) (w : sm_Mem) : sm_R := ff_tr_freeTurns_4 rc (a1) (a1) ((0 : Int32)) w
set_option maxHeartbeats 4000000 in
set_option maxRecDepth 100000 in
theorem ss_tr_freeTurns_0 {E : Nat × (Nat → Int32)} {dn : Nat} (rc : Int32 → sm_Mem → sm_R) (hrc : ∀ (a1 : Int32) (w : sm_Mem), sm_MC (mi_tr_freeTurns (2 + dn)) [.ref 56, .int a1] w (rc a1 w))  (a1 : Int32) (w : sm_Mem) : sm_Sim E (mi_tr_freeTurns (2 + dn + 1)) 0 [some (.ref 56), some (.int a1), none, none] [] w (ff_tr_freeTurns_0 rc  a1 w) := by
  unfold ff_tr_freeTurns_0
  refine sm_iload_n ii_tr_freeTurns_0 rfl ?_
  refine sm_istore_n [some (.ref 56), some (.int a1), some (.int a1), none] ii_tr_freeTurns_1 rfl rfl ?_
  refine sm_iconst (0 : Int32) ii_tr_freeTurns_2 (by decide) ?_
  refine sm_istore_n [some (.ref 56), some (.int a1), some (.int a1), some (.int (0 : Int32))] ii_tr_freeTurns_3 rfl rfl ?_
  exact ss_tr_freeTurns_4 rc hrc (a1) (a1) ((0 : Int32)) w
noncomputable def ff_tr_freeTurns : Nat → Int32 → sm_Mem → sm_R
  | 0, _, _ => none
  | n + 1, a1, w => ff_tr_freeTurns_0 (ff_tr_freeTurns n) a1 w
set_option maxHeartbeats 4000000 in
set_option maxRecDepth 100000 in
theorem mc_tr_freeTurns : ∀ (n : Nat) (a1 : Int32) (w : sm_Mem), sm_MC (mi_tr_freeTurns (2 + n)) [.ref 56, .int a1] w (ff_tr_freeTurns n a1 w)
  | 0, _, _ => fun _ _ h => by cases h
  | n + 1, a1, w => sm_MC_of (0, fun _ => 0) (show plainName "HerOrders$Trials" = true by decide +kernel) (show ("HerOrders$Trials" : String) ≠ "HerOrdersLaw" by decide) rfl (Nat.le_of_ble_eq_true rfl) (ss_tr_freeTurns_0 (dn := n) _ (mc_tr_freeTurns n) a1 w)
abbrev mi_tr_keepBest : sm_MI := (⟨"HerOrders$Trials", "keepBest", "(I)V"⟩, prog_6_method_7_code, 3, none, 1)
set_option maxRecDepth 100000 in
theorem mf_tr_keepBest : sm_MF mi_tr_keepBest 1 := ⟨List.mem_of_getElem? (i := 737) (by decide +kernel), List.mem_of_getElem? (i := 130) (by decide +kernel), ⟨by decide, by decide⟩, by decide +kernel⟩
set_option maxRecDepth 100000 in
theorem mv_tr_keepBest : sm_MFV mi_tr_keepBest := ⟨List.mem_of_getElem? (i := 736) (by decide +kernel), List.mem_of_getElem? (i := 46) (by decide +kernel)⟩
set_option maxRecDepth 100000 in
theorem ii_tr_keepBest_0 : sm_D prog_6_method_7_code 0 1 1 (.aload_n 0) := ⟨by decide +kernel, rfl⟩
set_option maxRecDepth 100000 in
theorem ii_tr_keepBest_1 : sm_D prog_6_method_7_code 1 1 2 (.iload_n 1) := ⟨by decide +kernel, rfl⟩
set_option maxRecDepth 100000 in
theorem ii_tr_keepBest_2 : sm_D prog_6_method_7_code 2 3 5 (.putfield 45) := ⟨by decide +kernel, rfl⟩
set_option maxRecDepth 100000 in
theorem ii_tr_keepBest_5 : sm_D prog_6_method_7_code 5 1 6 (.iconst 0) := ⟨by decide +kernel, rfl⟩
set_option maxRecDepth 100000 in
theorem ii_tr_keepBest_6 : sm_D prog_6_method_7_code 6 1 7 (.istore_n 2) := ⟨by decide +kernel, rfl⟩
set_option maxRecDepth 100000 in
theorem ii_tr_keepBest_7 : sm_D prog_6_method_7_code 7 1 8 (.iload_n 2) := ⟨by decide +kernel, rfl⟩
set_option maxRecDepth 100000 in
theorem ii_tr_keepBest_8 : sm_D prog_6_method_7_code 8 1 9 (.iload_n 1) := ⟨by decide +kernel, rfl⟩
set_option maxRecDepth 100000 in
theorem ii_tr_keepBest_9 : sm_D prog_6_method_7_code 9 3 12 (.if_icmp .ge 21) := ⟨by decide +kernel, rfl⟩
set_option maxRecDepth 100000 in
theorem ii_tr_keepBest_12 : sm_D prog_6_method_7_code 12 1 13 (.aload_n 0) := ⟨by decide +kernel, rfl⟩
set_option maxRecDepth 100000 in
theorem ii_tr_keepBest_13 : sm_D prog_6_method_7_code 13 3 16 (.getfield 19) := ⟨by decide +kernel, rfl⟩
set_option maxRecDepth 100000 in
theorem ii_tr_keepBest_16 : sm_D prog_6_method_7_code 16 1 17 (.iload_n 2) := ⟨by decide +kernel, rfl⟩
set_option maxRecDepth 100000 in
theorem ii_tr_keepBest_17 : sm_D prog_6_method_7_code 17 1 18 (.aload_n 0) := ⟨by decide +kernel, rfl⟩
set_option maxRecDepth 100000 in
theorem ii_tr_keepBest_18 : sm_D prog_6_method_7_code 18 3 21 (.getfield 15) := ⟨by decide +kernel, rfl⟩
set_option maxRecDepth 100000 in
theorem ii_tr_keepBest_21 : sm_D prog_6_method_7_code 21 1 22 (.iload_n 2) := ⟨by decide +kernel, rfl⟩
set_option maxRecDepth 100000 in
theorem ii_tr_keepBest_22 : sm_D prog_6_method_7_code 22 1 23 (.iaload) := ⟨by decide +kernel, rfl⟩
set_option maxRecDepth 100000 in
theorem ii_tr_keepBest_23 : sm_D prog_6_method_7_code 23 1 24 (.iastore) := ⟨by decide +kernel, rfl⟩
set_option maxRecDepth 100000 in
theorem ii_tr_keepBest_24 : sm_D prog_6_method_7_code 24 3 27 (.iinc 2 1) := ⟨by decide +kernel, rfl⟩
set_option maxRecDepth 100000 in
theorem ii_tr_keepBest_27 : sm_D prog_6_method_7_code 27 3 30 (.goto (-20)) := ⟨by decide +kernel, rfl⟩
set_option maxRecDepth 100000 in
theorem ii_tr_keepBest_30 : sm_D prog_6_method_7_code 30 1 31 (.return_) := ⟨by decide +kernel, rfl⟩
noncomputable def ff_tr_keepBest_7_b  (self7 : Int32 → Int32 → sm_Mem → sm_R) (a1 : Int32) (a2 : Int32) (w : sm_Mem) : sm_R := (if a1 ≤ a2 then (some (.null, w)) else (Option.bind (sm_rd w 57 4 a2) fun x1 => (Option.bind (sm_wr w 58 4 a2 x1) fun w2 => self7 (a1) ((a2 + (1 : Int32))) w2)))
noncomputable def ff_tr_keepBest_7_f  : Nat → Int32 → Int32 → sm_Mem → sm_R
  | 0, _, _, _ => none
  | n + 1, a1, a2, w => ff_tr_keepBest_7_b  (ff_tr_keepBest_7_f  n) a1 a2 w
noncomputable def ff_tr_keepBest_7  (a1 : Int32) (a2 : Int32) (w : sm_Mem) : sm_R := ff_tr_keepBest_7_f  sm_N a1 a2 w
set_option maxHeartbeats 4000000 in
set_option maxRecDepth 100000 in
theorem ss_tr_keepBest_7_b {E : Nat × (Nat → Int32)}  (self7 : Int32 → Int32 → sm_Mem → sm_R) (hself7 : ∀ (a1 : Int32) (a2 : Int32) (w : sm_Mem), sm_Sim E (mi_tr_keepBest) 7 [some (.ref 56), some (.int a1), some (.int a2)] [] w (self7 a1 a2 w)) (a1 : Int32) (a2 : Int32) (w : sm_Mem) : sm_Sim E (mi_tr_keepBest) 7 [some (.ref 56), some (.int a1), some (.int a2)] [] w (ff_tr_keepBest_7_b  self7 a1 a2 w) := by
  unfold ff_tr_keepBest_7_b
  refine sm_iload_n ii_tr_keepBest_7 rfl ?_
  refine sm_iload_n ii_tr_keepBest_8 rfl ?_
  refine sm_icmp_ge 30 ii_tr_keepBest_9 (by decide) ?_ ?_
  · exact sm_vret ii_tr_keepBest_30 rfl
  · refine sm_aload_n ii_tr_keepBest_12 rfl ?_
    refine sm_getR 58 ii_tr_keepBest_13 fl_tr_19 (k := 56) rfl ?_
    refine sm_iload_n ii_tr_keepBest_16 rfl ?_
    refine sm_aload_n ii_tr_keepBest_17 rfl ?_
    refine sm_getR 57 ii_tr_keepBest_18 fl_tr_15 (k := 56) rfl ?_
    refine sm_iload_n ii_tr_keepBest_21 rfl ?_
    refine sm_iald ii_tr_keepBest_22 (k := 57) rfl (fun x1 => ?_)
    refine sm_iast ii_tr_keepBest_23 (k := 58) rfl (fun w2 => ?_)
    refine sm_iinc (a2 + (1 : Int32)) [some (.ref 56), some (.int a1), some (.int (a2 + (1 : Int32)))] ii_tr_keepBest_24 rfl rfl rfl rfl ?_
    refine sm_goto 7 ii_tr_keepBest_27 (by decide) ?_
    exact hself7 (a1) ((a2 + (1 : Int32))) w2
set_option maxHeartbeats 4000000 in
set_option maxRecDepth 100000 in
theorem ss_tr_keepBest_7_f {E : Nat × (Nat → Int32)}  : ∀ (n : Nat) (a1 : Int32) (a2 : Int32) (w : sm_Mem), sm_Sim E (mi_tr_keepBest) 7 [some (.ref 56), some (.int a1), some (.int a2)] [] w (ff_tr_keepBest_7_f  n a1 a2 w)
  | 0, _, _, _ => fun _ _ h => by cases h
  | n + 1, a1, a2, w => ss_tr_keepBest_7_b  _ (ss_tr_keepBest_7_f  n) a1 a2 w
set_option maxHeartbeats 4000000 in
set_option maxRecDepth 100000 in
theorem ss_tr_keepBest_7 {E : Nat × (Nat → Int32)}  (a1 : Int32) (a2 : Int32) (w : sm_Mem) : sm_Sim E (mi_tr_keepBest) 7 [some (.ref 56), some (.int a1), some (.int a2)] [] w (ff_tr_keepBest_7  a1 a2 w) := ss_tr_keepBest_7_f  sm_N a1 a2 w
noncomputable def ff_tr_keepBest  (a1 : Int32) (w : sm_Mem) : sm_R := (sm_let (sm_wI w 56 3 a1) fun w3 => ff_tr_keepBest_7 (a1) ((0 : Int32)) w3)
set_option maxHeartbeats 4000000 in
set_option maxRecDepth 100000 in
theorem ss_tr_keepBest_0 {E : Nat × (Nat → Int32)}  (a1 : Int32) (w : sm_Mem) : sm_Sim E (mi_tr_keepBest) 0 [some (.ref 56), some (.int a1), none] [] w (ff_tr_keepBest  a1 w) := by
  unfold ff_tr_keepBest
  refine sm_aload_n ii_tr_keepBest_0 rfl ?_
  refine sm_iload_n ii_tr_keepBest_1 rfl ?_
  refine sm_putI ii_tr_keepBest_2 fp_tr_45 (k := 56) rfl (fun w3 => ?_)
  refine sm_iconst (0 : Int32) ii_tr_keepBest_5 (by decide) ?_
  refine sm_istore_n [some (.ref 56), some (.int a1), some (.int (0 : Int32))] ii_tr_keepBest_6 rfl rfl ?_
  exact ss_tr_keepBest_7 (a1) ((0 : Int32)) w3
set_option maxHeartbeats 4000000 in
set_option maxRecDepth 100000 in
theorem mc_tr_keepBest (a1 : Int32) (w : sm_Mem) : sm_MC mi_tr_keepBest [.ref 56, .int a1] w (ff_tr_keepBest a1 w) := sm_MC_of (0, fun _ => 0) (by decide +kernel) (by decide) rfl (Nat.le_of_ble_eq_true rfl) (ss_tr_keepBest_0 a1 w)
abbrev mi_tr_lengthen (k : Nat) : sm_MI := (⟨"HerOrders$Trials", "lengthen", "(II)V"⟩, prog_6_method_6_code, 4, none, k)
set_option maxRecDepth 100000 in
theorem mf_tr_lengthen_z : sm_MF (mi_tr_lengthen 0) 2 := ⟨List.mem_of_getElem? (i := 733) (by decide +kernel), List.mem_of_getElem? (i := 130) (by decide +kernel), ⟨by decide, by decide⟩, by decide +kernel⟩
set_option maxRecDepth 100000 in
theorem mf_tr_lengthen (k : Nat) : sm_MF (mi_tr_lengthen k) 2 := mf_tr_lengthen_z
set_option maxRecDepth 100000 in
theorem mv_tr_lengthen_z : sm_MFV (mi_tr_lengthen 0) := ⟨List.mem_of_getElem? (i := 732) (by decide +kernel), List.mem_of_getElem? (i := 45) (by decide +kernel)⟩
set_option maxRecDepth 100000 in
theorem mv_tr_lengthen (k : Nat) : sm_MFV (mi_tr_lengthen k) := mv_tr_lengthen_z
set_option maxRecDepth 100000 in
theorem ii_tr_lengthen_0 : sm_D prog_6_method_6_code 0 1 1 (.iload_n 1) := ⟨by decide +kernel, rfl⟩
set_option maxRecDepth 100000 in
theorem ii_tr_lengthen_1 : sm_D prog_6_method_6_code 1 1 2 (.iload_n 2) := ⟨by decide +kernel, rfl⟩
set_option maxRecDepth 100000 in
theorem ii_tr_lengthen_2 : sm_D prog_6_method_6_code 2 3 5 (.if_icmp .ge 8) := ⟨by decide +kernel, rfl⟩
set_option maxRecDepth 100000 in
theorem ii_tr_lengthen_5 : sm_D prog_6_method_6_code 5 1 6 (.iload_n 1) := ⟨by decide +kernel, rfl⟩
set_option maxRecDepth 100000 in
theorem ii_tr_lengthen_6 : sm_D prog_6_method_6_code 6 1 7 (.iconst 4) := ⟨by decide +kernel, rfl⟩
set_option maxRecDepth 100000 in
theorem ii_tr_lengthen_7 : sm_D prog_6_method_6_code 7 3 10 (.if_icmp .lt 4) := ⟨by decide +kernel, rfl⟩
set_option maxRecDepth 100000 in
theorem ii_tr_lengthen_10 : sm_D prog_6_method_6_code 10 1 11 (.return_) := ⟨by decide +kernel, rfl⟩
set_option maxRecDepth 100000 in
theorem ii_tr_lengthen_11 : sm_D prog_6_method_6_code 11 1 12 (.iconst 0) := ⟨by decide +kernel, rfl⟩
set_option maxRecDepth 100000 in
theorem ii_tr_lengthen_12 : sm_D prog_6_method_6_code 12 1 13 (.istore_n 3) := ⟨by decide +kernel, rfl⟩
set_option maxRecDepth 100000 in
theorem ii_tr_lengthen_13 : sm_D prog_6_method_6_code 13 1 14 (.iload_n 3) := ⟨by decide +kernel, rfl⟩
set_option maxRecDepth 100000 in
theorem ii_tr_lengthen_14 : sm_D prog_6_method_6_code 14 2 16 (.bipush 6) := ⟨by decide +kernel, rfl⟩
set_option maxRecDepth 100000 in
theorem ii_tr_lengthen_16 : sm_D prog_6_method_6_code 16 3 19 (.if_icmp .ge 63) := ⟨by decide +kernel, rfl⟩
set_option maxRecDepth 100000 in
theorem ii_tr_lengthen_19 : sm_D prog_6_method_6_code 19 1 20 (.aload_n 0) := ⟨by decide +kernel, rfl⟩
set_option maxRecDepth 100000 in
theorem ii_tr_lengthen_20 : sm_D prog_6_method_6_code 20 3 23 (.getfield 45) := ⟨by decide +kernel, rfl⟩
set_option maxRecDepth 100000 in
theorem ii_tr_lengthen_23 : sm_D prog_6_method_6_code 23 1 24 (.iload_n 2) := ⟨by decide +kernel, rfl⟩
set_option maxRecDepth 100000 in
theorem ii_tr_lengthen_24 : sm_D prog_6_method_6_code 24 3 27 (.if_icmp .ge 55) := ⟨by decide +kernel, rfl⟩
set_option maxRecDepth 100000 in
theorem ii_tr_lengthen_27 : sm_D prog_6_method_6_code 27 1 28 (.aload_n 0) := ⟨by decide +kernel, rfl⟩
set_option maxRecDepth 100000 in
theorem ii_tr_lengthen_28 : sm_D prog_6_method_6_code 28 3 31 (.getfield 15) := ⟨by decide +kernel, rfl⟩
set_option maxRecDepth 100000 in
theorem ii_tr_lengthen_31 : sm_D prog_6_method_6_code 31 1 32 (.iload_n 1) := ⟨by decide +kernel, rfl⟩
set_option maxRecDepth 100000 in
theorem ii_tr_lengthen_32 : sm_D prog_6_method_6_code 32 1 33 (.iload_n 3) := ⟨by decide +kernel, rfl⟩
set_option maxRecDepth 100000 in
theorem ii_tr_lengthen_33 : sm_D prog_6_method_6_code 33 1 34 (.iastore) := ⟨by decide +kernel, rfl⟩
set_option maxRecDepth 100000 in
theorem ii_tr_lengthen_34 : sm_D prog_6_method_6_code 34 1 35 (.aload_n 0) := ⟨by decide +kernel, rfl⟩
set_option maxRecDepth 100000 in
theorem ii_tr_lengthen_35 : sm_D prog_6_method_6_code 35 1 36 (.iconst 0) := ⟨by decide +kernel, rfl⟩
set_option maxRecDepth 100000 in
theorem ii_tr_lengthen_36 : sm_D prog_6_method_6_code 36 1 37 (.iload_n 1) := ⟨by decide +kernel, rfl⟩
set_option maxRecDepth 100000 in
theorem ii_tr_lengthen_37 : sm_D prog_6_method_6_code 37 1 38 (.iconst 1) := ⟨by decide +kernel, rfl⟩
set_option maxRecDepth 100000 in
theorem ii_tr_lengthen_38 : sm_D prog_6_method_6_code 38 1 39 (.iadd) := ⟨by decide +kernel, rfl⟩
set_option maxRecDepth 100000 in
theorem ii_tr_lengthen_39 : sm_D prog_6_method_6_code 39 3 42 (.invokevirtual 25) := ⟨by decide +kernel, rfl⟩
set_option maxRecDepth 100000 in
theorem ii_tr_lengthen_42 : sm_D prog_6_method_6_code 42 3 45 (.ifCond .ne 6) := ⟨by decide +kernel, rfl⟩
set_option maxRecDepth 100000 in
theorem ii_tr_lengthen_45 : sm_D prog_6_method_6_code 45 3 48 (.goto 28) := ⟨by decide +kernel, rfl⟩
set_option maxRecDepth 100000 in
theorem ii_tr_lengthen_48 : sm_D prog_6_method_6_code 48 1 49 (.iload_n 1) := ⟨by decide +kernel, rfl⟩
set_option maxRecDepth 100000 in
theorem ii_tr_lengthen_49 : sm_D prog_6_method_6_code 49 1 50 (.iconst 1) := ⟨by decide +kernel, rfl⟩
set_option maxRecDepth 100000 in
theorem ii_tr_lengthen_50 : sm_D prog_6_method_6_code 50 1 51 (.iadd) := ⟨by decide +kernel, rfl⟩
set_option maxRecDepth 100000 in
theorem ii_tr_lengthen_51 : sm_D prog_6_method_6_code 51 1 52 (.aload_n 0) := ⟨by decide +kernel, rfl⟩
set_option maxRecDepth 100000 in
theorem ii_tr_lengthen_52 : sm_D prog_6_method_6_code 52 3 55 (.getfield 45) := ⟨by decide +kernel, rfl⟩
set_option maxRecDepth 100000 in
theorem ii_tr_lengthen_55 : sm_D prog_6_method_6_code 55 3 58 (.if_icmp .le 10) := ⟨by decide +kernel, rfl⟩
set_option maxRecDepth 100000 in
theorem ii_tr_lengthen_58 : sm_D prog_6_method_6_code 58 1 59 (.aload_n 0) := ⟨by decide +kernel, rfl⟩
set_option maxRecDepth 100000 in
theorem ii_tr_lengthen_59 : sm_D prog_6_method_6_code 59 1 60 (.iload_n 1) := ⟨by decide +kernel, rfl⟩
set_option maxRecDepth 100000 in
theorem ii_tr_lengthen_60 : sm_D prog_6_method_6_code 60 1 61 (.iconst 1) := ⟨by decide +kernel, rfl⟩
set_option maxRecDepth 100000 in
theorem ii_tr_lengthen_61 : sm_D prog_6_method_6_code 61 1 62 (.iadd) := ⟨by decide +kernel, rfl⟩
set_option maxRecDepth 100000 in
theorem ii_tr_lengthen_62 : sm_D prog_6_method_6_code 62 3 65 (.invokevirtual 65) := ⟨by decide +kernel, rfl⟩
set_option maxRecDepth 100000 in
theorem ii_tr_lengthen_65 : sm_D prog_6_method_6_code 65 1 66 (.aload_n 0) := ⟨by decide +kernel, rfl⟩
set_option maxRecDepth 100000 in
theorem ii_tr_lengthen_66 : sm_D prog_6_method_6_code 66 1 67 (.iload_n 1) := ⟨by decide +kernel, rfl⟩
set_option maxRecDepth 100000 in
theorem ii_tr_lengthen_67 : sm_D prog_6_method_6_code 67 1 68 (.iconst 1) := ⟨by decide +kernel, rfl⟩
set_option maxRecDepth 100000 in
theorem ii_tr_lengthen_68 : sm_D prog_6_method_6_code 68 1 69 (.iadd) := ⟨by decide +kernel, rfl⟩
set_option maxRecDepth 100000 in
theorem ii_tr_lengthen_69 : sm_D prog_6_method_6_code 69 1 70 (.iload_n 2) := ⟨by decide +kernel, rfl⟩
set_option maxRecDepth 100000 in
theorem ii_tr_lengthen_70 : sm_D prog_6_method_6_code 70 3 73 (.invokevirtual 52) := ⟨by decide +kernel, rfl⟩
set_option maxRecDepth 100000 in
theorem ii_tr_lengthen_73 : sm_D prog_6_method_6_code 73 3 76 (.iinc 3 1) := ⟨by decide +kernel, rfl⟩
set_option maxRecDepth 100000 in
theorem ii_tr_lengthen_76 : sm_D prog_6_method_6_code 76 3 79 (.goto (-63)) := ⟨by decide +kernel, rfl⟩
set_option maxRecDepth 100000 in
theorem ii_tr_lengthen_79 : sm_D prog_6_method_6_code 79 1 80 (.return_) := ⟨by decide +kernel, rfl⟩
noncomputable def ff_tr_lengthen_65 (rc : Int32 → Int32 → sm_Mem → sm_R) (self13 : Int32 → Int32 → Int32 → sm_Mem → sm_R) (a1 : Int32) (a2 : Int32) (a3 : Int32) (w : sm_Mem) : sm_R := (sm_cV (rc ((a1 + (1 : Int32))) (a2) w) fun w2 => self13 (a1) (a2) ((a3 + (1 : Int32))) w2)
set_option maxHeartbeats 4000000 in
set_option maxRecDepth 100000 in
theorem ss_tr_lengthen_65 {E : Nat × (Nat → Int32)} {dn : Nat} (rc : Int32 → Int32 → sm_Mem → sm_R) (hrc : ∀ (a1 : Int32) (a2 : Int32) (w : sm_Mem), sm_MC (mi_tr_lengthen (12 + dn)) [.ref 56, .int a1, .int a2] w (rc a1 a2 w)) (self13 : Int32 → Int32 → Int32 → sm_Mem → sm_R) (hself13 : ∀ (a1 : Int32) (a2 : Int32) (a3 : Int32) (w : sm_Mem), sm_Sim E (mi_tr_lengthen (12 + dn + 1)) 13 [some (.ref 56), some (.int a1), some (.int a2), some (.int a3)] [] w (self13 a1 a2 a3 w)) (a1 : Int32) (a2 : Int32) (a3 : Int32) (w : sm_Mem) : sm_Sim E (mi_tr_lengthen (12 + dn + 1)) 65 [some (.ref 56), some (.int a1), some (.int a2), some (.int a3)] [] w (ff_tr_lengthen_65 rc self13 a1 a2 a3 w) := by
  unfold ff_tr_lengthen_65
  refine sm_aload_n ii_tr_lengthen_65 rfl ?_
  refine sm_iload_n ii_tr_lengthen_66 rfl ?_
  refine sm_iconst (1 : Int32) ii_tr_lengthen_67 (by decide) ?_
  refine sm_iadd ii_tr_lengthen_68 ?_
  refine sm_iload_n ii_tr_lengthen_69 rfl ?_
  refine sm_cvV [.int (a1 + (1 : Int32)), .int a2] [] rfl ii_tr_lengthen_70 ml_tr_52 (mf_tr_lengthen (12 + dn)) (mv_tr_lengthen (12 + dn)) (Nat.le_refl _) rfl 4 rfl rfl rfl rfl (hrc ((a1 + (1 : Int32))) (a2) w) (fun w2 => ?_)
  refine sm_iinc (a3 + (1 : Int32)) [some (.ref 56), some (.int a1), some (.int a2), some (.int (a3 + (1 : Int32)))] ii_tr_lengthen_73 rfl rfl rfl rfl ?_
  refine sm_goto 13 ii_tr_lengthen_76 (by decide) ?_
  exact hself13 (a1) (a2) ((a3 + (1 : Int32))) w2
noncomputable def ff_tr_lengthen_13_b (rc : Int32 → Int32 → sm_Mem → sm_R)  (self13 : Int32 → Int32 → Int32 → sm_Mem → sm_R) (a1 : Int32) (a2 : Int32) (a3 : Int32) (w : sm_Mem) : sm_R := (if (6 : Int32) ≤ a3 then (some (.null, w)) else (if a2 ≤ (w.1 56 3) then (some (.null, w)) else (Option.bind (sm_wr w 57 4 a1 a3) fun w3 => (sm_cI (ff_tr_hasWay 8 ((0 : Int32)) ((a1 + (1 : Int32))) w3) fun x4 w5 => (if x4 = (0 : Int32) then self13 (a1) (a2) ((a3 + (1 : Int32))) w5 else (if (a1 + (1 : Int32)) ≤ (w5.1 56 3) then ff_tr_lengthen_65 rc self13 (a1) (a2) (a3) w5 else (sm_cV (ff_tr_keepBest ((a1 + (1 : Int32))) w5) fun w7 => ff_tr_lengthen_65 rc self13 (a1) (a2) (a3) w7)))))))
noncomputable def ff_tr_lengthen_13_f (rc : Int32 → Int32 → sm_Mem → sm_R)  : Nat → Int32 → Int32 → Int32 → sm_Mem → sm_R
  | 0, _, _, _, _ => none
  | n + 1, a1, a2, a3, w => ff_tr_lengthen_13_b rc  (ff_tr_lengthen_13_f rc  n) a1 a2 a3 w
noncomputable def ff_tr_lengthen_13 (rc : Int32 → Int32 → sm_Mem → sm_R)  (a1 : Int32) (a2 : Int32) (a3 : Int32) (w : sm_Mem) : sm_R := ff_tr_lengthen_13_f rc  sm_N a1 a2 a3 w
set_option maxHeartbeats 4000000 in
set_option maxRecDepth 100000 in
theorem ss_tr_lengthen_13_b {E : Nat × (Nat → Int32)} {dn : Nat} (rc : Int32 → Int32 → sm_Mem → sm_R) (hrc : ∀ (a1 : Int32) (a2 : Int32) (w : sm_Mem), sm_MC (mi_tr_lengthen (12 + dn)) [.ref 56, .int a1, .int a2] w (rc a1 a2 w))  (self13 : Int32 → Int32 → Int32 → sm_Mem → sm_R) (hself13 : ∀ (a1 : Int32) (a2 : Int32) (a3 : Int32) (w : sm_Mem), sm_Sim E (mi_tr_lengthen (12 + dn + 1)) 13 [some (.ref 56), some (.int a1), some (.int a2), some (.int a3)] [] w (self13 a1 a2 a3 w)) (a1 : Int32) (a2 : Int32) (a3 : Int32) (w : sm_Mem) : sm_Sim E (mi_tr_lengthen (12 + dn + 1)) 13 [some (.ref 56), some (.int a1), some (.int a2), some (.int a3)] [] w (ff_tr_lengthen_13_b rc  self13 a1 a2 a3 w) := by
  unfold ff_tr_lengthen_13_b
  refine sm_iload_n ii_tr_lengthen_13 rfl ?_
  refine sm_bipush (6 : Int32) ii_tr_lengthen_14 (by decide) ?_
  refine sm_icmp_ge 79 ii_tr_lengthen_16 (by decide) ?_ ?_
  · exact sm_vret ii_tr_lengthen_79 rfl
  · refine sm_aload_n ii_tr_lengthen_19 rfl ?_
    refine sm_getI ii_tr_lengthen_20 fl_tr_45 (k := 56) rfl ?_
    refine sm_iload_n ii_tr_lengthen_23 rfl ?_
    refine sm_icmp_ge 79 ii_tr_lengthen_24 (by decide) ?_ ?_
    · exact sm_vret ii_tr_lengthen_79 rfl
    · refine sm_aload_n ii_tr_lengthen_27 rfl ?_
      refine sm_getR 57 ii_tr_lengthen_28 fl_tr_15 (k := 56) rfl ?_
      refine sm_iload_n ii_tr_lengthen_31 rfl ?_
      refine sm_iload_n ii_tr_lengthen_32 rfl ?_
      refine sm_iast ii_tr_lengthen_33 (k := 57) rfl (fun w3 => ?_)
      refine sm_aload_n ii_tr_lengthen_34 rfl ?_
      refine sm_iconst (0 : Int32) ii_tr_lengthen_35 (by decide) ?_
      refine sm_iload_n ii_tr_lengthen_36 rfl ?_
      refine sm_iconst (1 : Int32) ii_tr_lengthen_37 (by decide) ?_
      refine sm_iadd ii_tr_lengthen_38 ?_
      refine sm_cvI [.int (0 : Int32), .int (a1 + (1 : Int32))] [] rfl ii_tr_lengthen_39 ml_tr_25 (mf_tr_hasWay 11) (mv_tr_hasWay 11) (sm_kle rfl) rfl 4 rfl rfl rfl rfl (mc_tr_hasWay 8 ((0 : Int32)) ((a1 + (1 : Int32))) w3) (fun x4 w5 => ?_)
      refine sm_if_ne 48 ii_tr_lengthen_42 (by decide) ?_ ?_
      · refine sm_goto 73 ii_tr_lengthen_45 (by decide) ?_
        refine sm_iinc (a3 + (1 : Int32)) [some (.ref 56), some (.int a1), some (.int a2), some (.int (a3 + (1 : Int32)))] ii_tr_lengthen_73 rfl rfl rfl rfl ?_
        refine sm_goto 13 ii_tr_lengthen_76 (by decide) ?_
        exact hself13 (a1) (a2) ((a3 + (1 : Int32))) w5
      · refine sm_iload_n ii_tr_lengthen_48 rfl ?_
        refine sm_iconst (1 : Int32) ii_tr_lengthen_49 (by decide) ?_
        refine sm_iadd ii_tr_lengthen_50 ?_
        refine sm_aload_n ii_tr_lengthen_51 rfl ?_
        refine sm_getI ii_tr_lengthen_52 fl_tr_45 (k := 56) rfl ?_
        refine sm_icmp_le 65 ii_tr_lengthen_55 (by decide) ?_ ?_
        · exact ss_tr_lengthen_65 rc hrc self13 hself13 (a1) (a2) (a3) w5
        · refine sm_aload_n ii_tr_lengthen_58 rfl ?_
          refine sm_iload_n ii_tr_lengthen_59 rfl ?_
          refine sm_iconst (1 : Int32) ii_tr_lengthen_60 (by decide) ?_
          refine sm_iadd ii_tr_lengthen_61 ?_
          refine sm_cvV [.int (a1 + (1 : Int32))] [] rfl ii_tr_lengthen_62 ml_tr_65 (mf_tr_keepBest) (mv_tr_keepBest) (sm_kle rfl) rfl 4 rfl rfl rfl rfl (mc_tr_keepBest ((a1 + (1 : Int32))) w5) (fun w7 => ?_)
          exact ss_tr_lengthen_65 rc hrc self13 hself13 (a1) (a2) (a3) w7
set_option maxHeartbeats 4000000 in
set_option maxRecDepth 100000 in
theorem ss_tr_lengthen_13_f {E : Nat × (Nat → Int32)} {dn : Nat} (rc : Int32 → Int32 → sm_Mem → sm_R) (hrc : ∀ (a1 : Int32) (a2 : Int32) (w : sm_Mem), sm_MC (mi_tr_lengthen (12 + dn)) [.ref 56, .int a1, .int a2] w (rc a1 a2 w))  : ∀ (n : Nat) (a1 : Int32) (a2 : Int32) (a3 : Int32) (w : sm_Mem), sm_Sim E (mi_tr_lengthen (12 + dn + 1)) 13 [some (.ref 56), some (.int a1), some (.int a2), some (.int a3)] [] w (ff_tr_lengthen_13_f rc  n a1 a2 a3 w)
  | 0, _, _, _, _ => fun _ _ h => by cases h
  | n + 1, a1, a2, a3, w => ss_tr_lengthen_13_b rc hrc  _ (ss_tr_lengthen_13_f rc hrc  n) a1 a2 a3 w
set_option maxHeartbeats 4000000 in
set_option maxRecDepth 100000 in
theorem ss_tr_lengthen_13 {E : Nat × (Nat → Int32)} {dn : Nat} (rc : Int32 → Int32 → sm_Mem → sm_R) (hrc : ∀ (a1 : Int32) (a2 : Int32) (w : sm_Mem), sm_MC (mi_tr_lengthen (12 + dn)) [.ref 56, .int a1, .int a2] w (rc a1 a2 w))  (a1 : Int32) (a2 : Int32) (a3 : Int32) (w : sm_Mem) : sm_Sim E (mi_tr_lengthen (12 + dn + 1)) 13 [some (.ref 56), some (.int a1), some (.int a2), some (.int a3)] [] w (ff_tr_lengthen_13 rc  a1 a2 a3 w) := ss_tr_lengthen_13_f rc hrc  sm_N a1 a2 a3 w
noncomputable def ff_tr_lengthen_0 (rc : Int32 → Int32 → sm_Mem → sm_R)  (a1 : Int32) (a2 : Int32) (w : sm_Mem) : sm_R := (if a2 ≤ a1 then (some (.null, w)) else (if a1 < (4 : Int32) then ff_tr_lengthen_13 rc (a1) (a2) ((0 : Int32)) w else (some (.null, w))))
set_option maxHeartbeats 4000000 in
set_option maxRecDepth 100000 in
theorem ss_tr_lengthen_0 {E : Nat × (Nat → Int32)} {dn : Nat} (rc : Int32 → Int32 → sm_Mem → sm_R) (hrc : ∀ (a1 : Int32) (a2 : Int32) (w : sm_Mem), sm_MC (mi_tr_lengthen (12 + dn)) [.ref 56, .int a1, .int a2] w (rc a1 a2 w))  (a1 : Int32) (a2 : Int32) (w : sm_Mem) : sm_Sim E (mi_tr_lengthen (12 + dn + 1)) 0 [some (.ref 56), some (.int a1), some (.int a2), none] [] w (ff_tr_lengthen_0 rc  a1 a2 w) := by
  unfold ff_tr_lengthen_0
  refine sm_iload_n ii_tr_lengthen_0 rfl ?_
  refine sm_iload_n ii_tr_lengthen_1 rfl ?_
  refine sm_icmp_ge 10 ii_tr_lengthen_2 (by decide) ?_ ?_
  · exact sm_vret ii_tr_lengthen_10 rfl
  · refine sm_iload_n ii_tr_lengthen_5 rfl ?_
    refine sm_iconst (4 : Int32) ii_tr_lengthen_6 (by decide) ?_
    refine sm_icmp_lt 11 ii_tr_lengthen_7 (by decide) ?_ ?_
    · refine sm_iconst (0 : Int32) ii_tr_lengthen_11 (by decide) ?_
      refine sm_istore_n [some (.ref 56), some (.int a1), some (.int a2), some (.int (0 : Int32))] ii_tr_lengthen_12 rfl rfl ?_
      exact ss_tr_lengthen_13 rc hrc (a1) (a2) ((0 : Int32)) w
    · exact sm_vret ii_tr_lengthen_10 rfl
noncomputable def ff_tr_lengthen : Nat → Int32 → Int32 → sm_Mem → sm_R
  | 0, _, _, _ => none
  | n + 1, a1, a2, w => ff_tr_lengthen_0 (ff_tr_lengthen n) a1 a2 w
set_option maxHeartbeats 4000000 in
set_option maxRecDepth 100000 in
theorem mc_tr_lengthen : ∀ (n : Nat) (a1 : Int32) (a2 : Int32) (w : sm_Mem), sm_MC (mi_tr_lengthen (12 + n)) [.ref 56, .int a1, .int a2] w (ff_tr_lengthen n a1 a2 w)
  | 0, _, _, _ => fun _ _ h => by cases h
  | n + 1, a1, a2, w => sm_MC_of (0, fun _ => 0) (show plainName "HerOrders$Trials" = true by decide +kernel) (show ("HerOrders$Trials" : String) ≠ "HerOrdersLaw" by decide) rfl (Nat.le_of_ble_eq_true rfl) (ss_tr_lengthen_0 (dn := n) _ (mc_tr_lengthen n) a1 a2 w)
abbrev mi_tr_seekLongest : sm_MI := (⟨"HerOrders$Trials", "seekLongest", "()V"⟩, prog_6_method_4_code, 1, none, 21)
set_option maxRecDepth 100000 in
theorem mf_tr_seekLongest : sm_MF mi_tr_seekLongest 0 := ⟨List.mem_of_getElem? (i := 723) (by decide +kernel), List.mem_of_getElem? (i := 130) (by decide +kernel), ⟨by decide, by decide⟩, by decide +kernel⟩
set_option maxRecDepth 100000 in
theorem mv_tr_seekLongest : sm_MFV mi_tr_seekLongest := ⟨List.mem_of_getElem? (i := 722) (by decide +kernel), List.mem_of_getElem? (i := 43) (by decide +kernel)⟩
set_option maxRecDepth 100000 in
theorem ii_tr_seekLongest_0 : sm_D prog_6_method_4_code 0 1 1 (.aload_n 0) := ⟨by decide +kernel, rfl⟩
set_option maxRecDepth 100000 in
theorem ii_tr_seekLongest_1 : sm_D prog_6_method_4_code 1 1 2 (.iconst 0) := ⟨by decide +kernel, rfl⟩
set_option maxRecDepth 100000 in
theorem ii_tr_seekLongest_2 : sm_D prog_6_method_4_code 2 3 5 (.putfield 45) := ⟨by decide +kernel, rfl⟩
set_option maxRecDepth 100000 in
theorem ii_tr_seekLongest_5 : sm_D prog_6_method_4_code 5 1 6 (.aload_n 0) := ⟨by decide +kernel, rfl⟩
set_option maxRecDepth 100000 in
theorem ii_tr_seekLongest_6 : sm_D prog_6_method_4_code 6 1 7 (.iconst 0) := ⟨by decide +kernel, rfl⟩
set_option maxRecDepth 100000 in
theorem ii_tr_seekLongest_7 : sm_D prog_6_method_4_code 7 1 8 (.aload_n 0) := ⟨by decide +kernel, rfl⟩
set_option maxRecDepth 100000 in
theorem ii_tr_seekLongest_8 : sm_D prog_6_method_4_code 8 1 9 (.iconst 0) := ⟨by decide +kernel, rfl⟩
set_option maxRecDepth 100000 in
theorem ii_tr_seekLongest_9 : sm_D prog_6_method_4_code 9 3 12 (.invokevirtual 48) := ⟨by decide +kernel, rfl⟩
set_option maxRecDepth 100000 in
theorem ii_tr_seekLongest_12 : sm_D prog_6_method_4_code 12 3 15 (.invokevirtual 52) := ⟨by decide +kernel, rfl⟩
set_option maxRecDepth 100000 in
theorem ii_tr_seekLongest_15 : sm_D prog_6_method_4_code 15 1 16 (.return_) := ⟨by decide +kernel, rfl⟩
noncomputable def ff_tr_seekLongest   (w : sm_Mem) : sm_R := (sm_let (sm_wI w 56 3 (0 : Int32)) fun w1 => (sm_cI (ff_tr_freeTurns 8 ((0 : Int32)) w1) fun x2 w3 => (sm_cV (ff_tr_lengthen 8 ((0 : Int32)) (x2) w3) fun w5 => (some (.null, w5)))))
set_option maxHeartbeats 4000000 in
set_option maxRecDepth 100000 in
theorem ss_tr_seekLongest_0 {E : Nat × (Nat → Int32)}   (w : sm_Mem) : sm_Sim E (mi_tr_seekLongest) 0 [some (.ref 56)] [] w (ff_tr_seekLongest   w) := by
  unfold ff_tr_seekLongest
  refine sm_aload_n ii_tr_seekLongest_0 rfl ?_
  refine sm_iconst (0 : Int32) ii_tr_seekLongest_1 (by decide) ?_
  refine sm_putI ii_tr_seekLongest_2 fp_tr_45 (k := 56) rfl (fun w1 => ?_)
  refine sm_aload_n ii_tr_seekLongest_5 rfl ?_
  refine sm_iconst (0 : Int32) ii_tr_seekLongest_6 (by decide) ?_
  refine sm_aload_n ii_tr_seekLongest_7 rfl ?_
  refine sm_iconst (0 : Int32) ii_tr_seekLongest_8 (by decide) ?_
  refine sm_cvI [.int (0 : Int32)] [.int (0 : Int32), .ref 56] rfl ii_tr_seekLongest_9 ml_tr_48 (mf_tr_freeTurns 10) (mv_tr_freeTurns 10) (Nat.le_of_ble_eq_true rfl) rfl 4 rfl rfl rfl rfl (mc_tr_freeTurns 8 ((0 : Int32)) w1) (fun x2 w3 => ?_)
  refine sm_cvV [.int (0 : Int32), .int x2] [] rfl ii_tr_seekLongest_12 ml_tr_52 (mf_tr_lengthen 20) (mv_tr_lengthen 20) (Nat.le_of_ble_eq_true rfl) rfl 4 rfl rfl rfl rfl (mc_tr_lengthen 8 ((0 : Int32)) (x2) w3) (fun w5 => ?_)
  exact sm_vret ii_tr_seekLongest_15 rfl
set_option maxHeartbeats 4000000 in
set_option maxRecDepth 100000 in
theorem mc_tr_seekLongest  (w : sm_Mem) : sm_MC mi_tr_seekLongest [.ref 56] w (ff_tr_seekLongest  w) := sm_MC_of (0, fun _ => 0) (by decide +kernel) (by decide) rfl (Nat.le_of_ble_eq_true rfl) (ss_tr_seekLongest_0  w)
abbrev mi_ho_longest : sm_MI := (⟨"HerOrders", "longest", "(I)I"⟩, prog_1_method_28_code, 2, (some .int), 22)
set_option maxRecDepth 100000 in
theorem mf_ho_longest : sm_MF mi_ho_longest 1 := ⟨List.mem_of_getElem? (i := 719) (by decide +kernel), List.mem_of_getElem? (i := 124) (by decide +kernel), ⟨by decide, by decide⟩, by decide +kernel⟩
set_option maxRecDepth 100000 in
theorem mv_ho_longest : sm_MFV mi_ho_longest := ⟨List.mem_of_getElem? (i := 717) (by decide +kernel), List.mem_of_getElem? (i := 718) (by decide +kernel)⟩
set_option maxRecDepth 100000 in
theorem ii_ho_longest_0 : sm_D prog_1_method_28_code 0 1 1 (.iload_n 1) := ⟨by decide +kernel, rfl⟩
set_option maxRecDepth 100000 in
theorem ii_ho_longest_1 : sm_D prog_1_method_28_code 1 2 3 (.bipush 6) := ⟨by decide +kernel, rfl⟩
set_option maxRecDepth 100000 in
theorem ii_ho_longest_3 : sm_D prog_1_method_28_code 3 3 6 (.invokestatic 81) := ⟨by decide +kernel, rfl⟩
set_option maxRecDepth 100000 in
theorem ii_ho_longest_6 : sm_D prog_1_method_28_code 6 3 9 (.ifCond .ne 5) := ⟨by decide +kernel, rfl⟩
set_option maxRecDepth 100000 in
theorem ii_ho_longest_9 : sm_D prog_1_method_28_code 9 1 10 (.iconst (-1)) := ⟨by decide +kernel, rfl⟩
set_option maxRecDepth 100000 in
theorem ii_ho_longest_10 : sm_D prog_1_method_28_code 10 1 11 (.ireturn) := ⟨by decide +kernel, rfl⟩
set_option maxRecDepth 100000 in
theorem ii_ho_longest_11 : sm_D prog_1_method_28_code 11 1 12 (.aload_n 0) := ⟨by decide +kernel, rfl⟩
set_option maxRecDepth 100000 in
theorem ii_ho_longest_12 : sm_D prog_1_method_28_code 12 3 15 (.getfield 31) := ⟨by decide +kernel, rfl⟩
set_option maxRecDepth 100000 in
theorem ii_ho_longest_15 : sm_D prog_1_method_28_code 15 3 18 (.getfield 115) := ⟨by decide +kernel, rfl⟩
set_option maxRecDepth 100000 in
theorem ii_ho_longest_18 : sm_D prog_1_method_28_code 18 3 21 (.ifCond .ne 6) := ⟨by decide +kernel, rfl⟩
set_option maxRecDepth 100000 in
theorem ii_ho_longest_21 : sm_D prog_1_method_28_code 21 2 23 (.bipush (-4)) := ⟨by decide +kernel, rfl⟩
set_option maxRecDepth 100000 in
theorem ii_ho_longest_23 : sm_D prog_1_method_28_code 23 1 24 (.ireturn) := ⟨by decide +kernel, rfl⟩
set_option maxRecDepth 100000 in
theorem ii_ho_longest_24 : sm_D prog_1_method_28_code 24 1 25 (.aload_n 0) := ⟨by decide +kernel, rfl⟩
set_option maxRecDepth 100000 in
theorem ii_ho_longest_25 : sm_D prog_1_method_28_code 25 3 28 (.getfield 47) := ⟨by decide +kernel, rfl⟩
set_option maxRecDepth 100000 in
theorem ii_ho_longest_28 : sm_D prog_1_method_28_code 28 3 31 (.invokevirtual 231) := ⟨by decide +kernel, rfl⟩
set_option maxRecDepth 100000 in
theorem ii_ho_longest_31 : sm_D prog_1_method_28_code 31 1 32 (.aload_n 0) := ⟨by decide +kernel, rfl⟩
set_option maxRecDepth 100000 in
theorem ii_ho_longest_32 : sm_D prog_1_method_28_code 32 3 35 (.getfield 11) := ⟨by decide +kernel, rfl⟩
set_option maxRecDepth 100000 in
theorem ii_ho_longest_35 : sm_D prog_1_method_28_code 35 1 36 (.iload_n 1) := ⟨by decide +kernel, rfl⟩
set_option maxRecDepth 100000 in
theorem ii_ho_longest_36 : sm_D prog_1_method_28_code 36 1 37 (.aaload) := ⟨by decide +kernel, rfl⟩
set_option maxRecDepth 100000 in
theorem ii_ho_longest_37 : sm_D prog_1_method_28_code 37 1 38 (.aload_n 0) := ⟨by decide +kernel, rfl⟩
set_option maxRecDepth 100000 in
theorem ii_ho_longest_38 : sm_D prog_1_method_28_code 38 3 41 (.getfield 47) := ⟨by decide +kernel, rfl⟩
set_option maxRecDepth 100000 in
theorem ii_ho_longest_41 : sm_D prog_1_method_28_code 41 3 44 (.getfield 234) := ⟨by decide +kernel, rfl⟩
set_option maxRecDepth 100000 in
theorem ii_ho_longest_44 : sm_D prog_1_method_28_code 44 1 45 (.aload_n 0) := ⟨by decide +kernel, rfl⟩
set_option maxRecDepth 100000 in
theorem ii_ho_longest_45 : sm_D prog_1_method_28_code 45 3 48 (.getfield 47) := ⟨by decide +kernel, rfl⟩
set_option maxRecDepth 100000 in
theorem ii_ho_longest_48 : sm_D prog_1_method_28_code 48 3 51 (.getfield 237) := ⟨by decide +kernel, rfl⟩
set_option maxRecDepth 100000 in
theorem ii_ho_longest_51 : sm_D prog_1_method_28_code 51 3 54 (.invokevirtual 216) := ⟨by decide +kernel, rfl⟩
set_option maxRecDepth 100000 in
theorem ii_ho_longest_54 : sm_D prog_1_method_28_code 54 1 55 (.aload_n 0) := ⟨by decide +kernel, rfl⟩
set_option maxRecDepth 100000 in
theorem ii_ho_longest_55 : sm_D prog_1_method_28_code 55 3 58 (.getfield 47) := ⟨by decide +kernel, rfl⟩
set_option maxRecDepth 100000 in
theorem ii_ho_longest_58 : sm_D prog_1_method_28_code 58 3 61 (.getfield 237) := ⟨by decide +kernel, rfl⟩
set_option maxRecDepth 100000 in
theorem ii_ho_longest_61 : sm_D prog_1_method_28_code 61 1 62 (.ireturn) := ⟨by decide +kernel, rfl⟩
noncomputable def ff_ho_longest  (a1 : Int32) (w : sm_Mem) : sm_R := (sm_cI (ff_ho_isWithin (a1) ((6 : Int32)) w) fun x1 w2 => (if x1 = (0 : Int32) then (some (.int (-1 : Int32), w2)) else (if (w2.1 36 0) = (0 : Int32) then (some (.int (-4 : Int32), w2)) else (sm_cV (ff_tr_seekLongest  w2) fun w4 => (Option.bind (sm_rr 1 a1) fun r5 => (sm_cV (sm_rc r5 2 (ff_rw_become (r5) (58) ((w4.1 56 3)) w4)) fun w7 => (some (.int (w7.1 56 3), w7))))))))
set_option maxHeartbeats 4000000 in
set_option maxRecDepth 100000 in
theorem ss_ho_longest_0 {E : Nat × (Nat → Int32)}  (a1 : Int32) (w : sm_Mem) : sm_Sim E (mi_ho_longest) 0 [some (.ref 0), some (.int a1)] [] w (ff_ho_longest  a1 w) := by
  unfold ff_ho_longest
  refine sm_iload_n ii_ho_longest_0 rfl ?_
  refine sm_bipush (6 : Int32) ii_ho_longest_1 (by decide) ?_
  refine sm_csI [.int a1, .int (6 : Int32)] [] rfl ii_ho_longest_3 ml_ho_81 (mf_ho_isWithin) (mv_ho_isWithin) (Nat.le_of_ble_eq_true rfl) rfl rfl rfl (mc_ho_isWithin (a1) ((6 : Int32)) w) (fun x1 w2 => ?_)
  refine sm_if_ne 11 ii_ho_longest_6 (by decide) ?_ ?_
  · refine sm_iconst (-1 : Int32) ii_ho_longest_9 (by decide) ?_
    exact sm_iret ii_ho_longest_10 rfl
  · refine sm_aload_n ii_ho_longest_11 rfl ?_
    refine sm_getR 36 ii_ho_longest_12 fl_ho_31 (k := 0) rfl ?_
    refine sm_getI ii_ho_longest_15 fl_ho_115 (k := 36) rfl ?_
    refine sm_if_ne 24 ii_ho_longest_18 (by decide) ?_ ?_
    · refine sm_bipush (-4 : Int32) ii_ho_longest_21 (by decide) ?_
      exact sm_iret ii_ho_longest_23 rfl
    · refine sm_aload_n ii_ho_longest_24 rfl ?_
      refine sm_getR 56 ii_ho_longest_25 fl_ho_47 (k := 0) rfl ?_
      refine sm_cvV [] [] rfl ii_ho_longest_28 ml_ho_231 (mf_tr_seekLongest) (mv_tr_seekLongest) (Nat.le_of_ble_eq_true rfl) rfl 4 rfl rfl rfl rfl (mc_tr_seekLongest  w2) (fun w4 => ?_)
      refine sm_aload_n ii_ho_longest_31 rfl ?_
      refine sm_getR 1 ii_ho_longest_32 fl_ho_11 (k := 0) rfl ?_
      refine sm_iload_n ii_ho_longest_35 rfl ?_
      refine sm_aald ii_ho_longest_36 (fun r5 => ?_)
      refine sm_aload_n ii_ho_longest_37 rfl ?_
      refine sm_getR 56 ii_ho_longest_38 fl_ho_47 (k := 0) rfl ?_
      refine sm_getR 58 ii_ho_longest_41 fl_ho_234 (k := 56) rfl ?_
      refine sm_aload_n ii_ho_longest_44 rfl ?_
      refine sm_getR 56 ii_ho_longest_45 fl_ho_47 (k := 0) rfl ?_
      refine sm_getI ii_ho_longest_48 fl_ho_237 (k := 56) rfl ?_
      refine sm_dvV [.ref 58, .int (w4.1 56 3)] [] rfl ii_ho_longest_51 ml_ho_216 (mf_rw_become) (mv_rw_become) (Nat.le_of_ble_eq_true rfl) rfl 2 rfl rfl rfl (mc_rw_become (r5) (58) ((w4.1 56 3)) w4) (fun w7 => ?_)
      refine sm_aload_n ii_ho_longest_54 rfl ?_
      refine sm_getR 56 ii_ho_longest_55 fl_ho_47 (k := 0) rfl ?_
      refine sm_getI ii_ho_longest_58 fl_ho_237 (k := 56) rfl ?_
      exact sm_iret ii_ho_longest_61 rfl
set_option maxHeartbeats 4000000 in
set_option maxRecDepth 100000 in
theorem mc_ho_longest (a1 : Int32) (w : sm_Mem) : sm_MC mi_ho_longest [.ref 0, .int a1] w (ff_ho_longest a1 w) := sm_MC_of (0, fun _ => 0) (by decide +kernel) (by decide) rfl (Nat.le_of_ble_eq_true rfl) (ss_ho_longest_0 a1 w)
abbrev mi_mo_longest : sm_MI := (⟨"HerOrdersModel", "longest", "(I)I"⟩, prog_9_method_76_code, 5, (some .int), 7)
set_option maxRecDepth 100000 in
theorem mf_mo_longest : sm_MF mi_mo_longest 1 := ⟨List.mem_of_getElem? (i := 1322) (by decide +kernel), List.mem_of_getElem? (i := 132) (by decide +kernel), ⟨by decide, by decide⟩, by decide +kernel⟩
set_option maxRecDepth 100000 in
theorem mv_mo_longest : sm_MFV mi_mo_longest := ⟨List.mem_of_getElem? (i := 1320) (by decide +kernel), List.mem_of_getElem? (i := 1321) (by decide +kernel)⟩
set_option maxRecDepth 100000 in
theorem ii_mo_longest_0 : sm_D prog_9_method_76_code 0 1 1 (.iload_n 1) := ⟨by decide +kernel, rfl⟩
set_option maxRecDepth 100000 in
theorem ii_mo_longest_1 : sm_D prog_9_method_76_code 1 3 4 (.invokestatic 77) := ⟨by decide +kernel, rfl⟩
set_option maxRecDepth 100000 in
theorem ii_mo_longest_4 : sm_D prog_9_method_76_code 4 3 7 (.ifCond .ne 5) := ⟨by decide +kernel, rfl⟩
set_option maxRecDepth 100000 in
theorem ii_mo_longest_7 : sm_D prog_9_method_76_code 7 1 8 (.iconst (-1)) := ⟨by decide +kernel, rfl⟩
set_option maxRecDepth 100000 in
theorem ii_mo_longest_8 : sm_D prog_9_method_76_code 8 1 9 (.ireturn) := ⟨by decide +kernel, rfl⟩
set_option maxRecDepth 100000 in
theorem ii_mo_longest_9 : sm_D prog_9_method_76_code 9 1 10 (.aload_n 0) := ⟨by decide +kernel, rfl⟩
set_option maxRecDepth 100000 in
theorem ii_mo_longest_10 : sm_D prog_9_method_76_code 10 3 13 (.getfield 135) := ⟨by decide +kernel, rfl⟩
set_option maxRecDepth 100000 in
theorem ii_mo_longest_13 : sm_D prog_9_method_76_code 13 3 16 (.ifCond .ne 6) := ⟨by decide +kernel, rfl⟩
set_option maxRecDepth 100000 in
theorem ii_mo_longest_16 : sm_D prog_9_method_76_code 16 2 18 (.bipush (-4)) := ⟨by decide +kernel, rfl⟩
set_option maxRecDepth 100000 in
theorem ii_mo_longest_18 : sm_D prog_9_method_76_code 18 1 19 (.ireturn) := ⟨by decide +kernel, rfl⟩
set_option maxRecDepth 100000 in
theorem ii_mo_longest_19 : sm_D prog_9_method_76_code 19 1 20 (.iconst 4) := ⟨by decide +kernel, rfl⟩
set_option maxRecDepth 100000 in
theorem ii_mo_longest_20 : sm_D prog_9_method_76_code 20 1 21 (.istore_n 2) := ⟨by decide +kernel, rfl⟩
set_option maxRecDepth 100000 in
theorem ii_mo_longest_21 : sm_D prog_9_method_76_code 21 1 22 (.iload_n 2) := ⟨by decide +kernel, rfl⟩
set_option maxRecDepth 100000 in
theorem ii_mo_longest_22 : sm_D prog_9_method_76_code 22 3 25 (.ifCond .le 80) := ⟨by decide +kernel, rfl⟩
set_option maxRecDepth 100000 in
theorem ii_mo_longest_25 : sm_D prog_9_method_76_code 25 1 26 (.iconst 0) := ⟨by decide +kernel, rfl⟩
set_option maxRecDepth 100000 in
theorem ii_mo_longest_26 : sm_D prog_9_method_76_code 26 1 27 (.istore_n 3) := ⟨by decide +kernel, rfl⟩
set_option maxRecDepth 100000 in
theorem ii_mo_longest_27 : sm_D prog_9_method_76_code 27 1 28 (.iload_n 3) := ⟨by decide +kernel, rfl⟩
set_option maxRecDepth 100000 in
theorem ii_mo_longest_28 : sm_D prog_9_method_76_code 28 1 29 (.iload_n 2) := ⟨by decide +kernel, rfl⟩
set_option maxRecDepth 100000 in
theorem ii_mo_longest_29 : sm_D prog_9_method_76_code 29 3 32 (.invokestatic 257) := ⟨by decide +kernel, rfl⟩
set_option maxRecDepth 100000 in
theorem ii_mo_longest_32 : sm_D prog_9_method_76_code 32 3 35 (.if_icmp .ge 64) := ⟨by decide +kernel, rfl⟩
set_option maxRecDepth 100000 in
theorem ii_mo_longest_35 : sm_D prog_9_method_76_code 35 1 36 (.aload_n 0) := ⟨by decide +kernel, rfl⟩
set_option maxRecDepth 100000 in
theorem ii_mo_longest_36 : sm_D prog_9_method_76_code 36 1 37 (.iload_n 3) := ⟨by decide +kernel, rfl⟩
set_option maxRecDepth 100000 in
theorem ii_mo_longest_37 : sm_D prog_9_method_76_code 37 1 38 (.iload_n 2) := ⟨by decide +kernel, rfl⟩
set_option maxRecDepth 100000 in
theorem ii_mo_longest_38 : sm_D prog_9_method_76_code 38 3 41 (.invokevirtual 260) := ⟨by decide +kernel, rfl⟩
set_option maxRecDepth 100000 in
theorem ii_mo_longest_41 : sm_D prog_9_method_76_code 41 1 42 (.aload_n 0) := ⟨by decide +kernel, rfl⟩
set_option maxRecDepth 100000 in
theorem ii_mo_longest_42 : sm_D prog_9_method_76_code 42 3 45 (.invokevirtual 251) := ⟨by decide +kernel, rfl⟩
set_option maxRecDepth 100000 in
theorem ii_mo_longest_45 : sm_D prog_9_method_76_code 45 3 48 (.ifCond .eq 45) := ⟨by decide +kernel, rfl⟩
set_option maxRecDepth 100000 in
theorem ii_mo_longest_48 : sm_D prog_9_method_76_code 48 1 49 (.aload_n 0) := ⟨by decide +kernel, rfl⟩
set_option maxRecDepth 100000 in
theorem ii_mo_longest_49 : sm_D prog_9_method_76_code 49 1 50 (.iload_n 1) := ⟨by decide +kernel, rfl⟩
set_option maxRecDepth 100000 in
theorem ii_mo_longest_50 : sm_D prog_9_method_76_code 50 1 51 (.iload_n 2) := ⟨by decide +kernel, rfl⟩
set_option maxRecDepth 100000 in
theorem ii_mo_longest_51 : sm_D prog_9_method_76_code 51 3 54 (.invokevirtual 85) := ⟨by decide +kernel, rfl⟩
set_option maxRecDepth 100000 in
theorem ii_mo_longest_54 : sm_D prog_9_method_76_code 54 1 55 (.iconst 0) := ⟨by decide +kernel, rfl⟩
set_option maxRecDepth 100000 in
theorem ii_mo_longest_55 : sm_D prog_9_method_76_code 55 2 57 (.istore 4) := ⟨by decide +kernel, rfl⟩
set_option maxRecDepth 100000 in
theorem ii_mo_longest_57 : sm_D prog_9_method_76_code 57 2 59 (.iload 4) := ⟨by decide +kernel, rfl⟩
set_option maxRecDepth 100000 in
theorem ii_mo_longest_59 : sm_D prog_9_method_76_code 59 1 60 (.iload_n 2) := ⟨by decide +kernel, rfl⟩
set_option maxRecDepth 100000 in
theorem ii_mo_longest_60 : sm_D prog_9_method_76_code 60 3 63 (.if_icmp .ge 28) := ⟨by decide +kernel, rfl⟩
set_option maxRecDepth 100000 in
theorem ii_mo_longest_63 : sm_D prog_9_method_76_code 63 1 64 (.aload_n 0) := ⟨by decide +kernel, rfl⟩
set_option maxRecDepth 100000 in
theorem ii_mo_longest_64 : sm_D prog_9_method_76_code 64 3 67 (.getfield 25) := ⟨by decide +kernel, rfl⟩
set_option maxRecDepth 100000 in
theorem ii_mo_longest_67 : sm_D prog_9_method_76_code 67 2 69 (.bipush 40) := ⟨by decide +kernel, rfl⟩
set_option maxRecDepth 100000 in
theorem ii_mo_longest_69 : sm_D prog_9_method_76_code 69 1 70 (.iload_n 1) := ⟨by decide +kernel, rfl⟩
set_option maxRecDepth 100000 in
theorem ii_mo_longest_70 : sm_D prog_9_method_76_code 70 1 71 (.imul) := ⟨by decide +kernel, rfl⟩
set_option maxRecDepth 100000 in
theorem ii_mo_longest_71 : sm_D prog_9_method_76_code 71 2 73 (.iload 4) := ⟨by decide +kernel, rfl⟩
set_option maxRecDepth 100000 in
theorem ii_mo_longest_73 : sm_D prog_9_method_76_code 73 1 74 (.iadd) := ⟨by decide +kernel, rfl⟩
set_option maxRecDepth 100000 in
theorem ii_mo_longest_74 : sm_D prog_9_method_76_code 74 1 75 (.aload_n 0) := ⟨by decide +kernel, rfl⟩
set_option maxRecDepth 100000 in
theorem ii_mo_longest_75 : sm_D prog_9_method_76_code 75 3 78 (.getfield 44) := ⟨by decide +kernel, rfl⟩
set_option maxRecDepth 100000 in
theorem ii_mo_longest_78 : sm_D prog_9_method_76_code 78 2 80 (.iload 4) := ⟨by decide +kernel, rfl⟩
set_option maxRecDepth 100000 in
theorem ii_mo_longest_80 : sm_D prog_9_method_76_code 80 1 81 (.iaload) := ⟨by decide +kernel, rfl⟩
set_option maxRecDepth 100000 in
theorem ii_mo_longest_81 : sm_D prog_9_method_76_code 81 1 82 (.iastore) := ⟨by decide +kernel, rfl⟩
set_option maxRecDepth 100000 in
theorem ii_mo_longest_82 : sm_D prog_9_method_76_code 82 3 85 (.iinc 4 1) := ⟨by decide +kernel, rfl⟩
set_option maxRecDepth 100000 in
theorem ii_mo_longest_85 : sm_D prog_9_method_76_code 85 3 88 (.goto (-28)) := ⟨by decide +kernel, rfl⟩
set_option maxRecDepth 100000 in
theorem ii_mo_longest_88 : sm_D prog_9_method_76_code 88 1 89 (.iload_n 2) := ⟨by decide +kernel, rfl⟩
set_option maxRecDepth 100000 in
theorem ii_mo_longest_89 : sm_D prog_9_method_76_code 89 1 90 (.ireturn) := ⟨by decide +kernel, rfl⟩
set_option maxRecDepth 100000 in
theorem ii_mo_longest_90 : sm_D prog_9_method_76_code 90 3 93 (.iinc 3 1) := ⟨by decide +kernel, rfl⟩
set_option maxRecDepth 100000 in
theorem ii_mo_longest_93 : sm_D prog_9_method_76_code 93 3 96 (.goto (-66)) := ⟨by decide +kernel, rfl⟩
set_option maxRecDepth 100000 in
theorem ii_mo_longest_96 : sm_D prog_9_method_76_code 96 3 99 (.iinc 2 (-1)) := ⟨by decide +kernel, rfl⟩
set_option maxRecDepth 100000 in
theorem ii_mo_longest_99 : sm_D prog_9_method_76_code 99 3 102 (.goto (-78)) := ⟨by decide +kernel, rfl⟩
set_option maxRecDepth 100000 in
theorem ii_mo_longest_102 : sm_D prog_9_method_76_code 102 1 103 (.aload_n 0) := ⟨by decide +kernel, rfl⟩
set_option maxRecDepth 100000 in
theorem ii_mo_longest_103 : sm_D prog_9_method_76_code 103 1 104 (.iload_n 1) := ⟨by decide +kernel, rfl⟩
set_option maxRecDepth 100000 in
theorem ii_mo_longest_104 : sm_D prog_9_method_76_code 104 1 105 (.iconst 0) := ⟨by decide +kernel, rfl⟩
set_option maxRecDepth 100000 in
theorem ii_mo_longest_105 : sm_D prog_9_method_76_code 105 3 108 (.invokevirtual 85) := ⟨by decide +kernel, rfl⟩
set_option maxRecDepth 100000 in
theorem ii_mo_longest_108 : sm_D prog_9_method_76_code 108 1 109 (.iconst 0) := ⟨by decide +kernel, rfl⟩
set_option maxRecDepth 100000 in
theorem ii_mo_longest_109 : sm_D prog_9_method_76_code 109 1 110 (.ireturn) := ⟨by decide +kernel, rfl⟩
noncomputable def ff_mo_longest_57_b  (self57 : Int32 → Int32 → Int32 → sm_Mem → sm_R) (a1 : Int32) (a2 : Int32) (a4 : Int32) (w : sm_Mem) : sm_R := (if a2 ≤ a4 then (some (.int a2, w)) else (Option.bind (sm_rd w 73 5 a4) fun x1 => (Option.bind (sm_wr w 68 240 (((40 : Int32) * a1) + a4) x1) fun w2 => self57 (a1) (a2) ((a4 + (1 : Int32))) w2)))
noncomputable def ff_mo_longest_57_f  : Nat → Int32 → Int32 → Int32 → sm_Mem → sm_R
  | 0, _, _, _, _ => none
  | n + 1, a1, a2, a4, w => ff_mo_longest_57_b  (ff_mo_longest_57_f  n) a1 a2 a4 w
noncomputable def ff_mo_longest_57  (a1 : Int32) (a2 : Int32) (a4 : Int32) (w : sm_Mem) : sm_R := ff_mo_longest_57_f  sm_N a1 a2 a4 w
set_option maxHeartbeats 4000000 in
set_option maxRecDepth 100000 in
theorem ss_mo_longest_57_b {E : Nat × (Nat → Int32)}  (self57 : Int32 → Int32 → Int32 → sm_Mem → sm_R) (hself57 : ∀ (a1 : Int32) (a2 : Int32) (a4 : Int32) (w : sm_Mem), sm_Sim E (mi_mo_longest) 57 [some (.ref 62), some (.int a1), some (.int a2), none, some (.int a4)] [] w (self57 a1 a2 a4 w)) (a1 : Int32) (a2 : Int32) (a4 : Int32) (w : sm_Mem) : sm_Sim E (mi_mo_longest) 57 [some (.ref 62), some (.int a1), some (.int a2), none, some (.int a4)] [] w (ff_mo_longest_57_b  self57 a1 a2 a4 w) := by
  unfold ff_mo_longest_57_b
  refine sm_iload ii_mo_longest_57 rfl ?_
  refine sm_iload_n ii_mo_longest_59 rfl ?_
  refine sm_icmp_ge 88 ii_mo_longest_60 (by decide) ?_ ?_
  · refine sm_iload_n ii_mo_longest_88 rfl ?_
    exact sm_iret ii_mo_longest_89 rfl
  · refine sm_aload_n ii_mo_longest_63 rfl ?_
    refine sm_getR 68 ii_mo_longest_64 fl_mo_25 (k := 62) rfl ?_
    refine sm_bipush (40 : Int32) ii_mo_longest_67 (by decide) ?_
    refine sm_iload_n ii_mo_longest_69 rfl ?_
    refine sm_imul ii_mo_longest_70 ?_
    refine sm_iload ii_mo_longest_71 rfl ?_
    refine sm_iadd ii_mo_longest_73 ?_
    refine sm_aload_n ii_mo_longest_74 rfl ?_
    refine sm_getR 73 ii_mo_longest_75 fl_mo_44 (k := 62) rfl ?_
    refine sm_iload ii_mo_longest_78 rfl ?_
    refine sm_iald ii_mo_longest_80 (k := 73) rfl (fun x1 => ?_)
    refine sm_iast ii_mo_longest_81 (k := 68) rfl (fun w2 => ?_)
    refine sm_iinc (a4 + (1 : Int32)) [some (.ref 62), some (.int a1), some (.int a2), none, some (.int (a4 + (1 : Int32)))] ii_mo_longest_82 rfl rfl rfl rfl ?_
    refine sm_goto 57 ii_mo_longest_85 (by decide) ?_
    exact hself57 (a1) (a2) ((a4 + (1 : Int32))) w2
set_option maxHeartbeats 4000000 in
set_option maxRecDepth 100000 in
theorem ss_mo_longest_57_f {E : Nat × (Nat → Int32)}  : ∀ (n : Nat) (a1 : Int32) (a2 : Int32) (a4 : Int32) (w : sm_Mem), sm_Sim E (mi_mo_longest) 57 [some (.ref 62), some (.int a1), some (.int a2), none, some (.int a4)] [] w (ff_mo_longest_57_f  n a1 a2 a4 w)
  | 0, _, _, _, _ => fun _ _ h => by cases h
  | n + 1, a1, a2, a4, w => ss_mo_longest_57_b  _ (ss_mo_longest_57_f  n) a1 a2 a4 w
set_option maxHeartbeats 4000000 in
set_option maxRecDepth 100000 in
theorem ss_mo_longest_57 {E : Nat × (Nat → Int32)}  (a1 : Int32) (a2 : Int32) (a4 : Int32) (w : sm_Mem) : sm_Sim E (mi_mo_longest) 57 [some (.ref 62), some (.int a1), some (.int a2), none, some (.int a4)] [] w (ff_mo_longest_57  a1 a2 a4 w) := ss_mo_longest_57_f  sm_N a1 a2 a4 w
noncomputable def ff_mo_longest_27_b (self21 : Int32 → Int32 → sm_Mem → sm_R) (self27 : Int32 → Int32 → Int32 → sm_Mem → sm_R) (a1 : Int32) (a2 : Int32) (a3 : Int32) (w : sm_Mem) : sm_R := (sm_cI (ff_mo_sixes (a2) w) fun x3 w4 => (if x3 ≤ a3 then self21 (a1) ((a2 + (-1 : Int32))) w4 else (sm_cV (ff_mo_layNumber (a3) (a2) w4) fun w6 => (sm_cI (ff_mo_hasWay  w6) fun x7 w8 => (if x7 = (0 : Int32) then self27 (a1) (a2) ((a3 + (1 : Int32))) w8 else (sm_cV (ff_mo_makeRow (a1) (a2) w8) fun w10 => ff_mo_longest_57 (a1) (a2) ((0 : Int32)) w10))))))
noncomputable def ff_mo_longest_27_f (self21 : Int32 → Int32 → sm_Mem → sm_R) : Nat → Int32 → Int32 → Int32 → sm_Mem → sm_R
  | 0, _, _, _, _ => none
  | n + 1, a1, a2, a3, w => ff_mo_longest_27_b self21 (ff_mo_longest_27_f self21 n) a1 a2 a3 w
noncomputable def ff_mo_longest_27 (self21 : Int32 → Int32 → sm_Mem → sm_R) (a1 : Int32) (a2 : Int32) (a3 : Int32) (w : sm_Mem) : sm_R := ff_mo_longest_27_f self21 sm_N a1 a2 a3 w
set_option maxHeartbeats 4000000 in
set_option maxRecDepth 100000 in
theorem ss_mo_longest_27_b {E : Nat × (Nat → Int32)} (self21 : Int32 → Int32 → sm_Mem → sm_R) (hself21 : ∀ (a1 : Int32) (a2 : Int32) (w : sm_Mem), sm_Sim E (mi_mo_longest) 21 [some (.ref 62), some (.int a1), some (.int a2), none, none] [] w (self21 a1 a2 w)) (self27 : Int32 → Int32 → Int32 → sm_Mem → sm_R) (hself27 : ∀ (a1 : Int32) (a2 : Int32) (a3 : Int32) (w : sm_Mem), sm_Sim E (mi_mo_longest) 27 [some (.ref 62), some (.int a1), some (.int a2), some (.int a3), none] [] w (self27 a1 a2 a3 w)) (a1 : Int32) (a2 : Int32) (a3 : Int32) (w : sm_Mem) : sm_Sim E (mi_mo_longest) 27 [some (.ref 62), some (.int a1), some (.int a2), some (.int a3), none] [] w (ff_mo_longest_27_b self21 self27 a1 a2 a3 w) := by
  unfold ff_mo_longest_27_b
  refine sm_iload_n ii_mo_longest_27 rfl ?_
  refine sm_iload_n ii_mo_longest_28 rfl ?_
  refine sm_csI [.int a2] [.int a3] rfl ii_mo_longest_29 ml_mo_257 (mf_mo_sixes) (mv_mo_sixes) (Nat.le_of_ble_eq_true rfl) rfl rfl rfl (mc_mo_sixes (a2) w) (fun x3 w4 => ?_)
  refine sm_icmp_ge 96 ii_mo_longest_32 (by decide) ?_ ?_
  · refine sm_iinc (a2 + (-1 : Int32)) [some (.ref 62), some (.int a1), some (.int (a2 + (-1 : Int32))), some (.int a3), none] ii_mo_longest_96 rfl rfl rfl rfl ?_
    refine sm_goto 21 ii_mo_longest_99 (by decide) ?_
    refine sm_msk [true, true, true, false, false] [some (.ref 62), some (.int a1), some (.int (a2 + (-1 : Int32))), none, none] rfl ?_
    exact hself21 (a1) ((a2 + (-1 : Int32))) w4
  · refine sm_aload_n ii_mo_longest_35 rfl ?_
    refine sm_iload_n ii_mo_longest_36 rfl ?_
    refine sm_iload_n ii_mo_longest_37 rfl ?_
    refine sm_cvV [.int a3, .int a2] [] rfl ii_mo_longest_38 ml_mo_260 (mf_mo_layNumber) (mv_mo_layNumber) (Nat.le_of_ble_eq_true rfl) rfl 7 rfl rfl rfl rfl (mc_mo_layNumber (a3) (a2) w4) (fun w6 => ?_)
    refine sm_aload_n ii_mo_longest_41 rfl ?_
    refine sm_cvI [] [] rfl ii_mo_longest_42 ml_mo_251 (mf_mo_hasWay) (mv_mo_hasWay) (Nat.le_of_ble_eq_true rfl) rfl 7 rfl rfl rfl rfl (mc_mo_hasWay  w6) (fun x7 w8 => ?_)
    refine sm_if_eq 90 ii_mo_longest_45 (by decide) ?_ ?_
    · refine sm_iinc (a3 + (1 : Int32)) [some (.ref 62), some (.int a1), some (.int a2), some (.int (a3 + (1 : Int32))), none] ii_mo_longest_90 rfl rfl rfl rfl ?_
      refine sm_goto 27 ii_mo_longest_93 (by decide) ?_
      exact hself27 (a1) (a2) ((a3 + (1 : Int32))) w8
    · refine sm_aload_n ii_mo_longest_48 rfl ?_
      refine sm_iload_n ii_mo_longest_49 rfl ?_
      refine sm_iload_n ii_mo_longest_50 rfl ?_
      refine sm_cvV [.int a1, .int a2] [] rfl ii_mo_longest_51 ml_mo_85 (mf_mo_makeRow) (mv_mo_makeRow) (Nat.le_of_ble_eq_true rfl) rfl 7 rfl rfl rfl rfl (mc_mo_makeRow (a1) (a2) w8) (fun w10 => ?_)
      refine sm_iconst (0 : Int32) ii_mo_longest_54 (by decide) ?_
      refine sm_istore [some (.ref 62), some (.int a1), some (.int a2), some (.int a3), some (.int (0 : Int32))] ii_mo_longest_55 rfl rfl ?_
      refine sm_msk [true, true, true, false, true] [some (.ref 62), some (.int a1), some (.int a2), none, some (.int (0 : Int32))] rfl ?_
      exact ss_mo_longest_57 (a1) (a2) ((0 : Int32)) w10
set_option maxHeartbeats 4000000 in
set_option maxRecDepth 100000 in
theorem ss_mo_longest_27_f {E : Nat × (Nat → Int32)} (self21 : Int32 → Int32 → sm_Mem → sm_R) (hself21 : ∀ (a1 : Int32) (a2 : Int32) (w : sm_Mem), sm_Sim E (mi_mo_longest) 21 [some (.ref 62), some (.int a1), some (.int a2), none, none] [] w (self21 a1 a2 w)) : ∀ (n : Nat) (a1 : Int32) (a2 : Int32) (a3 : Int32) (w : sm_Mem), sm_Sim E (mi_mo_longest) 27 [some (.ref 62), some (.int a1), some (.int a2), some (.int a3), none] [] w (ff_mo_longest_27_f self21 n a1 a2 a3 w)
  | 0, _, _, _, _ => fun _ _ h => by cases h
  | n + 1, a1, a2, a3, w => ss_mo_longest_27_b self21 hself21 _ (ss_mo_longest_27_f self21 hself21 n) a1 a2 a3 w
set_option maxHeartbeats 4000000 in
set_option maxRecDepth 100000 in
theorem ss_mo_longest_27 {E : Nat × (Nat → Int32)} (self21 : Int32 → Int32 → sm_Mem → sm_R) (hself21 : ∀ (a1 : Int32) (a2 : Int32) (w : sm_Mem), sm_Sim E (mi_mo_longest) 21 [some (.ref 62), some (.int a1), some (.int a2), none, none] [] w (self21 a1 a2 w)) (a1 : Int32) (a2 : Int32) (a3 : Int32) (w : sm_Mem) : sm_Sim E (mi_mo_longest) 27 [some (.ref 62), some (.int a1), some (.int a2), some (.int a3), none] [] w (ff_mo_longest_27 self21 a1 a2 a3 w) := ss_mo_longest_27_f self21 hself21 sm_N a1 a2 a3 w
noncomputable def ff_mo_longest_21_b  (self21 : Int32 → Int32 → sm_Mem → sm_R) (a1 : Int32) (a2 : Int32) (w : sm_Mem) : sm_R := (if a2 ≤ (0 : Int32) then (sm_cV (ff_mo_makeRow (a1) ((0 : Int32)) w) fun w12 => (some (.int (0 : Int32), w12))) else ff_mo_longest_27 self21 (a1) (a2) ((0 : Int32)) w)
noncomputable def ff_mo_longest_21_f  : Nat → Int32 → Int32 → sm_Mem → sm_R
  | 0, _, _, _ => none
  | n + 1, a1, a2, w => ff_mo_longest_21_b  (ff_mo_longest_21_f  n) a1 a2 w
noncomputable def ff_mo_longest_21  (a1 : Int32) (a2 : Int32) (w : sm_Mem) : sm_R := ff_mo_longest_21_f  sm_N a1 a2 w
set_option maxHeartbeats 4000000 in
set_option maxRecDepth 100000 in
theorem ss_mo_longest_21_b {E : Nat × (Nat → Int32)}  (self21 : Int32 → Int32 → sm_Mem → sm_R) (hself21 : ∀ (a1 : Int32) (a2 : Int32) (w : sm_Mem), sm_Sim E (mi_mo_longest) 21 [some (.ref 62), some (.int a1), some (.int a2), none, none] [] w (self21 a1 a2 w)) (a1 : Int32) (a2 : Int32) (w : sm_Mem) : sm_Sim E (mi_mo_longest) 21 [some (.ref 62), some (.int a1), some (.int a2), none, none] [] w (ff_mo_longest_21_b  self21 a1 a2 w) := by
  unfold ff_mo_longest_21_b
  refine sm_iload_n ii_mo_longest_21 rfl ?_
  refine sm_if_le 102 ii_mo_longest_22 (by decide) ?_ ?_
  · refine sm_aload_n ii_mo_longest_102 rfl ?_
    refine sm_iload_n ii_mo_longest_103 rfl ?_
    refine sm_iconst (0 : Int32) ii_mo_longest_104 (by decide) ?_
    refine sm_cvV [.int a1, .int (0 : Int32)] [] rfl ii_mo_longest_105 ml_mo_85 (mf_mo_makeRow) (mv_mo_makeRow) (Nat.le_of_ble_eq_true rfl) rfl 7 rfl rfl rfl rfl (mc_mo_makeRow (a1) ((0 : Int32)) w) (fun w12 => ?_)
    refine sm_iconst (0 : Int32) ii_mo_longest_108 (by decide) ?_
    exact sm_iret ii_mo_longest_109 rfl
  · refine sm_iconst (0 : Int32) ii_mo_longest_25 (by decide) ?_
    refine sm_istore_n [some (.ref 62), some (.int a1), some (.int a2), some (.int (0 : Int32)), none] ii_mo_longest_26 rfl rfl ?_
    exact ss_mo_longest_27 self21 hself21 (a1) (a2) ((0 : Int32)) w
set_option maxHeartbeats 4000000 in
set_option maxRecDepth 100000 in
theorem ss_mo_longest_21_f {E : Nat × (Nat → Int32)}  : ∀ (n : Nat) (a1 : Int32) (a2 : Int32) (w : sm_Mem), sm_Sim E (mi_mo_longest) 21 [some (.ref 62), some (.int a1), some (.int a2), none, none] [] w (ff_mo_longest_21_f  n a1 a2 w)
  | 0, _, _, _ => fun _ _ h => by cases h
  | n + 1, a1, a2, w => ss_mo_longest_21_b  _ (ss_mo_longest_21_f  n) a1 a2 w
set_option maxHeartbeats 4000000 in
set_option maxRecDepth 100000 in
theorem ss_mo_longest_21 {E : Nat × (Nat → Int32)}  (a1 : Int32) (a2 : Int32) (w : sm_Mem) : sm_Sim E (mi_mo_longest) 21 [some (.ref 62), some (.int a1), some (.int a2), none, none] [] w (ff_mo_longest_21  a1 a2 w) := ss_mo_longest_21_f  sm_N a1 a2 w
noncomputable def ff_mo_longest  (a1 : Int32) (w : sm_Mem) : sm_R := (sm_cI (ff_mo_isRow (a1) w) fun x13 w14 => (if x13 = (0 : Int32) then (some (.int (-1 : Int32), w14)) else (if (w14.1 62 1) = (0 : Int32) then (some (.int (-4 : Int32), w14)) else ff_mo_longest_21 (a1) ((4 : Int32)) w14)))
set_option maxHeartbeats 4000000 in
set_option maxRecDepth 100000 in
theorem ss_mo_longest_0 {E : Nat × (Nat → Int32)}  (a1 : Int32) (w : sm_Mem) : sm_Sim E (mi_mo_longest) 0 [some (.ref 62), some (.int a1), none, none, none] [] w (ff_mo_longest  a1 w) := by
  unfold ff_mo_longest
  refine sm_iload_n ii_mo_longest_0 rfl ?_
  refine sm_csI [.int a1] [] rfl ii_mo_longest_1 ml_mo_77 (mf_mo_isRow) (mv_mo_isRow) (Nat.le_of_ble_eq_true rfl) rfl rfl rfl (mc_mo_isRow (a1) w) (fun x13 w14 => ?_)
  refine sm_if_ne 9 ii_mo_longest_4 (by decide) ?_ ?_
  · refine sm_iconst (-1 : Int32) ii_mo_longest_7 (by decide) ?_
    exact sm_iret ii_mo_longest_8 rfl
  · refine sm_aload_n ii_mo_longest_9 rfl ?_
    refine sm_getI ii_mo_longest_10 fl_mo_135 (k := 62) rfl ?_
    refine sm_if_ne 19 ii_mo_longest_13 (by decide) ?_ ?_
    · refine sm_bipush (-4 : Int32) ii_mo_longest_16 (by decide) ?_
      exact sm_iret ii_mo_longest_18 rfl
    · refine sm_iconst (4 : Int32) ii_mo_longest_19 (by decide) ?_
      refine sm_istore_n [some (.ref 62), some (.int a1), some (.int (4 : Int32)), none, none] ii_mo_longest_20 rfl rfl ?_
      exact ss_mo_longest_21 (a1) ((4 : Int32)) w14
set_option maxHeartbeats 4000000 in
set_option maxRecDepth 100000 in
theorem mc_mo_longest (a1 : Int32) (w : sm_Mem) : sm_MC mi_mo_longest [.ref 62, .int a1] w (ff_mo_longest a1 w) := sm_MC_of (0, fun _ => 0) (by decide +kernel) (by decide) rfl (Nat.le_of_ble_eq_true rfl) (ss_mo_longest_0 a1 w)
