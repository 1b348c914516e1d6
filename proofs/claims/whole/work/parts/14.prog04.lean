/-! the program, by a program: functions of its methods and that the methods do them -/
set_option maxRecDepth 100000 in
theorem ml_mo_197 : sm_ML "HerOrdersModel" 197 ⟨"HerOrdersModel", "doHour", "()I"⟩ := Or.inl (List.mem_of_getElem? (i := 1215) (by decide +kernel))
set_option maxRecDepth 100000 in
theorem fl_ho_163 : sm_FL "HerOrders" 163 1 5 := ⟨RX1, TX1, 13, rfl, by decide, rfl, sm_inX1, Or.inr ⟨"HerOrders", List.mem_of_getElem? (i := 214) (by decide +kernel)⟩⟩
set_option maxRecDepth 100000 in
theorem mq_ho_166 : Cond.methodLink "HerOrders" 166 Lib.Math.abs.name ∈ lw_tbl := List.mem_of_getElem? (i := 591) (by decide +kernel)
set_option maxRecDepth 100000 in
theorem fl_ho_171 : sm_FL "HerOrders" 171 1 12 := ⟨RX1, TX1, 13, rfl, by decide, rfl, sm_inX1, Or.inr ⟨"HerOrders", List.mem_of_getElem? (i := 229) (by decide +kernel)⟩⟩
set_option maxRecDepth 100000 in
theorem fl_ho_114 : sm_FL "HerOrders" 114 0 3 := ⟨RX0, TX0, 4, rfl, by decide, rfl, sm_inX0, Or.inr ⟨"HerOrders", List.mem_of_getElem? (i := 184) (by decide +kernel)⟩⟩
set_option maxRecDepth 100000 in
theorem ml_ho_175 : sm_ML "HerOrders" 175 ⟨"HerOrders$House", "goBackTo", "(I)V"⟩ := Or.inr ⟨"HerOrders", List.mem_of_getElem? (i := 596) (by decide +kernel)⟩
set_option maxRecDepth 100000 in
theorem ml_ho_178 : sm_ML "HerOrders" 178 ⟨"HerOrders$Deeds", "become", "(LHerOrders$Deeds;)V"⟩ := Or.inr ⟨"HerOrders", List.mem_of_getElem? (i := 601) (by decide +kernel)⟩
set_option maxRecDepth 100000 in
theorem ml_mo_202 : sm_ML "HerOrdersModel" 202 ⟨"HerOrdersModel", "copyHouse", "(II)V"⟩ := Or.inl (List.mem_of_getElem? (i := 1232) (by decide +kernel))
set_option maxRecDepth 100000 in
theorem ml_ho_182 : sm_ML "HerOrders" 182 ⟨"HerOrders$Deeds", "isMissing", "()Z"⟩ := Or.inr ⟨"HerOrders", List.mem_of_getElem? (i := 609) (by decide +kernel)⟩
set_option maxRecDepth 100000 in
theorem ml_mo_205 : sm_ML "HerOrdersModel" 205 ⟨"HerOrdersModel", "whoCan", "(II)I"⟩ := Or.inl (List.mem_of_getElem? (i := 1244) (by decide +kernel))
set_option maxRecDepth 100000 in
theorem ml_ho_183 : sm_ML "HerOrders" 183 ⟨"HerOrders$House", "sayable", "(I)I"⟩ := Or.inr ⟨"HerOrders", List.mem_of_getElem? (i := 621) (by decide +kernel)⟩
set_option maxRecDepth 100000 in
theorem fl_ho_186 : sm_FL "HerOrders" 186 1 10 := ⟨RX1, TX1, 13, rfl, by decide, rfl, sm_inX1, Or.inr ⟨"HerOrders", List.mem_of_getElem? (i := 224) (by decide +kernel)⟩⟩
set_option maxRecDepth 100000 in
theorem fl_ho_189 : sm_FL "HerOrders" 189 1 9 := ⟨RX1, TX1, 13, rfl, by decide, rfl, sm_inX1, Or.inr ⟨"HerOrders", List.mem_of_getElem? (i := 222) (by decide +kernel)⟩⟩
set_option maxRecDepth 100000 in
theorem ml_rw_32 : sm_ML "HerOrders$Row" 32 ⟨"HerOrders", "isWithin", "(II)Z"⟩ := Or.inr ⟨"HerOrders", List.mem_of_getElem? (i := 638) (by decide +kernel)⟩
set_option maxRecDepth 100000 in
theorem ml_ho_325 : sm_ML "HerOrders" 325 ⟨"HerOrders$Row", "isOfWords", "()Z"⟩ := Or.inr ⟨"HerOrders", List.mem_of_getElem? (i := 634) (by decide +kernel)⟩
set_option maxRecDepth 100000 in
theorem fl_wy_28 : sm_FL "HerOrders$Ways" 28 5 6 := ⟨RX5, TX5, 14, rfl, by decide, rfl, sm_inX5, Or.inl (List.mem_of_getElem? (i := 271) (by decide +kernel))⟩
set_option maxRecDepth 100000 in
theorem fp_wy_66 : sm_FP "HerOrders$Ways" 66 5 8 .int := ⟨RX5, TX5, 14, tyX5, rfl, by decide, rfl, sm_inX5, tyX5_ok, nmX5, rfl, by decide +kernel, Or.inl (List.mem_of_getElem? (i := 274) (by decide +kernel))⟩
set_option maxRecDepth 100000 in
theorem fp_wy_69 : sm_FP "HerOrders$Ways" 69 5 9 .int := ⟨RX5, TX5, 14, tyX5, rfl, by decide, rfl, sm_inX5, tyX5_ok, nmX5, rfl, by decide +kernel, Or.inl (List.mem_of_getElem? (i := 276) (by decide +kernel))⟩
set_option maxRecDepth 100000 in
theorem fp_wy_72 : sm_FP "HerOrders$Ways" 72 5 10 .int := ⟨RX5, TX5, 14, tyX5, rfl, by decide, rfl, sm_inX5, tyX5_ok, nmX5, rfl, by decide +kernel, Or.inl (List.mem_of_getElem? (i := 278) (by decide +kernel))⟩
set_option maxRecDepth 100000 in
theorem fp_wy_75 : sm_FP "HerOrders$Ways" 75 5 11 .int := ⟨RX5, TX5, 14, tyX5, rfl, by decide, rfl, sm_inX5, tyX5_ok, nmX5, rfl, by decide +kernel, Or.inl (List.mem_of_getElem? (i := 279) (by decide +kernel))⟩
set_option maxRecDepth 100000 in
theorem fp_wy_78 : sm_FP "HerOrders$Ways" 78 5 13 .int := ⟨RX5, TX5, 14, tyX5, rfl, by decide, rfl, sm_inX5, tyX5_ok, nmX5, rfl, by decide +kernel, Or.inl (List.mem_of_getElem? (i := 282) (by decide +kernel))⟩
set_option maxRecDepth 100000 in
theorem fl_wy_25 : sm_FL "HerOrders$Ways" 25 5 5 := ⟨RX5, TX5, 14, rfl, by decide, rfl, sm_inX5, Or.inl (List.mem_of_getElem? (i := 269) (by decide +kernel))⟩
set_option maxRecDepth 100000 in
theorem fp_wy_63 : sm_FP "HerOrders$Ways" 63 5 12 .int := ⟨RX5, TX5, 14, tyX5, rfl, by decide, rfl, sm_inX5, tyX5_ok, nmX5, rfl, by decide +kernel, Or.inl (List.mem_of_getElem? (i := 281) (by decide +kernel))⟩
set_option maxRecDepth 100000 in
theorem ml_wy_102 : sm_ML "HerOrders$Ways" 102 ⟨"java/lang/Integer", "bitCount", "(I)I"⟩ := Or.inl (List.mem_of_getElem? (i := 657) (by decide +kernel))
set_option maxRecDepth 100000 in
theorem fl_wy_49 : sm_FL "HerOrders$Ways" 49 5 3 := ⟨RX5, TX5, 14, rfl, by decide, rfl, sm_inX5, Or.inl (List.mem_of_getElem? (i := 266) (by decide +kernel))⟩
set_option maxRecDepth 100000 in
theorem fl_wy_78 : sm_FL "HerOrders$Ways" 78 5 13 := ⟨RX5, TX5, 14, rfl, by decide, rfl, sm_inX5, Or.inl (List.mem_of_getElem? (i := 282) (by decide +kernel))⟩
set_option maxRecDepth 100000 in
theorem ml_wy_111 : sm_ML "HerOrders$Ways" 111 ⟨"HerOrders$Ways", "isLess", "(II)Z"⟩ := Or.inl (List.mem_of_getElem? (i := 662) (by decide +kernel))
set_option maxRecDepth 100000 in
theorem fl_wy_22 : sm_FL "HerOrders$Ways" 22 5 4 := ⟨RX5, TX5, 14, rfl, by decide, rfl, sm_inX5, Or.inl (List.mem_of_getElem? (i := 268) (by decide +kernel))⟩
set_option maxRecDepth 100000 in
theorem fl_wy_63 : sm_FL "HerOrders$Ways" 63 5 12 := ⟨RX5, TX5, 14, rfl, by decide, rfl, sm_inX5, Or.inl (List.mem_of_getElem? (i := 281) (by decide +kernel))⟩
set_option maxRecDepth 100000 in
theorem fl_wy_15 : sm_FL "HerOrders$Ways" 15 5 1 := ⟨RX5, TX5, 14, rfl, by decide, rfl, sm_inX5, Or.inl (List.mem_of_getElem? (i := 264) (by decide +kernel))⟩
abbrev mi_ho_hour : sm_MI := (⟨"HerOrders", "hour", "()I"⟩, prog_1_method_16_code, 1, (some .int), 4)
set_option maxRecDepth 100000 in
theorem mf_ho_hour : sm_MF mi_ho_hour 0 := ⟨List.mem_of_getElem? (i := 586) (by decide +kernel), List.mem_of_getElem? (i := 124) (by decide +kernel), ⟨by decide, by decide⟩, by decide +kernel⟩
set_option maxRecDepth 100000 in
theorem mv_ho_hour : sm_MFV mi_ho_hour := ⟨List.mem_of_getElem? (i := 584) (by decide +kernel), List.mem_of_getElem? (i := 585) (by decide +kernel)⟩
set_option maxRecDepth 100000 in
theorem ii_ho_hour_0 : sm_D prog_1_method_16_code 0 1 1 (.aload_n 0) := ⟨by decide +kernel, rfl⟩
set_option maxRecDepth 100000 in
theorem ii_ho_hour_1 : sm_D prog_1_method_16_code 1 3 4 (.getfield 31) := ⟨by decide +kernel, rfl⟩
set_option maxRecDepth 100000 in
theorem ii_ho_hour_4 : sm_D prog_1_method_16_code 4 3 7 (.getfield 115) := ⟨by decide +kernel, rfl⟩
set_option maxRecDepth 100000 in
theorem ii_ho_hour_7 : sm_D prog_1_method_16_code 7 3 10 (.ifCond .ne 6) := ⟨by decide +kernel, rfl⟩
set_option maxRecDepth 100000 in
theorem ii_ho_hour_10 : sm_D prog_1_method_16_code 10 2 12 (.bipush (-4)) := ⟨by decide +kernel, rfl⟩
set_option maxRecDepth 100000 in
theorem ii_ho_hour_12 : sm_D prog_1_method_16_code 12 1 13 (.ireturn) := ⟨by decide +kernel, rfl⟩
set_option maxRecDepth 100000 in
theorem ii_ho_hour_13 : sm_D prog_1_method_16_code 13 1 14 (.aload_n 0) := ⟨by decide +kernel, rfl⟩
set_option maxRecDepth 100000 in
theorem ii_ho_hour_14 : sm_D prog_1_method_16_code 14 3 17 (.getfield 31) := ⟨by decide +kernel, rfl⟩
set_option maxRecDepth 100000 in
theorem ii_ho_hour_17 : sm_D prog_1_method_16_code 17 3 20 (.invokevirtual 155) := ⟨by decide +kernel, rfl⟩
set_option maxRecDepth 100000 in
theorem ii_ho_hour_20 : sm_D prog_1_method_16_code 20 3 23 (.ifCond .eq 6) := ⟨by decide +kernel, rfl⟩
set_option maxRecDepth 100000 in
theorem ii_ho_hour_23 : sm_D prog_1_method_16_code 23 2 25 (.bipush (-2)) := ⟨by decide +kernel, rfl⟩
set_option maxRecDepth 100000 in
theorem ii_ho_hour_25 : sm_D prog_1_method_16_code 25 1 26 (.ireturn) := ⟨by decide +kernel, rfl⟩
set_option maxRecDepth 100000 in
theorem ii_ho_hour_26 : sm_D prog_1_method_16_code 26 1 27 (.aload_n 0) := ⟨by decide +kernel, rfl⟩
set_option maxRecDepth 100000 in
theorem ii_ho_hour_27 : sm_D prog_1_method_16_code 27 3 30 (.getfield 31) := ⟨by decide +kernel, rfl⟩
set_option maxRecDepth 100000 in
theorem ii_ho_hour_30 : sm_D prog_1_method_16_code 30 1 31 (.iconst 2) := ⟨by decide +kernel, rfl⟩
set_option maxRecDepth 100000 in
theorem ii_ho_hour_31 : sm_D prog_1_method_16_code 31 1 32 (.iconst 0) := ⟨by decide +kernel, rfl⟩
set_option maxRecDepth 100000 in
theorem ii_ho_hour_32 : sm_D prog_1_method_16_code 32 1 33 (.iconst 0) := ⟨by decide +kernel, rfl⟩
set_option maxRecDepth 100000 in
theorem ii_ho_hour_33 : sm_D prog_1_method_16_code 33 3 36 (.invokevirtual 158) := ⟨by decide +kernel, rfl⟩
set_option maxRecDepth 100000 in
theorem ii_ho_hour_36 : sm_D prog_1_method_16_code 36 1 37 (.aload_n 0) := ⟨by decide +kernel, rfl⟩
set_option maxRecDepth 100000 in
theorem ii_ho_hour_37 : sm_D prog_1_method_16_code 37 3 40 (.getfield 31) := ⟨by decide +kernel, rfl⟩
set_option maxRecDepth 100000 in
theorem ii_ho_hour_40 : sm_D prog_1_method_16_code 40 3 43 (.getfield 135) := ⟨by decide +kernel, rfl⟩
set_option maxRecDepth 100000 in
theorem ii_ho_hour_43 : sm_D prog_1_method_16_code 43 1 44 (.ireturn) := ⟨by decide +kernel, rfl⟩
noncomputable def ff_ho_hour   (w : sm_Mem) : sm_R := (if (w.1 36 0) = (0 : Int32) then (some (.int (-4 : Int32), w)) else (sm_cI (ff_hs_isFull  w) fun x1 w2 => (if x1 = (0 : Int32) then (sm_cV (ff_hs_enact ((2 : Int32)) ((0 : Int32)) ((0 : Int32)) w2) fun w4 => (some (.int (w4.1 36 7), w4))) else (some (.int (-2 : Int32), w2)))))
set_option maxHeartbeats 4000000 in
set_option maxRecDepth 100000 in
theorem ss_ho_hour_0 {E : Nat × (Nat → Int32)}   (w : sm_Mem) : sm_Sim E (mi_ho_hour) 0 [some (.ref 0)] [] w (ff_ho_hour   w) := by
  unfold ff_ho_hour
  refine sm_aload_n ii_ho_hour_0 rfl ?_
  refine sm_getR 36 ii_ho_hour_1 fl_ho_31 (k := 0) rfl ?_
  refine sm_getI ii_ho_hour_4 fl_ho_115 (k := 36) rfl ?_
  refine sm_if_ne 13 ii_ho_hour_7 (by decide) ?_ ?_
  · refine sm_bipush (-4 : Int32) ii_ho_hour_10 (by decide) ?_
    exact sm_iret ii_ho_hour_12 rfl
  · refine sm_aload_n ii_ho_hour_13 rfl ?_
    refine sm_getR 36 ii_ho_hour_14 fl_ho_31 (k := 0) rfl ?_
    refine sm_cvI [] [] rfl ii_ho_hour_17 ml_ho_155 (mf_hs_isFull) (mv_hs_isFull) (Nat.le_of_ble_eq_true rfl) rfl 1 rfl rfl rfl rfl (mc_hs_isFull  w) (fun x1 w2 => ?_)
    refine sm_if_eq 26 ii_ho_hour_20 (by decide) ?_ ?_
    · refine sm_aload_n ii_ho_hour_26 rfl ?_
      refine sm_getR 36 ii_ho_hour_27 fl_ho_31 (k := 0) rfl ?_
      refine sm_iconst (2 : Int32) ii_ho_hour_30 (by decide) ?_
      refine sm_iconst (0 : Int32) ii_ho_hour_31 (by decide) ?_
      refine sm_iconst (0 : Int32) ii_ho_hour_32 (by decide) ?_
      refine sm_cvV [.int (2 : Int32), .int (0 : Int32), .int (0 : Int32)] [] rfl ii_ho_hour_33 ml_ho_158 (mf_hs_enact) (mv_hs_enact) (Nat.le_of_ble_eq_true rfl) rfl 1 rfl rfl rfl rfl (mc_hs_enact ((2 : Int32)) ((0 : Int32)) ((0 : Int32)) w2) (fun w4 => ?_)
      refine sm_aload_n ii_ho_hour_36 rfl ?_
      refine sm_getR 36 ii_ho_hour_37 fl_ho_31 (k := 0) rfl ?_
      refine sm_getI ii_ho_hour_40 fl_ho_135 (k := 36) rfl ?_
      exact sm_iret ii_ho_hour_43 rfl
    · refine sm_bipush (-2 : Int32) ii_ho_hour_23 (by decide) ?_
      exact sm_iret ii_ho_hour_25 rfl
set_option maxHeartbeats 4000000 in
set_option maxRecDepth 100000 in
theorem mc_ho_hour  (w : sm_Mem) : sm_MC mi_ho_hour [.ref 0] w (ff_ho_hour  w) := sm_MC_of (0, fun _ => 0) (by decide +kernel) (by decide) rfl (Nat.le_of_ble_eq_true rfl) (ss_ho_hour_0  w)
abbrev mi_mo_doHour : sm_MI := (⟨"HerOrdersModel", "doHour", "()I"⟩, prog_9_method_50_code, 2, (some .int), 2)
set_option maxRecDepth 100000 in
theorem mf_mo_doHour : sm_MF mi_mo_doHour 0 := ⟨List.mem_of_getElem? (i := 1218) (by decide +kernel), List.mem_of_getElem? (i := 132) (by decide +kernel), ⟨by decide, by decide⟩, by decide +kernel⟩
set_option maxRecDepth 100000 in
theorem mv_mo_doHour : sm_MFV mi_mo_doHour := ⟨List.mem_of_getElem? (i := 1217) (by decide +kernel), List.mem_of_getElem? (i := 96) (by decide +kernel)⟩
set_option maxRecDepth 100000 in
theorem ii_mo_doHour_0 : sm_D prog_9_method_50_code 0 1 1 (.aload_n 0) := ⟨by decide +kernel, rfl⟩
set_option maxRecDepth 100000 in
theorem ii_mo_doHour_1 : sm_D prog_9_method_50_code 1 3 4 (.invokevirtual 187) := ⟨by decide +kernel, rfl⟩
set_option maxRecDepth 100000 in
theorem ii_mo_doHour_4 : sm_D prog_9_method_50_code 4 1 5 (.aload_n 0) := ⟨by decide +kernel, rfl⟩
set_option maxRecDepth 100000 in
theorem ii_mo_doHour_5 : sm_D prog_9_method_50_code 5 3 8 (.getfield 7) := ⟨by decide +kernel, rfl⟩
set_option maxRecDepth 100000 in
theorem ii_mo_doHour_8 : sm_D prog_9_method_50_code 8 1 9 (.iconst 1) := ⟨by decide +kernel, rfl⟩
set_option maxRecDepth 100000 in
theorem ii_mo_doHour_9 : sm_D prog_9_method_50_code 9 1 10 (.dup2) := ⟨by decide +kernel, rfl⟩
set_option maxRecDepth 100000 in
theorem ii_mo_doHour_10 : sm_D prog_9_method_50_code 10 1 11 (.iaload) := ⟨by decide +kernel, rfl⟩
set_option maxRecDepth 100000 in
theorem ii_mo_doHour_11 : sm_D prog_9_method_50_code 11 1 12 (.iconst 1) := ⟨by decide +kernel, rfl⟩
set_option maxRecDepth 100000 in
theorem ii_mo_doHour_12 : sm_D prog_9_method_50_code 12 1 13 (.iadd) := ⟨by decide +kernel, rfl⟩
set_option maxRecDepth 100000 in
theorem ii_mo_doHour_13 : sm_D prog_9_method_50_code 13 1 14 (.iastore) := ⟨by decide +kernel, rfl⟩
set_option maxRecDepth 100000 in
theorem ii_mo_doHour_14 : sm_D prog_9_method_50_code 14 1 15 (.iconst 0) := ⟨by decide +kernel, rfl⟩
set_option maxRecDepth 100000 in
theorem ii_mo_doHour_15 : sm_D prog_9_method_50_code 15 1 16 (.istore_n 1) := ⟨by decide +kernel, rfl⟩
set_option maxRecDepth 100000 in
theorem ii_mo_doHour_16 : sm_D prog_9_method_50_code 16 1 17 (.iload_n 1) := ⟨by decide +kernel, rfl⟩
set_option maxRecDepth 100000 in
theorem ii_mo_doHour_17 : sm_D prog_9_method_50_code 17 1 18 (.aload_n 0) := ⟨by decide +kernel, rfl⟩
set_option maxRecDepth 100000 in
theorem ii_mo_doHour_18 : sm_D prog_9_method_50_code 18 3 21 (.getfield 135) := ⟨by decide +kernel, rfl⟩
set_option maxRecDepth 100000 in
theorem ii_mo_doHour_21 : sm_D prog_9_method_50_code 21 3 24 (.if_icmp .ge 24) := ⟨by decide +kernel, rfl⟩
set_option maxRecDepth 100000 in
theorem ii_mo_doHour_24 : sm_D prog_9_method_50_code 24 1 25 (.aload_n 0) := ⟨by decide +kernel, rfl⟩
set_option maxRecDepth 100000 in
theorem ii_mo_doHour_25 : sm_D prog_9_method_50_code 25 3 28 (.getfield 7) := ⟨by decide +kernel, rfl⟩
set_option maxRecDepth 100000 in
theorem ii_mo_doHour_28 : sm_D prog_9_method_50_code 28 2 30 (.bipush 26) := ⟨by decide +kernel, rfl⟩
set_option maxRecDepth 100000 in
theorem ii_mo_doHour_30 : sm_D prog_9_method_50_code 30 1 31 (.iload_n 1) := ⟨by decide +kernel, rfl⟩
set_option maxRecDepth 100000 in
theorem ii_mo_doHour_31 : sm_D prog_9_method_50_code 31 1 32 (.iadd) := ⟨by decide +kernel, rfl⟩
set_option maxRecDepth 100000 in
theorem ii_mo_doHour_32 : sm_D prog_9_method_50_code 32 1 33 (.aload_n 0) := ⟨by decide +kernel, rfl⟩
set_option maxRecDepth 100000 in
theorem ii_mo_doHour_33 : sm_D prog_9_method_50_code 33 3 36 (.getfield 19) := ⟨by decide +kernel, rfl⟩
set_option maxRecDepth 100000 in
theorem ii_mo_doHour_36 : sm_D prog_9_method_50_code 36 1 37 (.iload_n 1) := ⟨by decide +kernel, rfl⟩
set_option maxRecDepth 100000 in
theorem ii_mo_doHour_37 : sm_D prog_9_method_50_code 37 1 38 (.iaload) := ⟨by decide +kernel, rfl⟩
set_option maxRecDepth 100000 in
theorem ii_mo_doHour_38 : sm_D prog_9_method_50_code 38 1 39 (.iastore) := ⟨by decide +kernel, rfl⟩
set_option maxRecDepth 100000 in
theorem ii_mo_doHour_39 : sm_D prog_9_method_50_code 39 3 42 (.iinc 1 1) := ⟨by decide +kernel, rfl⟩
set_option maxRecDepth 100000 in
theorem ii_mo_doHour_42 : sm_D prog_9_method_50_code 42 3 45 (.goto (-26)) := ⟨by decide +kernel, rfl⟩
set_option maxRecDepth 100000 in
theorem ii_mo_doHour_45 : sm_D prog_9_method_50_code 45 1 46 (.aload_n 0) := ⟨by decide +kernel, rfl⟩
set_option maxRecDepth 100000 in
theorem ii_mo_doHour_46 : sm_D prog_9_method_50_code 46 3 49 (.getfield 7) := ⟨by decide +kernel, rfl⟩
set_option maxRecDepth 100000 in
theorem ii_mo_doHour_49 : sm_D prog_9_method_50_code 49 1 50 (.iconst 1) := ⟨by decide +kernel, rfl⟩
set_option maxRecDepth 100000 in
theorem ii_mo_doHour_50 : sm_D prog_9_method_50_code 50 1 51 (.iaload) := ⟨by decide +kernel, rfl⟩
set_option maxRecDepth 100000 in
theorem ii_mo_doHour_51 : sm_D prog_9_method_50_code 51 1 52 (.ireturn) := ⟨by decide +kernel, rfl⟩
noncomputable def ff_mo_doHour_16_b  (self16 : Int32 → sm_Mem → sm_R) (a1 : Int32) (w : sm_Mem) : sm_R := (if (w.1 62 1) ≤ a1 then (Option.bind (sm_rd w 63 5184 (1 : Int32)) fun x1 => (some (.int x1, w))) else (Option.bind (sm_rd w 66 6 a1) fun x2 => (Option.bind (sm_wr w 63 5184 ((26 : Int32) + a1) x2) fun w3 => self16 ((a1 + (1 : Int32))) w3)))
noncomputable def ff_mo_doHour_16_f  : Nat → Int32 → sm_Mem → sm_R
  | 0, _, _ => none
  | n + 1, a1, w => ff_mo_doHour_16_b  (ff_mo_doHour_16_f  n) a1 w
noncomputable def ff_mo_doHour_16  (a1 : Int32) (w : sm_Mem) : sm_R := ff_mo_doHour_16_f  sm_N a1 w
set_option maxHeartbeats 4000000 in
set_option maxRecDepth 100000 in
theorem ss_mo_doHour_16_b {E : Nat × (Nat → Int32)}  (self16 : Int32 → sm_Mem → sm_R) (hself16 : ∀ (a1 : Int32) (w : sm_Mem), sm_Sim E (mi_mo_doHour) 16 [some (.ref 62), some (.int a1)] [] w (self16 a1 w)) (a1 : Int32) (w : sm_Mem) : sm_Sim E (mi_mo_doHour) 16 [some (.ref 62), some (.int a1)] [] w (ff_mo_doHour_16_b  self16 a1 w) := by
  unfold ff_mo_doHour_16_b
  refine sm_iload_n ii_mo_doHour_16 rfl ?_
  refine sm_aload_n ii_mo_doHour_17 rfl ?_
  refine sm_getI ii_mo_doHour_18 fl_mo_135 (k := 62) rfl ?_
  refine sm_icmp_ge 45 ii_mo_doHour_21 (by decide) ?_ ?_
  · refine sm_aload_n ii_mo_doHour_45 rfl ?_
    refine sm_getR 63 ii_mo_doHour_46 fl_mo_7 (k := 62) rfl ?_
    refine sm_iconst (1 : Int32) ii_mo_doHour_49 (by decide) ?_
    refine sm_iald ii_mo_doHour_50 (k := 63) rfl (fun x1 => ?_)
    exact sm_iret ii_mo_doHour_51 rfl
  · refine sm_aload_n ii_mo_doHour_24 rfl ?_
    refine sm_getR 63 ii_mo_doHour_25 fl_mo_7 (k := 62) rfl ?_
    refine sm_bipush (26 : Int32) ii_mo_doHour_28 (by decide) ?_
    refine sm_iload_n ii_mo_doHour_30 rfl ?_
    refine sm_iadd ii_mo_doHour_31 ?_
    refine sm_aload_n ii_mo_doHour_32 rfl ?_
    refine sm_getR 66 ii_mo_doHour_33 fl_mo_19 (k := 62) rfl ?_
    refine sm_iload_n ii_mo_doHour_36 rfl ?_
    refine sm_iald ii_mo_doHour_37 (k := 66) rfl (fun x2 => ?_)
    refine sm_iast ii_mo_doHour_38 (k := 63) rfl (fun w3 => ?_)
    refine sm_iinc (a1 + (1 : Int32)) [some (.ref 62), some (.int (a1 + (1 : Int32)))] ii_mo_doHour_39 rfl rfl rfl rfl ?_
    refine sm_goto 16 ii_mo_doHour_42 (by decide) ?_
    exact hself16 ((a1 + (1 : Int32))) w3
set_option maxHeartbeats 4000000 in
set_option maxRecDepth 100000 in
theorem ss_mo_doHour_16_f {E : Nat × (Nat → Int32)}  : ∀ (n : Nat) (a1 : Int32) (w : sm_Mem), sm_Sim E (mi_mo_doHour) 16 [some (.ref 62), some (.int a1)] [] w (ff_mo_doHour_16_f  n a1 w)
  | 0, _, _ => fun _ _ h => by cases h
  | n + 1, a1, w => ss_mo_doHour_16_b  _ (ss_mo_doHour_16_f  n) a1 w
set_option maxHeartbeats 4000000 in
set_option maxRecDepth 100000 in
theorem ss_mo_doHour_16 {E : Nat × (Nat → Int32)}  (a1 : Int32) (w : sm_Mem) : sm_Sim E (mi_mo_doHour) 16 [some (.ref 62), some (.int a1)] [] w (ff_mo_doHour_16  a1 w) := ss_mo_doHour_16_f  sm_N a1 w
noncomputable def ff_mo_doHour   (w : sm_Mem) : sm_R := (sm_cV (ff_mo_keepPast  w) fun w5 => (Option.bind (sm_rd w5 63 5184 (1 : Int32)) fun x6 => (Option.bind (sm_wr w5 63 5184 (1 : Int32) (x6 + (1 : Int32))) fun w7 => ff_mo_doHour_16 ((0 : Int32)) w7)))
set_option maxHeartbeats 4000000 in
set_option maxRecDepth 100000 in
theorem ss_mo_doHour_0 {E : Nat × (Nat → Int32)}   (w : sm_Mem) : sm_Sim E (mi_mo_doHour) 0 [some (.ref 62), none] [] w (ff_mo_doHour   w) := by
  unfold ff_mo_doHour
  refine sm_aload_n ii_mo_doHour_0 rfl ?_
  refine sm_cvV [] [] rfl ii_mo_doHour_1 ml_mo_187 (mf_mo_keepPast) (mv_mo_keepPast) (Nat.le_of_ble_eq_true rfl) rfl 7 rfl rfl rfl rfl (mc_mo_keepPast  w) (fun w5 => ?_)
  refine sm_aload_n ii_mo_doHour_4 rfl ?_
  refine sm_getR 63 ii_mo_doHour_5 fl_mo_7 (k := 62) rfl ?_
  refine sm_iconst (1 : Int32) ii_mo_doHour_8 (by decide) ?_
  refine sm_dup2 ii_mo_doHour_9 ?_
  refine sm_iald ii_mo_doHour_10 (k := 63) rfl (fun x6 => ?_)
  refine sm_iconst (1 : Int32) ii_mo_doHour_11 (by decide) ?_
  refine sm_iadd ii_mo_doHour_12 ?_
  refine sm_iast ii_mo_doHour_13 (k := 63) rfl (fun w7 => ?_)
  refine sm_iconst (0 : Int32) ii_mo_doHour_14 (by decide) ?_
  refine sm_istore_n [some (.ref 62), some (.int (0 : Int32))] ii_mo_doHour_15 rfl rfl ?_
  exact ss_mo_doHour_16 ((0 : Int32)) w7
set_option maxHeartbeats 4000000 in
set_option maxRecDepth 100000 in
theorem mc_mo_doHour  (w : sm_Mem) : sm_MC mi_mo_doHour [.ref 62] w (ff_mo_doHour  w) := sm_MC_of (0, fun _ => 0) (by decide +kernel) (by decide) rfl (Nat.le_of_ble_eq_true rfl) (ss_mo_doHour_0  w)
abbrev mi_mo_hour : sm_MI := (⟨"HerOrdersModel", "hour", "()I"⟩, prog_9_method_51_code, 1, (some .int), 3)
set_option maxRecDepth 100000 in
theorem mf_mo_hour : sm_MF mi_mo_hour 0 := ⟨List.mem_of_getElem? (i := 1214) (by decide +kernel), List.mem_of_getElem? (i := 132) (by decide +kernel), ⟨by decide, by decide⟩, by decide +kernel⟩
set_option maxRecDepth 100000 in
theorem mv_mo_hour : sm_MFV mi_mo_hour := ⟨List.mem_of_getElem? (i := 1212) (by decide +kernel), List.mem_of_getElem? (i := 1213) (by decide +kernel)⟩
set_option maxRecDepth 100000 in
theorem ii_mo_hour_0 : sm_D prog_9_method_51_code 0 1 1 (.aload_n 0) := ⟨by decide +kernel, rfl⟩
set_option maxRecDepth 100000 in
theorem ii_mo_hour_1 : sm_D prog_9_method_51_code 1 3 4 (.getfield 135) := ⟨by decide +kernel, rfl⟩
set_option maxRecDepth 100000 in
theorem ii_mo_hour_4 : sm_D prog_9_method_51_code 4 3 7 (.ifCond .ne 6) := ⟨by decide +kernel, rfl⟩
set_option maxRecDepth 100000 in
theorem ii_mo_hour_7 : sm_D prog_9_method_51_code 7 2 9 (.bipush (-4)) := ⟨by decide +kernel, rfl⟩
set_option maxRecDepth 100000 in
theorem ii_mo_hour_9 : sm_D prog_9_method_51_code 9 1 10 (.ireturn) := ⟨by decide +kernel, rfl⟩
set_option maxRecDepth 100000 in
theorem ii_mo_hour_10 : sm_D prog_9_method_51_code 10 1 11 (.aload_n 0) := ⟨by decide +kernel, rfl⟩
set_option maxRecDepth 100000 in
theorem ii_mo_hour_11 : sm_D prog_9_method_51_code 11 3 14 (.getfield 7) := ⟨by decide +kernel, rfl⟩
set_option maxRecDepth 100000 in
theorem ii_mo_hour_14 : sm_D prog_9_method_51_code 14 1 15 (.iconst 0) := ⟨by decide +kernel, rfl⟩
set_option maxRecDepth 100000 in
theorem ii_mo_hour_15 : sm_D prog_9_method_51_code 15 1 16 (.iaload) := ⟨by decide +kernel, rfl⟩
set_option maxRecDepth 100000 in
theorem ii_mo_hour_16 : sm_D prog_9_method_51_code 16 2 18 (.bipush 40) := ⟨by decide +kernel, rfl⟩
set_option maxRecDepth 100000 in
theorem ii_mo_hour_18 : sm_D prog_9_method_51_code 18 3 21 (.if_icmp .ne 8) := ⟨by decide +kernel, rfl⟩
set_option maxRecDepth 100000 in
theorem ii_mo_hour_21 : sm_D prog_9_method_51_code 21 2 23 (.bipush (-2)) := ⟨by decide +kernel, rfl⟩
set_option maxRecDepth 100000 in
theorem ii_mo_hour_23 : sm_D prog_9_method_51_code 23 3 26 (.goto 7) := ⟨by decide +kernel, rfl⟩
set_option maxRecDepth 100000 in
theorem ii_mo_hour_26 : sm_D prog_9_method_51_code 26 1 27 (.aload_n 0) := ⟨by decide +kernel, rfl⟩
set_option maxRecDepth 100000 in
theorem ii_mo_hour_27 : sm_D prog_9_method_51_code 27 3 30 (.invokevirtual 197) := ⟨by decide +kernel, rfl⟩
set_option maxRecDepth 100000 in
theorem ii_mo_hour_30 : sm_D prog_9_method_51_code 30 1 31 (.ireturn) := ⟨by decide +kernel, rfl⟩
noncomputable def ff_mo_hour   (w : sm_Mem) : sm_R := (if (w.1 62 1) = (0 : Int32) then (some (.int (-4 : Int32), w)) else (Option.bind (sm_rd w 63 5184 (0 : Int32)) fun x1 => (if x1 = (40 : Int32) then (some (.int (-2 : Int32), w)) else (sm_cI (ff_mo_doHour  w) fun x2 w3 => (some (.int x2, w3))))))
set_option maxHeartbeats 4000000 in
set_option maxRecDepth 100000 in
theorem ss_mo_hour_0 {E : Nat × (Nat → Int32)}   (w : sm_Mem) : sm_Sim E (mi_mo_hour) 0 [some (.ref 62)] [] w (ff_mo_hour   w) := by
  unfold ff_mo_hour
  refine sm_aload_n ii_mo_hour_0 rfl ?_
  refine sm_getI ii_mo_hour_1 fl_mo_135 (k := 62) rfl ?_
  refine sm_if_ne 10 ii_mo_hour_4 (by decide) ?_ ?_
  · refine sm_bipush (-4 : Int32) ii_mo_hour_7 (by decide) ?_
    exact sm_iret ii_mo_hour_9 rfl
  · refine sm_aload_n ii_mo_hour_10 rfl ?_
    refine sm_getR 63 ii_mo_hour_11 fl_mo_7 (k := 62) rfl ?_
    refine sm_iconst (0 : Int32) ii_mo_hour_14 (by decide) ?_
    refine sm_iald ii_mo_hour_15 (k := 63) rfl (fun x1 => ?_)
    refine sm_bipush (40 : Int32) ii_mo_hour_16 (by decide) ?_
    refine sm_icmp_ne 26 ii_mo_hour_18 (by decide) ?_ ?_
    · refine sm_bipush (-2 : Int32) ii_mo_hour_21 (by decide) ?_
      refine sm_goto 30 ii_mo_hour_23 (by decide) ?_
      exact sm_iret ii_mo_hour_30 rfl
    · refine sm_aload_n ii_mo_hour_26 rfl ?_
      refine sm_cvI [] [] rfl ii_mo_hour_27 ml_mo_197 (mf_mo_doHour) (mv_mo_doHour) (Nat.le_of_ble_eq_true rfl) rfl 7 rfl rfl rfl rfl (mc_mo_doHour  w) (fun x2 w3 => ?_)
      exact sm_iret ii_mo_hour_30 rfl
set_option maxHeartbeats 4000000 in
set_option maxRecDepth 100000 in
theorem mc_mo_hour  (w : sm_Mem) : sm_MC mi_mo_hour [.ref 62] w (ff_mo_hour  w) := sm_MC_of (0, fun _ => 0) (by decide +kernel) (by decide) rfl (Nat.le_of_ble_eq_true rfl) (ss_mo_hour_0  w)
abbrev mi_ho_walk : sm_MI := (⟨"HerOrders", "walk", "(II)I"⟩, prog_1_method_17_code, 4, (some .int), 4)
set_option maxRecDepth 100000 in
theorem mf_ho_walk : sm_MF mi_ho_walk 2 := ⟨List.mem_of_getElem? (i := 590) (by decide +kernel), List.mem_of_getElem? (i := 124) (by decide +kernel), ⟨by decide, by decide⟩, by decide +kernel⟩
set_option maxRecDepth 100000 in
theorem mv_ho_walk : sm_MFV mi_ho_walk := ⟨List.mem_of_getElem? (i := 588) (by decide +kernel), List.mem_of_getElem? (i := 589) (by decide +kernel)⟩
set_option maxRecDepth 100000 in
theorem ii_ho_walk_0 : sm_D prog_1_method_17_code 0 1 1 (.aload_n 0) := ⟨by decide +kernel, rfl⟩
set_option maxRecDepth 100000 in
theorem ii_ho_walk_1 : sm_D prog_1_method_17_code 1 1 2 (.iload_n 1) := ⟨by decide +kernel, rfl⟩
set_option maxRecDepth 100000 in
theorem ii_ho_walk_2 : sm_D prog_1_method_17_code 2 3 5 (.invokevirtual 118) := ⟨by decide +kernel, rfl⟩
set_option maxRecDepth 100000 in
theorem ii_ho_walk_5 : sm_D prog_1_method_17_code 5 3 8 (.ifCond .eq 12) := ⟨by decide +kernel, rfl⟩
set_option maxRecDepth 100000 in
theorem ii_ho_walk_8 : sm_D prog_1_method_17_code 8 1 9 (.iload_n 2) := ⟨by decide +kernel, rfl⟩
set_option maxRecDepth 100000 in
theorem ii_ho_walk_9 : sm_D prog_1_method_17_code 9 2 11 (.bipush 6) := ⟨by decide +kernel, rfl⟩
set_option maxRecDepth 100000 in
theorem ii_ho_walk_11 : sm_D prog_1_method_17_code 11 3 14 (.invokestatic 81) := ⟨by decide +kernel, rfl⟩
set_option maxRecDepth 100000 in
theorem ii_ho_walk_14 : sm_D prog_1_method_17_code 14 3 17 (.ifCond .ne 5) := ⟨by decide +kernel, rfl⟩
set_option maxRecDepth 100000 in
theorem ii_ho_walk_17 : sm_D prog_1_method_17_code 17 1 18 (.iconst (-1)) := ⟨by decide +kernel, rfl⟩
set_option maxRecDepth 100000 in
theorem ii_ho_walk_18 : sm_D prog_1_method_17_code 18 1 19 (.ireturn) := ⟨by decide +kernel, rfl⟩
set_option maxRecDepth 100000 in
theorem ii_ho_walk_19 : sm_D prog_1_method_17_code 19 1 20 (.aload_n 0) := ⟨by decide +kernel, rfl⟩
set_option maxRecDepth 100000 in
theorem ii_ho_walk_20 : sm_D prog_1_method_17_code 20 3 23 (.getfield 31) := ⟨by decide +kernel, rfl⟩
set_option maxRecDepth 100000 in
theorem ii_ho_walk_23 : sm_D prog_1_method_17_code 23 3 26 (.getfield 163) := ⟨by decide +kernel, rfl⟩
set_option maxRecDepth 100000 in
theorem ii_ho_walk_26 : sm_D prog_1_method_17_code 26 1 27 (.iload_n 1) := ⟨by decide +kernel, rfl⟩
set_option maxRecDepth 100000 in
theorem ii_ho_walk_27 : sm_D prog_1_method_17_code 27 1 28 (.iaload) := ⟨by decide +kernel, rfl⟩
set_option maxRecDepth 100000 in
theorem ii_ho_walk_28 : sm_D prog_1_method_17_code 28 1 29 (.iload_n 2) := ⟨by decide +kernel, rfl⟩
set_option maxRecDepth 100000 in
theorem ii_ho_walk_29 : sm_D prog_1_method_17_code 29 1 30 (.isub) := ⟨by decide +kernel, rfl⟩
set_option maxRecDepth 100000 in
theorem ii_ho_walk_30 : sm_D prog_1_method_17_code 30 3 33 (.invokestatic 166) := ⟨by decide +kernel, rfl⟩
set_option maxRecDepth 100000 in
theorem ii_ho_walk_33 : sm_D prog_1_method_17_code 33 1 34 (.istore_n 3) := ⟨by decide +kernel, rfl⟩
set_option maxRecDepth 100000 in
theorem ii_ho_walk_34 : sm_D prog_1_method_17_code 34 1 35 (.iload_n 3) := ⟨by decide +kernel, rfl⟩
set_option maxRecDepth 100000 in
theorem ii_ho_walk_35 : sm_D prog_1_method_17_code 35 3 38 (.ifCond .ne 6) := ⟨by decide +kernel, rfl⟩
set_option maxRecDepth 100000 in
theorem ii_ho_walk_38 : sm_D prog_1_method_17_code 38 2 40 (.bipush (-4)) := ⟨by decide +kernel, rfl⟩
set_option maxRecDepth 100000 in
theorem ii_ho_walk_40 : sm_D prog_1_method_17_code 40 1 41 (.ireturn) := ⟨by decide +kernel, rfl⟩
set_option maxRecDepth 100000 in
theorem ii_ho_walk_41 : sm_D prog_1_method_17_code 41 1 42 (.aload_n 0) := ⟨by decide +kernel, rfl⟩
set_option maxRecDepth 100000 in
theorem ii_ho_walk_42 : sm_D prog_1_method_17_code 42 3 45 (.getfield 31) := ⟨by decide +kernel, rfl⟩
set_option maxRecDepth 100000 in
theorem ii_ho_walk_45 : sm_D prog_1_method_17_code 45 3 48 (.invokevirtual 155) := ⟨by decide +kernel, rfl⟩
set_option maxRecDepth 100000 in
theorem ii_ho_walk_48 : sm_D prog_1_method_17_code 48 3 51 (.ifCond .eq 6) := ⟨by decide +kernel, rfl⟩
set_option maxRecDepth 100000 in
theorem ii_ho_walk_51 : sm_D prog_1_method_17_code 51 2 53 (.bipush (-2)) := ⟨by decide +kernel, rfl⟩
set_option maxRecDepth 100000 in
theorem ii_ho_walk_53 : sm_D prog_1_method_17_code 53 1 54 (.ireturn) := ⟨by decide +kernel, rfl⟩
set_option maxRecDepth 100000 in
theorem ii_ho_walk_54 : sm_D prog_1_method_17_code 54 1 55 (.aload_n 0) := ⟨by decide +kernel, rfl⟩
set_option maxRecDepth 100000 in
theorem ii_ho_walk_55 : sm_D prog_1_method_17_code 55 3 58 (.getfield 31) := ⟨by decide +kernel, rfl⟩
set_option maxRecDepth 100000 in
theorem ii_ho_walk_58 : sm_D prog_1_method_17_code 58 1 59 (.iconst 3) := ⟨by decide +kernel, rfl⟩
set_option maxRecDepth 100000 in
theorem ii_ho_walk_59 : sm_D prog_1_method_17_code 59 1 60 (.iload_n 1) := ⟨by decide +kernel, rfl⟩
set_option maxRecDepth 100000 in
theorem ii_ho_walk_60 : sm_D prog_1_method_17_code 60 1 61 (.iload_n 2) := ⟨by decide +kernel, rfl⟩
set_option maxRecDepth 100000 in
theorem ii_ho_walk_61 : sm_D prog_1_method_17_code 61 3 64 (.invokevirtual 158) := ⟨by decide +kernel, rfl⟩
set_option maxRecDepth 100000 in
theorem ii_ho_walk_64 : sm_D prog_1_method_17_code 64 1 65 (.iload_n 3) := ⟨by decide +kernel, rfl⟩
set_option maxRecDepth 100000 in
theorem ii_ho_walk_65 : sm_D prog_1_method_17_code 65 1 66 (.ireturn) := ⟨by decide +kernel, rfl⟩
noncomputable def ff_ho_walk  (a1 : Int32) (a2 : Int32) (w : sm_Mem) : sm_R := (sm_cI (ff_ho_isSpeaker (a1) w) fun x1 w2 => (if x1 = (0 : Int32) then (some (.int (-1 : Int32), w2)) else (sm_cI (ff_ho_isWithin (a2) ((6 : Int32)) w2) fun x3 w4 => (if x3 = (0 : Int32) then (some (.int (-1 : Int32), w4)) else (Option.bind (sm_rd w4 41 6 a1) fun x5 => (if (if (0 : Int32) ≤ (x5 - a2) then (x5 - a2) else (0 : Int32) - (x5 - a2)) = (0 : Int32) then (some (.int (-4 : Int32), w4)) else (sm_cI (ff_hs_isFull  w4) fun x6 w7 => (if x6 = (0 : Int32) then (sm_cV (ff_hs_enact ((3 : Int32)) (a1) (a2) w7) fun w9 => (some (.int (if (0 : Int32) ≤ (x5 - a2) then (x5 - a2) else (0 : Int32) - (x5 - a2)), w9))) else (some (.int (-2 : Int32), w7))))))))))
set_option maxHeartbeats 4000000 in
set_option maxRecDepth 100000 in
theorem ss_ho_walk_0 {E : Nat × (Nat → Int32)}  (a1 : Int32) (a2 : Int32) (w : sm_Mem) : sm_Sim E (mi_ho_walk) 0 [some (.ref 0), some (.int a1), some (.int a2), none] [] w (ff_ho_walk  a1 a2 w) := by
  unfold ff_ho_walk
  refine sm_aload_n ii_ho_walk_0 rfl ?_
  refine sm_iload_n ii_ho_walk_1 rfl ?_
  refine sm_cvI [.int a1] [] rfl ii_ho_walk_2 ml_ho_118 (mf_ho_isSpeaker) (mv_ho_isSpeaker) (Nat.le_of_ble_eq_true rfl) rfl 6 rfl rfl rfl rfl (mc_ho_isSpeaker (a1) w) (fun x1 w2 => ?_)
  refine sm_if_eq 17 ii_ho_walk_5 (by decide) ?_ ?_
  · refine sm_iconst (-1 : Int32) ii_ho_walk_17 (by decide) ?_
    exact sm_iret ii_ho_walk_18 rfl
  · refine sm_iload_n ii_ho_walk_8 rfl ?_
    refine sm_bipush (6 : Int32) ii_ho_walk_9 (by decide) ?_
    refine sm_csI [.int a2, .int (6 : Int32)] [] rfl ii_ho_walk_11 ml_ho_81 (mf_ho_isWithin) (mv_ho_isWithin) (Nat.le_of_ble_eq_true rfl) rfl rfl rfl (mc_ho_isWithin (a2) ((6 : Int32)) w2) (fun x3 w4 => ?_)
    refine sm_if_ne 19 ii_ho_walk_14 (by decide) ?_ ?_
    · refine sm_iconst (-1 : Int32) ii_ho_walk_17 (by decide) ?_
      exact sm_iret ii_ho_walk_18 rfl
    · refine sm_aload_n ii_ho_walk_19 rfl ?_
      refine sm_getR 36 ii_ho_walk_20 fl_ho_31 (k := 0) rfl ?_
      refine sm_getR 41 ii_ho_walk_23 fl_ho_163 (k := 36) rfl ?_
      refine sm_iload_n ii_ho_walk_26 rfl ?_
      refine sm_iald ii_ho_walk_27 (k := 41) rfl (fun x5 => ?_)
      refine sm_iload_n ii_ho_walk_28 rfl ?_
      refine sm_isub ii_ho_walk_29 ?_
      refine sm_mabs ii_ho_walk_30 mq_ho_166 mq_st_abs mq_in mq_co_abs (by decide) rfl ?_
      refine sm_istore_n [some (.ref 0), some (.int a1), some (.int a2), some (.int (if (0 : Int32) ≤ (x5 - a2) then (x5 - a2) else (0 : Int32) - (x5 - a2)))] ii_ho_walk_33 rfl rfl ?_
      refine sm_iload_n ii_ho_walk_34 rfl ?_
      refine sm_if_ne 41 ii_ho_walk_35 (by decide) ?_ ?_
      · refine sm_bipush (-4 : Int32) ii_ho_walk_38 (by decide) ?_
        exact sm_iret ii_ho_walk_40 rfl
      · refine sm_aload_n ii_ho_walk_41 rfl ?_
        refine sm_getR 36 ii_ho_walk_42 fl_ho_31 (k := 0) rfl ?_
        refine sm_cvI [] [] rfl ii_ho_walk_45 ml_ho_155 (mf_hs_isFull) (mv_hs_isFull) (Nat.le_of_ble_eq_true rfl) rfl 1 rfl rfl rfl rfl (mc_hs_isFull  w4) (fun x6 w7 => ?_)
        refine sm_if_eq 54 ii_ho_walk_48 (by decide) ?_ ?_
        · refine sm_aload_n ii_ho_walk_54 rfl ?_
          refine sm_getR 36 ii_ho_walk_55 fl_ho_31 (k := 0) rfl ?_
          refine sm_iconst (3 : Int32) ii_ho_walk_58 (by decide) ?_
          refine sm_iload_n ii_ho_walk_59 rfl ?_
          refine sm_iload_n ii_ho_walk_60 rfl ?_
          refine sm_cvV [.int (3 : Int32), .int a1, .int a2] [] rfl ii_ho_walk_61 ml_ho_158 (mf_hs_enact) (mv_hs_enact) (Nat.le_of_ble_eq_true rfl) rfl 1 rfl rfl rfl rfl (mc_hs_enact ((3 : Int32)) (a1) (a2) w7) (fun w9 => ?_)
          refine sm_iload_n ii_ho_walk_64 rfl ?_
          exact sm_iret ii_ho_walk_65 rfl
        · refine sm_bipush (-2 : Int32) ii_ho_walk_51 (by decide) ?_
          exact sm_iret ii_ho_walk_53 rfl
set_option maxHeartbeats 4000000 in
set_option maxRecDepth 100000 in
theorem mc_ho_walk (a1 : Int32) (a2 : Int32) (w : sm_Mem) : sm_MC mi_ho_walk [.ref 0, .int a1, .int a2] w (ff_ho_walk a1 a2 w) := sm_MC_of (0, fun _ => 0) (by decide +kernel) (by decide) rfl (Nat.le_of_ble_eq_true rfl) (ss_ho_walk_0 a1 a2 w)
abbrev mi_mo_walk : sm_MI := (⟨"HerOrdersModel", "walk", "(II)I"⟩, prog_9_method_52_code, 4, (some .int), 3)
set_option maxRecDepth 100000 in
theorem mf_mo_walk : sm_MF mi_mo_walk 2 := ⟨List.mem_of_getElem? (i := 1222) (by decide +kernel), List.mem_of_getElem? (i := 132) (by decide +kernel), ⟨by decide, by decide⟩, by decide +kernel⟩
set_option maxRecDepth 100000 in
theorem mv_mo_walk : sm_MFV mi_mo_walk := ⟨List.mem_of_getElem? (i := 1220) (by decide +kernel), List.mem_of_getElem? (i := 1221) (by decide +kernel)⟩
set_option maxRecDepth 100000 in
theorem ii_mo_walk_0 : sm_D prog_9_method_52_code 0 1 1 (.aload_n 0) := ⟨by decide +kernel, rfl⟩
set_option maxRecDepth 100000 in
theorem ii_mo_walk_1 : sm_D prog_9_method_52_code 1 1 2 (.iload_n 1) := ⟨by decide +kernel, rfl⟩
set_option maxRecDepth 100000 in
theorem ii_mo_walk_2 : sm_D prog_9_method_52_code 2 3 5 (.invokevirtual 160) := ⟨by decide +kernel, rfl⟩
set_option maxRecDepth 100000 in
theorem ii_mo_walk_5 : sm_D prog_9_method_52_code 5 3 8 (.ifCond .eq 15) := ⟨by decide +kernel, rfl⟩
set_option maxRecDepth 100000 in
theorem ii_mo_walk_8 : sm_D prog_9_method_52_code 8 1 9 (.iload_n 2) := ⟨by decide +kernel, rfl⟩
set_option maxRecDepth 100000 in
theorem ii_mo_walk_9 : sm_D prog_9_method_52_code 9 1 10 (.i2l) := ⟨by decide +kernel, rfl⟩
set_option maxRecDepth 100000 in
theorem ii_mo_walk_10 : sm_D prog_9_method_52_code 10 1 11 (.lconst 0) := ⟨by decide +kernel, rfl⟩
set_option maxRecDepth 100000 in
theorem ii_mo_walk_11 : sm_D prog_9_method_52_code 11 3 14 (.ldc2_w 69) := ⟨by decide +kernel, rfl⟩
set_option maxRecDepth 100000 in
theorem ii_mo_walk_14 : sm_D prog_9_method_52_code 14 3 17 (.invokestatic 71) := ⟨by decide +kernel, rfl⟩
set_option maxRecDepth 100000 in
theorem ii_mo_walk_17 : sm_D prog_9_method_52_code 17 3 20 (.ifCond .ne 5) := ⟨by decide +kernel, rfl⟩
set_option maxRecDepth 100000 in
theorem ii_mo_walk_20 : sm_D prog_9_method_52_code 20 1 21 (.iconst (-1)) := ⟨by decide +kernel, rfl⟩
set_option maxRecDepth 100000 in
theorem ii_mo_walk_21 : sm_D prog_9_method_52_code 21 1 22 (.ireturn) := ⟨by decide +kernel, rfl⟩
set_option maxRecDepth 100000 in
theorem ii_mo_walk_22 : sm_D prog_9_method_52_code 22 1 23 (.iload_n 2) := ⟨by decide +kernel, rfl⟩
set_option maxRecDepth 100000 in
theorem ii_mo_walk_23 : sm_D prog_9_method_52_code 23 1 24 (.aload_n 0) := ⟨by decide +kernel, rfl⟩
set_option maxRecDepth 100000 in
theorem ii_mo_walk_24 : sm_D prog_9_method_52_code 24 3 27 (.getfield 7) := ⟨by decide +kernel, rfl⟩
set_option maxRecDepth 100000 in
theorem ii_mo_walk_27 : sm_D prog_9_method_52_code 27 2 29 (.bipush 20) := ⟨by decide +kernel, rfl⟩
set_option maxRecDepth 100000 in
theorem ii_mo_walk_29 : sm_D prog_9_method_52_code 29 1 30 (.iload_n 1) := ⟨by decide +kernel, rfl⟩
set_option maxRecDepth 100000 in
theorem ii_mo_walk_30 : sm_D prog_9_method_52_code 30 1 31 (.iadd) := ⟨by decide +kernel, rfl⟩
set_option maxRecDepth 100000 in
theorem ii_mo_walk_31 : sm_D prog_9_method_52_code 31 1 32 (.iaload) := ⟨by decide +kernel, rfl⟩
set_option maxRecDepth 100000 in
theorem ii_mo_walk_32 : sm_D prog_9_method_52_code 32 1 33 (.isub) := ⟨by decide +kernel, rfl⟩
set_option maxRecDepth 100000 in
theorem ii_mo_walk_33 : sm_D prog_9_method_52_code 33 1 34 (.istore_n 3) := ⟨by decide +kernel, rfl⟩
set_option maxRecDepth 100000 in
theorem ii_mo_walk_34 : sm_D prog_9_method_52_code 34 1 35 (.iload_n 3) := ⟨by decide +kernel, rfl⟩
set_option maxRecDepth 100000 in
theorem ii_mo_walk_35 : sm_D prog_9_method_52_code 35 3 38 (.ifCond .ne 6) := ⟨by decide +kernel, rfl⟩
set_option maxRecDepth 100000 in
theorem ii_mo_walk_38 : sm_D prog_9_method_52_code 38 2 40 (.bipush (-4)) := ⟨by decide +kernel, rfl⟩
set_option maxRecDepth 100000 in
theorem ii_mo_walk_40 : sm_D prog_9_method_52_code 40 1 41 (.ireturn) := ⟨by decide +kernel, rfl⟩
set_option maxRecDepth 100000 in
theorem ii_mo_walk_41 : sm_D prog_9_method_52_code 41 1 42 (.aload_n 0) := ⟨by decide +kernel, rfl⟩
set_option maxRecDepth 100000 in
theorem ii_mo_walk_42 : sm_D prog_9_method_52_code 42 3 45 (.getfield 7) := ⟨by decide +kernel, rfl⟩
set_option maxRecDepth 100000 in
theorem ii_mo_walk_45 : sm_D prog_9_method_52_code 45 1 46 (.iconst 0) := ⟨by decide +kernel, rfl⟩
set_option maxRecDepth 100000 in
theorem ii_mo_walk_46 : sm_D prog_9_method_52_code 46 1 47 (.iaload) := ⟨by decide +kernel, rfl⟩
set_option maxRecDepth 100000 in
theorem ii_mo_walk_47 : sm_D prog_9_method_52_code 47 2 49 (.bipush 40) := ⟨by decide +kernel, rfl⟩
set_option maxRecDepth 100000 in
theorem ii_mo_walk_49 : sm_D prog_9_method_52_code 49 3 52 (.if_icmp .ne 6) := ⟨by decide +kernel, rfl⟩
set_option maxRecDepth 100000 in
theorem ii_mo_walk_52 : sm_D prog_9_method_52_code 52 2 54 (.bipush (-2)) := ⟨by decide +kernel, rfl⟩
set_option maxRecDepth 100000 in
theorem ii_mo_walk_54 : sm_D prog_9_method_52_code 54 1 55 (.ireturn) := ⟨by decide +kernel, rfl⟩
set_option maxRecDepth 100000 in
theorem ii_mo_walk_55 : sm_D prog_9_method_52_code 55 1 56 (.aload_n 0) := ⟨by decide +kernel, rfl⟩
set_option maxRecDepth 100000 in
theorem ii_mo_walk_56 : sm_D prog_9_method_52_code 56 3 59 (.invokevirtual 187) := ⟨by decide +kernel, rfl⟩
set_option maxRecDepth 100000 in
theorem ii_mo_walk_59 : sm_D prog_9_method_52_code 59 1 60 (.aload_n 0) := ⟨by decide +kernel, rfl⟩
set_option maxRecDepth 100000 in
theorem ii_mo_walk_60 : sm_D prog_9_method_52_code 60 3 63 (.getfield 7) := ⟨by decide +kernel, rfl⟩
set_option maxRecDepth 100000 in
theorem ii_mo_walk_63 : sm_D prog_9_method_52_code 63 2 65 (.bipush 20) := ⟨by decide +kernel, rfl⟩
set_option maxRecDepth 100000 in
theorem ii_mo_walk_65 : sm_D prog_9_method_52_code 65 1 66 (.iload_n 1) := ⟨by decide +kernel, rfl⟩
set_option maxRecDepth 100000 in
theorem ii_mo_walk_66 : sm_D prog_9_method_52_code 66 1 67 (.iadd) := ⟨by decide +kernel, rfl⟩
set_option maxRecDepth 100000 in
theorem ii_mo_walk_67 : sm_D prog_9_method_52_code 67 1 68 (.iload_n 2) := ⟨by decide +kernel, rfl⟩
set_option maxRecDepth 100000 in
theorem ii_mo_walk_68 : sm_D prog_9_method_52_code 68 1 69 (.iastore) := ⟨by decide +kernel, rfl⟩
set_option maxRecDepth 100000 in
theorem ii_mo_walk_69 : sm_D prog_9_method_52_code 69 1 70 (.iload_n 3) := ⟨by decide +kernel, rfl⟩
set_option maxRecDepth 100000 in
theorem ii_mo_walk_70 : sm_D prog_9_method_52_code 70 3 73 (.ifCond .ge 8) := ⟨by decide +kernel, rfl⟩
set_option maxRecDepth 100000 in
theorem ii_mo_walk_73 : sm_D prog_9_method_52_code 73 1 74 (.iload_n 3) := ⟨by decide +kernel, rfl⟩
set_option maxRecDepth 100000 in
theorem ii_mo_walk_74 : sm_D prog_9_method_52_code 74 1 75 (.ineg) := ⟨by decide +kernel, rfl⟩
set_option maxRecDepth 100000 in
theorem ii_mo_walk_75 : sm_D prog_9_method_52_code 75 3 78 (.goto 4) := ⟨by decide +kernel, rfl⟩
set_option maxRecDepth 100000 in
theorem ii_mo_walk_78 : sm_D prog_9_method_52_code 78 1 79 (.iload_n 3) := ⟨by decide +kernel, rfl⟩
set_option maxRecDepth 100000 in
theorem ii_mo_walk_79 : sm_D prog_9_method_52_code 79 1 80 (.ireturn) := ⟨by decide +kernel, rfl⟩
noncomputable def ff_mo_walk  (a1 : Int32) (a2 : Int32) (w : sm_Mem) : sm_R := (sm_cI (ff_mo_isSpeaker (a1) w) fun x1 w2 => (if x1 = (0 : Int32) then (some (.int (-1 : Int32), w2)) else (sm_cI (ff_mo_in ((Int32.toInt64 a2)) ((0 : Int64)) ((5 : Int64)) w2) fun x3 w4 => (if x3 = (0 : Int32) then (some (.int (-1 : Int32), w4)) else (Option.bind (sm_rd w4 63 5184 ((20 : Int32) + a1)) fun x5 => (if (a2 - x5) = (0 : Int32) then (some (.int (-4 : Int32), w4)) else (Option.bind (sm_rd w4 63 5184 (0 : Int32)) fun x6 => (if x6 = (40 : Int32) then (some (.int (-2 : Int32), w4)) else (sm_cV (ff_mo_keepPast  w4) fun w8 => (Option.bind (sm_wr w8 63 5184 ((20 : Int32) + a1) a2) fun w9 => (if (0 : Int32) ≤ (a2 - x5) then (some (.int (a2 - x5), w9)) else (some (.int (-(a2 - x5)), w9)))))))))))))
set_option maxHeartbeats 4000000 in
set_option maxRecDepth 100000 in
theorem ss_mo_walk_0 {E : Nat × (Nat → Int32)}  (a1 : Int32) (a2 : Int32) (w : sm_Mem) : sm_Sim E (mi_mo_walk) 0 [some (.ref 62), some (.int a1), some (.int a2), none] [] w (ff_mo_walk  a1 a2 w) := by
  unfold ff_mo_walk
  refine sm_aload_n ii_mo_walk_0 rfl ?_
  refine sm_iload_n ii_mo_walk_1 rfl ?_
  refine sm_cvI [.int a1] [] rfl ii_mo_walk_2 ml_mo_160 (mf_mo_isSpeaker) (mv_mo_isSpeaker) (Nat.le_of_ble_eq_true rfl) rfl 7 rfl rfl rfl rfl (mc_mo_isSpeaker (a1) w) (fun x1 w2 => ?_)
  refine sm_if_eq 20 ii_mo_walk_5 (by decide) ?_ ?_
  · refine sm_iconst (-1 : Int32) ii_mo_walk_20 (by decide) ?_
    exact sm_iret ii_mo_walk_21 rfl
  · refine sm_iload_n ii_mo_walk_8 rfl ?_
    refine sm_i2l ii_mo_walk_9 ?_
    refine sm_lconst (0 : Int64) ii_mo_walk_10 (by decide) ?_
    refine sm_ldc2 (5 : Int64) ii_mo_walk_11 (List.mem_of_getElem? (i := 1040) (by decide +kernel)) ?_
    refine sm_csI [.long (Int32.toInt64 a2), .long (0 : Int64), .long (5 : Int64)] [] rfl ii_mo_walk_14 ml_mo_71 (mf_mo_in) (mv_mo_in) (Nat.le_of_ble_eq_true rfl) rfl rfl rfl (mc_mo_in ((Int32.toInt64 a2)) ((0 : Int64)) ((5 : Int64)) w2) (fun x3 w4 => ?_)
    refine sm_if_ne 22 ii_mo_walk_17 (by decide) ?_ ?_
    · refine sm_iconst (-1 : Int32) ii_mo_walk_20 (by decide) ?_
      exact sm_iret ii_mo_walk_21 rfl
    · refine sm_iload_n ii_mo_walk_22 rfl ?_
      refine sm_aload_n ii_mo_walk_23 rfl ?_
      refine sm_getR 63 ii_mo_walk_24 fl_mo_7 (k := 62) rfl ?_
      refine sm_bipush (20 : Int32) ii_mo_walk_27 (by decide) ?_
      refine sm_iload_n ii_mo_walk_29 rfl ?_
      refine sm_iadd ii_mo_walk_30 ?_
      refine sm_iald ii_mo_walk_31 (k := 63) rfl (fun x5 => ?_)
      refine sm_isub ii_mo_walk_32 ?_
      refine sm_istore_n [some (.ref 62), some (.int a1), some (.int a2), some (.int (a2 - x5))] ii_mo_walk_33 rfl rfl ?_
      refine sm_iload_n ii_mo_walk_34 rfl ?_
      refine sm_if_ne 41 ii_mo_walk_35 (by decide) ?_ ?_
      · refine sm_bipush (-4 : Int32) ii_mo_walk_38 (by decide) ?_
        exact sm_iret ii_mo_walk_40 rfl
      · refine sm_aload_n ii_mo_walk_41 rfl ?_
        refine sm_getR 63 ii_mo_walk_42 fl_mo_7 (k := 62) rfl ?_
        refine sm_iconst (0 : Int32) ii_mo_walk_45 (by decide) ?_
        refine sm_iald ii_mo_walk_46 (k := 63) rfl (fun x6 => ?_)
        refine sm_bipush (40 : Int32) ii_mo_walk_47 (by decide) ?_
        refine sm_icmp_ne 55 ii_mo_walk_49 (by decide) ?_ ?_
        · refine sm_bipush (-2 : Int32) ii_mo_walk_52 (by decide) ?_
          exact sm_iret ii_mo_walk_54 rfl
        · refine sm_aload_n ii_mo_walk_55 rfl ?_
          refine sm_cvV [] [] rfl ii_mo_walk_56 ml_mo_187 (mf_mo_keepPast) (mv_mo_keepPast) (Nat.le_of_ble_eq_true rfl) rfl 7 rfl rfl rfl rfl (mc_mo_keepPast  w4) (fun w8 => ?_)
          refine sm_aload_n ii_mo_walk_59 rfl ?_
          refine sm_getR 63 ii_mo_walk_60 fl_mo_7 (k := 62) rfl ?_
          refine sm_bipush (20 : Int32) ii_mo_walk_63 (by decide) ?_
          refine sm_iload_n ii_mo_walk_65 rfl ?_
          refine sm_iadd ii_mo_walk_66 ?_
          refine sm_iload_n ii_mo_walk_67 rfl ?_
          refine sm_iast ii_mo_walk_68 (k := 63) rfl (fun w9 => ?_)
          refine sm_iload_n ii_mo_walk_69 rfl ?_
          refine sm_if_ge 78 ii_mo_walk_70 (by decide) ?_ ?_
          · refine sm_iload_n ii_mo_walk_78 rfl ?_
            exact sm_iret ii_mo_walk_79 rfl
          · refine sm_iload_n ii_mo_walk_73 rfl ?_
            refine sm_ineg ii_mo_walk_74 ?_
            refine sm_goto 79 ii_mo_walk_75 (by decide) ?_
            exact sm_iret ii_mo_walk_79 rfl
set_option maxHeartbeats 4000000 in
set_option maxRecDepth 100000 in
theorem mc_mo_walk (a1 : Int32) (a2 : Int32) (w : sm_Mem) : sm_MC mi_mo_walk [.ref 62, .int a1, .int a2] w (ff_mo_walk a1 a2 w) := sm_MC_of (0, fun _ => 0) (by decide +kernel) (by decide) rfl (Nat.le_of_ble_eq_true rfl) (ss_mo_walk_0 a1 a2 w)
abbrev mi_ho_undo : sm_MI := (⟨"HerOrders", "undo", "(I)I"⟩, prog_1_method_18_code, 3, (some .int), 4)
set_option maxRecDepth 100000 in
theorem mf_ho_undo : sm_MF mi_ho_undo 1 := ⟨List.mem_of_getElem? (i := 595) (by decide +kernel), List.mem_of_getElem? (i := 124) (by decide +kernel), ⟨by decide, by decide⟩, by decide +kernel⟩
set_option maxRecDepth 100000 in
theorem mv_ho_undo : sm_MFV mi_ho_undo := ⟨List.mem_of_getElem? (i := 593) (by decide +kernel), List.mem_of_getElem? (i := 594) (by decide +kernel)⟩
set_option maxRecDepth 100000 in
theorem ii_ho_undo_0 : sm_D prog_1_method_18_code 0 1 1 (.aload_n 0) := ⟨by decide +kernel, rfl⟩
set_option maxRecDepth 100000 in
theorem ii_ho_undo_1 : sm_D prog_1_method_18_code 1 3 4 (.getfield 31) := ⟨by decide +kernel, rfl⟩
set_option maxRecDepth 100000 in
theorem ii_ho_undo_4 : sm_D prog_1_method_18_code 4 3 7 (.getfield 171) := ⟨by decide +kernel, rfl⟩
set_option maxRecDepth 100000 in
theorem ii_ho_undo_7 : sm_D prog_1_method_18_code 7 3 10 (.getfield 114) := ⟨by decide +kernel, rfl⟩
set_option maxRecDepth 100000 in
theorem ii_ho_undo_10 : sm_D prog_1_method_18_code 10 1 11 (.istore_n 2) := ⟨by decide +kernel, rfl⟩
set_option maxRecDepth 100000 in
theorem ii_ho_undo_11 : sm_D prog_1_method_18_code 11 1 12 (.iload_n 1) := ⟨by decide +kernel, rfl⟩
set_option maxRecDepth 100000 in
theorem ii_ho_undo_12 : sm_D prog_1_method_18_code 12 3 15 (.ifCond .lt 8) := ⟨by decide +kernel, rfl⟩
set_option maxRecDepth 100000 in
theorem ii_ho_undo_15 : sm_D prog_1_method_18_code 15 1 16 (.iload_n 1) := ⟨by decide +kernel, rfl⟩
set_option maxRecDepth 100000 in
theorem ii_ho_undo_16 : sm_D prog_1_method_18_code 16 1 17 (.iload_n 2) := ⟨by decide +kernel, rfl⟩
set_option maxRecDepth 100000 in
theorem ii_ho_undo_17 : sm_D prog_1_method_18_code 17 3 20 (.if_icmp .le 5) := ⟨by decide +kernel, rfl⟩
set_option maxRecDepth 100000 in
theorem ii_ho_undo_20 : sm_D prog_1_method_18_code 20 1 21 (.iconst (-1)) := ⟨by decide +kernel, rfl⟩
set_option maxRecDepth 100000 in
theorem ii_ho_undo_21 : sm_D prog_1_method_18_code 21 1 22 (.ireturn) := ⟨by decide +kernel, rfl⟩
set_option maxRecDepth 100000 in
theorem ii_ho_undo_22 : sm_D prog_1_method_18_code 22 1 23 (.aload_n 0) := ⟨by decide +kernel, rfl⟩
set_option maxRecDepth 100000 in
theorem ii_ho_undo_23 : sm_D prog_1_method_18_code 23 3 26 (.getfield 31) := ⟨by decide +kernel, rfl⟩
set_option maxRecDepth 100000 in
theorem ii_ho_undo_26 : sm_D prog_1_method_18_code 26 1 27 (.iload_n 1) := ⟨by decide +kernel, rfl⟩
set_option maxRecDepth 100000 in
theorem ii_ho_undo_27 : sm_D prog_1_method_18_code 27 3 30 (.invokevirtual 175) := ⟨by decide +kernel, rfl⟩
set_option maxRecDepth 100000 in
theorem ii_ho_undo_30 : sm_D prog_1_method_18_code 30 1 31 (.iload_n 2) := ⟨by decide +kernel, rfl⟩
set_option maxRecDepth 100000 in
theorem ii_ho_undo_31 : sm_D prog_1_method_18_code 31 1 32 (.iload_n 1) := ⟨by decide +kernel, rfl⟩
set_option maxRecDepth 100000 in
theorem ii_ho_undo_32 : sm_D prog_1_method_18_code 32 1 33 (.isub) := ⟨by decide +kernel, rfl⟩
set_option maxRecDepth 100000 in
theorem ii_ho_undo_33 : sm_D prog_1_method_18_code 33 1 34 (.ireturn) := ⟨by decide +kernel, rfl⟩
noncomputable def ff_ho_undo  (a1 : Int32) (w : sm_Mem) : sm_R := (if a1 < (0 : Int32) then (some (.int (-1 : Int32), w)) else (if a1 ≤ (w.1 45 3) then (sm_cV (ff_hs_goBackTo (a1) w) fun w2 => (some (.int ((w.1 45 3) - a1), w2))) else (some (.int (-1 : Int32), w))))
set_option maxHeartbeats 4000000 in
set_option maxRecDepth 100000 in
theorem ss_ho_undo_0 {E : Nat × (Nat → Int32)}  (a1 : Int32) (w : sm_Mem) : sm_Sim E (mi_ho_undo) 0 [some (.ref 0), some (.int a1), none] [] w (ff_ho_undo  a1 w) := by
  unfold ff_ho_undo
  refine sm_aload_n ii_ho_undo_0 rfl ?_
  refine sm_getR 36 ii_ho_undo_1 fl_ho_31 (k := 0) rfl ?_
  refine sm_getR 45 ii_ho_undo_4 fl_ho_171 (k := 36) rfl ?_
  refine sm_getI ii_ho_undo_7 fl_ho_114 (k := 45) rfl ?_
  refine sm_istore_n [some (.ref 0), some (.int a1), some (.int (w.1 45 3))] ii_ho_undo_10 rfl rfl ?_
  refine sm_iload_n ii_ho_undo_11 rfl ?_
  refine sm_if_lt 20 ii_ho_undo_12 (by decide) ?_ ?_
  · refine sm_iconst (-1 : Int32) ii_ho_undo_20 (by decide) ?_
    exact sm_iret ii_ho_undo_21 rfl
  · refine sm_iload_n ii_ho_undo_15 rfl ?_
    refine sm_iload_n ii_ho_undo_16 rfl ?_
    refine sm_icmp_le 22 ii_ho_undo_17 (by decide) ?_ ?_
    · refine sm_aload_n ii_ho_undo_22 rfl ?_
      refine sm_getR 36 ii_ho_undo_23 fl_ho_31 (k := 0) rfl ?_
      refine sm_iload_n ii_ho_undo_26 rfl ?_
      refine sm_cvV [.int a1] [] rfl ii_ho_undo_27 ml_ho_175 (mf_hs_goBackTo) (mv_hs_goBackTo) (Nat.le_of_ble_eq_true rfl) rfl 1 rfl rfl rfl rfl (mc_hs_goBackTo (a1) w) (fun w2 => ?_)
      refine sm_iload_n ii_ho_undo_30 rfl ?_
      refine sm_iload_n ii_ho_undo_31 rfl ?_
      refine sm_isub ii_ho_undo_32 ?_
      exact sm_iret ii_ho_undo_33 rfl
    · refine sm_iconst (-1 : Int32) ii_ho_undo_20 (by decide) ?_
      exact sm_iret ii_ho_undo_21 rfl
set_option maxHeartbeats 4000000 in
set_option maxRecDepth 100000 in
theorem mc_ho_undo (a1 : Int32) (w : sm_Mem) : sm_MC mi_ho_undo [.ref 0, .int a1] w (ff_ho_undo a1 w) := sm_MC_of (0, fun _ => 0) (by decide +kernel) (by decide) rfl (Nat.le_of_ble_eq_true rfl) (ss_ho_undo_0 a1 w)
abbrev mi_mo_undo : sm_MI := (⟨"HerOrdersModel", "undo", "(I)I"⟩, prog_9_method_53_code, 4, (some .int), 2)
set_option maxRecDepth 100000 in
theorem mf_mo_undo : sm_MF mi_mo_undo 1 := ⟨List.mem_of_getElem? (i := 1226) (by decide +kernel), List.mem_of_getElem? (i := 132) (by decide +kernel), ⟨by decide, by decide⟩, by decide +kernel⟩
set_option maxRecDepth 100000 in
theorem mv_mo_undo : sm_MFV mi_mo_undo := ⟨List.mem_of_getElem? (i := 1224) (by decide +kernel), List.mem_of_getElem? (i := 1225) (by decide +kernel)⟩
set_option maxRecDepth 100000 in
theorem ii_mo_undo_0 : sm_D prog_9_method_53_code 0 1 1 (.iload_n 1) := ⟨by decide +kernel, rfl⟩
set_option maxRecDepth 100000 in
theorem ii_mo_undo_1 : sm_D prog_9_method_53_code 1 1 2 (.i2l) := ⟨by decide +kernel, rfl⟩
set_option maxRecDepth 100000 in
theorem ii_mo_undo_2 : sm_D prog_9_method_53_code 2 1 3 (.lconst 0) := ⟨by decide +kernel, rfl⟩
set_option maxRecDepth 100000 in
theorem ii_mo_undo_3 : sm_D prog_9_method_53_code 3 1 4 (.aload_n 0) := ⟨by decide +kernel, rfl⟩
set_option maxRecDepth 100000 in
theorem ii_mo_undo_4 : sm_D prog_9_method_53_code 4 3 7 (.getfield 7) := ⟨by decide +kernel, rfl⟩
set_option maxRecDepth 100000 in
theorem ii_mo_undo_7 : sm_D prog_9_method_53_code 7 1 8 (.iconst 0) := ⟨by decide +kernel, rfl⟩
set_option maxRecDepth 100000 in
theorem ii_mo_undo_8 : sm_D prog_9_method_53_code 8 1 9 (.iaload) := ⟨by decide +kernel, rfl⟩
set_option maxRecDepth 100000 in
theorem ii_mo_undo_9 : sm_D prog_9_method_53_code 9 1 10 (.i2l) := ⟨by decide +kernel, rfl⟩
set_option maxRecDepth 100000 in
theorem ii_mo_undo_10 : sm_D prog_9_method_53_code 10 3 13 (.invokestatic 71) := ⟨by decide +kernel, rfl⟩
set_option maxRecDepth 100000 in
theorem ii_mo_undo_13 : sm_D prog_9_method_53_code 13 3 16 (.ifCond .ne 5) := ⟨by decide +kernel, rfl⟩
set_option maxRecDepth 100000 in
theorem ii_mo_undo_16 : sm_D prog_9_method_53_code 16 1 17 (.iconst (-1)) := ⟨by decide +kernel, rfl⟩
set_option maxRecDepth 100000 in
theorem ii_mo_undo_17 : sm_D prog_9_method_53_code 17 1 18 (.ireturn) := ⟨by decide +kernel, rfl⟩
set_option maxRecDepth 100000 in
theorem ii_mo_undo_18 : sm_D prog_9_method_53_code 18 1 19 (.aload_n 0) := ⟨by decide +kernel, rfl⟩
set_option maxRecDepth 100000 in
theorem ii_mo_undo_19 : sm_D prog_9_method_53_code 19 3 22 (.getfield 7) := ⟨by decide +kernel, rfl⟩
set_option maxRecDepth 100000 in
theorem ii_mo_undo_22 : sm_D prog_9_method_53_code 22 1 23 (.iconst 0) := ⟨by decide +kernel, rfl⟩
set_option maxRecDepth 100000 in
theorem ii_mo_undo_23 : sm_D prog_9_method_53_code 23 1 24 (.iaload) := ⟨by decide +kernel, rfl⟩
set_option maxRecDepth 100000 in
theorem ii_mo_undo_24 : sm_D prog_9_method_53_code 24 1 25 (.iload_n 1) := ⟨by decide +kernel, rfl⟩
set_option maxRecDepth 100000 in
theorem ii_mo_undo_25 : sm_D prog_9_method_53_code 25 1 26 (.isub) := ⟨by decide +kernel, rfl⟩
set_option maxRecDepth 100000 in
theorem ii_mo_undo_26 : sm_D prog_9_method_53_code 26 1 27 (.istore_n 2) := ⟨by decide +kernel, rfl⟩
set_option maxRecDepth 100000 in
theorem ii_mo_undo_27 : sm_D prog_9_method_53_code 27 1 28 (.iconst 0) := ⟨by decide +kernel, rfl⟩
set_option maxRecDepth 100000 in
theorem ii_mo_undo_28 : sm_D prog_9_method_53_code 28 1 29 (.istore_n 3) := ⟨by decide +kernel, rfl⟩
set_option maxRecDepth 100000 in
theorem ii_mo_undo_29 : sm_D prog_9_method_53_code 29 1 30 (.iload_n 3) := ⟨by decide +kernel, rfl⟩
set_option maxRecDepth 100000 in
theorem ii_mo_undo_30 : sm_D prog_9_method_53_code 30 2 32 (.bipush 31) := ⟨by decide +kernel, rfl⟩
set_option maxRecDepth 100000 in
theorem ii_mo_undo_32 : sm_D prog_9_method_53_code 32 3 35 (.if_icmp .ge 35) := ⟨by decide +kernel, rfl⟩
set_option maxRecDepth 100000 in
theorem ii_mo_undo_35 : sm_D prog_9_method_53_code 35 1 36 (.iload_n 2) := ⟨by decide +kernel, rfl⟩
set_option maxRecDepth 100000 in
theorem ii_mo_undo_36 : sm_D prog_9_method_53_code 36 3 39 (.ifCond .le 31) := ⟨by decide +kernel, rfl⟩
set_option maxRecDepth 100000 in
theorem ii_mo_undo_39 : sm_D prog_9_method_53_code 39 1 40 (.aload_n 0) := ⟨by decide +kernel, rfl⟩
set_option maxRecDepth 100000 in
theorem ii_mo_undo_40 : sm_D prog_9_method_53_code 40 3 43 (.getfield 7) := ⟨by decide +kernel, rfl⟩
set_option maxRecDepth 100000 in
theorem ii_mo_undo_43 : sm_D prog_9_method_53_code 43 1 44 (.iconst 1) := ⟨by decide +kernel, rfl⟩
set_option maxRecDepth 100000 in
theorem ii_mo_undo_44 : sm_D prog_9_method_53_code 44 1 45 (.iload_n 3) := ⟨by decide +kernel, rfl⟩
set_option maxRecDepth 100000 in
theorem ii_mo_undo_45 : sm_D prog_9_method_53_code 45 1 46 (.iadd) := ⟨by decide +kernel, rfl⟩
set_option maxRecDepth 100000 in
theorem ii_mo_undo_46 : sm_D prog_9_method_53_code 46 1 47 (.aload_n 0) := ⟨by decide +kernel, rfl⟩
set_option maxRecDepth 100000 in
theorem ii_mo_undo_47 : sm_D prog_9_method_53_code 47 3 50 (.getfield 7) := ⟨by decide +kernel, rfl⟩
set_option maxRecDepth 100000 in
theorem ii_mo_undo_50 : sm_D prog_9_method_53_code 50 2 52 (.bipush 32) := ⟨by decide +kernel, rfl⟩
set_option maxRecDepth 100000 in
theorem ii_mo_undo_52 : sm_D prog_9_method_53_code 52 2 54 (.bipush 31) := ⟨by decide +kernel, rfl⟩
set_option maxRecDepth 100000 in
theorem ii_mo_undo_54 : sm_D prog_9_method_53_code 54 1 55 (.iload_n 1) := ⟨by decide +kernel, rfl⟩
set_option maxRecDepth 100000 in
theorem ii_mo_undo_55 : sm_D prog_9_method_53_code 55 1 56 (.imul) := ⟨by decide +kernel, rfl⟩
set_option maxRecDepth 100000 in
theorem ii_mo_undo_56 : sm_D prog_9_method_53_code 56 1 57 (.iadd) := ⟨by decide +kernel, rfl⟩
set_option maxRecDepth 100000 in
theorem ii_mo_undo_57 : sm_D prog_9_method_53_code 57 1 58 (.iload_n 3) := ⟨by decide +kernel, rfl⟩
set_option maxRecDepth 100000 in
theorem ii_mo_undo_58 : sm_D prog_9_method_53_code 58 1 59 (.iadd) := ⟨by decide +kernel, rfl⟩
set_option maxRecDepth 100000 in
theorem ii_mo_undo_59 : sm_D prog_9_method_53_code 59 1 60 (.iaload) := ⟨by decide +kernel, rfl⟩
set_option maxRecDepth 100000 in
theorem ii_mo_undo_60 : sm_D prog_9_method_53_code 60 1 61 (.iastore) := ⟨by decide +kernel, rfl⟩
set_option maxRecDepth 100000 in
theorem ii_mo_undo_61 : sm_D prog_9_method_53_code 61 3 64 (.iinc 3 1) := ⟨by decide +kernel, rfl⟩
set_option maxRecDepth 100000 in
theorem ii_mo_undo_64 : sm_D prog_9_method_53_code 64 3 67 (.goto (-35)) := ⟨by decide +kernel, rfl⟩
set_option maxRecDepth 100000 in
theorem ii_mo_undo_67 : sm_D prog_9_method_53_code 67 1 68 (.aload_n 0) := ⟨by decide +kernel, rfl⟩
set_option maxRecDepth 100000 in
theorem ii_mo_undo_68 : sm_D prog_9_method_53_code 68 3 71 (.getfield 7) := ⟨by decide +kernel, rfl⟩
set_option maxRecDepth 100000 in
theorem ii_mo_undo_71 : sm_D prog_9_method_53_code 71 1 72 (.iconst 0) := ⟨by decide +kernel, rfl⟩
set_option maxRecDepth 100000 in
theorem ii_mo_undo_72 : sm_D prog_9_method_53_code 72 1 73 (.iload_n 1) := ⟨by decide +kernel, rfl⟩
set_option maxRecDepth 100000 in
theorem ii_mo_undo_73 : sm_D prog_9_method_53_code 73 1 74 (.iastore) := ⟨by decide +kernel, rfl⟩
set_option maxRecDepth 100000 in
theorem ii_mo_undo_74 : sm_D prog_9_method_53_code 74 1 75 (.iload_n 2) := ⟨by decide +kernel, rfl⟩
set_option maxRecDepth 100000 in
theorem ii_mo_undo_75 : sm_D prog_9_method_53_code 75 1 76 (.ireturn) := ⟨by decide +kernel, rfl⟩
noncomputable def ff_mo_undo_67  (a1 : Int32) (a2 : Int32) (w : sm_Mem) : sm_R := (Option.bind (sm_wr w 63 5184 (0 : Int32) a1) fun w1 => (some (.int a2, w1)))
set_option maxHeartbeats 4000000 in
set_option maxRecDepth 100000 in
theorem ss_mo_undo_67 {E : Nat × (Nat → Int32)}  (a1 : Int32) (a2 : Int32) (w : sm_Mem) : sm_Sim E (mi_mo_undo) 67 [some (.ref 62), some (.int a1), some (.int a2), none] [] w (ff_mo_undo_67  a1 a2 w) := by
  unfold ff_mo_undo_67
  refine sm_aload_n ii_mo_undo_67 rfl ?_
  refine sm_getR 63 ii_mo_undo_68 fl_mo_7 (k := 62) rfl ?_
  refine sm_iconst (0 : Int32) ii_mo_undo_71 (by decide) ?_
  refine sm_iload_n ii_mo_undo_72 rfl ?_
  refine sm_iast ii_mo_undo_73 (k := 63) rfl (fun w1 => ?_)
  refine sm_iload_n ii_mo_undo_74 rfl ?_
  exact sm_iret ii_mo_undo_75 rfl
noncomputable def ff_mo_undo_29_b  (self29 : Int32 → Int32 → Int32 → sm_Mem → sm_R) (a1 : Int32) (a2 : Int32) (a3 : Int32) (w : sm_Mem) : sm_R := (if (31 : Int32) ≤ a3 then ff_mo_undo_67 (a1) (a2) w else (if a2 ≤ (0 : Int32) then ff_mo_undo_67 (a1) (a2) w else (Option.bind (sm_rd w 63 5184 (((32 : Int32) + ((31 : Int32) * a1)) + a3)) fun x2 => (Option.bind (sm_wr w 63 5184 ((1 : Int32) + a3) x2) fun w3 => self29 (a1) (a2) ((a3 + (1 : Int32))) w3))))
noncomputable def ff_mo_undo_29_f  : Nat → Int32 → Int32 → Int32 → sm_Mem → sm_R
  | 0, _, _, _, _ => none
  | n + 1, a1, a2, a3, w => ff_mo_undo_29_b  (ff_mo_undo_29_f  n) a1 a2 a3 w
noncomputable def ff_mo_undo_29  (a1 : Int32) (a2 : Int32) (a3 : Int32) (w : sm_Mem) : sm_R := ff_mo_undo_29_f  sm_N a1 a2 a3 w
set_option maxHeartbeats 4000000 in
set_option maxRecDepth 100000 in
theorem ss_mo_undo_29_b {E : Nat × (Nat → Int32)}  (self29 : Int32 → Int32 → Int32 → sm_Mem → sm_R) (hself29 : ∀ (a1 : Int32) (a2 : Int32) (a3 : Int32) (w : sm_Mem), sm_Sim E (mi_mo_undo) 29 [some (.ref 62), some (.int a1), some (.int a2), some (.int a3)] [] w (self29 a1 a2 a3 w)) (a1 : Int32) (a2 : Int32) (a3 : Int32) (w : sm_Mem) : sm_Sim E (mi_mo_undo) 29 [some (.ref 62), some (.int a1), some (.int a2), some (.int a3)] [] w (ff_mo_undo_29_b  self29 a1 a2 a3 w) := by
  unfold ff_mo_undo_29_b
  refine sm_iload_n ii_mo_undo_29 rfl ?_
  refine sm_bipush (31 : Int32) ii_mo_undo_30 (by decide) ?_
  refine sm_icmp_ge 67 ii_mo_undo_32 (by decide) ?_ ?_
  · refine sm_msk [true, true, true, false] [some (.ref 62), some (.int a1), some (.int a2), none] rfl ?_
    exact ss_mo_undo_67 (a1) (a2) w
  · refine sm_iload_n ii_mo_undo_35 rfl ?_
    refine sm_if_le 67 ii_mo_undo_36 (by decide) ?_ ?_
    · refine sm_msk [true, true, true, false] [some (.ref 62), some (.int a1), some (.int a2), none] rfl ?_
      exact ss_mo_undo_67 (a1) (a2) w
    · refine sm_aload_n ii_mo_undo_39 rfl ?_
      refine sm_getR 63 ii_mo_undo_40 fl_mo_7 (k := 62) rfl ?_
      refine sm_iconst (1 : Int32) ii_mo_undo_43 (by decide) ?_
      refine sm_iload_n ii_mo_undo_44 rfl ?_
      refine sm_iadd ii_mo_undo_45 ?_
      refine sm_aload_n ii_mo_undo_46 rfl ?_
      refine sm_getR 63 ii_mo_undo_47 fl_mo_7 (k := 62) rfl ?_
      refine sm_bipush (32 : Int32) ii_mo_undo_50 (by decide) ?_
      refine sm_bipush (31 : Int32) ii_mo_undo_52 (by decide) ?_
      refine sm_iload_n ii_mo_undo_54 rfl ?_
      refine sm_imul ii_mo_undo_55 ?_
      refine sm_iadd ii_mo_undo_56 ?_
      refine sm_iload_n ii_mo_undo_57 rfl ?_
      refine sm_iadd ii_mo_undo_58 ?_
      refine sm_iald ii_mo_undo_59 (k := 63) rfl (fun x2 => ?_)
      refine sm_iast ii_mo_undo_60 (k := 63) rfl (fun w3 => ?_)
      refine sm_iinc (a3 + (1 : Int32)) [some (.ref 62), some (.int a1), some (.int a2), some (.int (a3 + (1 : Int32)))] ii_mo_undo_61 rfl rfl rfl rfl ?_
      refine sm_goto 29 ii_mo_undo_64 (by decide) ?_
      exact hself29 (a1) (a2) ((a3 + (1 : Int32))) w3
set_option maxHeartbeats 4000000 in
set_option maxRecDepth 100000 in
theorem ss_mo_undo_29_f {E : Nat × (Nat → Int32)}  : ∀ (n : Nat) (a1 : Int32) (a2 : Int32) (a3 : Int32) (w : sm_Mem), sm_Sim E (mi_mo_undo) 29 [some (.ref 62), some (.int a1), some (.int a2), some (.int a3)] [] w (ff_mo_undo_29_f  n a1 a2 a3 w)
  | 0, _, _, _, _ => fun _ _ h => by cases h
  | n + 1, a1, a2, a3, w => ss_mo_undo_29_b  _ (ss_mo_undo_29_f  n) a1 a2 a3 w
set_option maxHeartbeats 4000000 in
set_option maxRecDepth 100000 in
theorem ss_mo_undo_29 {E : Nat × (Nat → Int32)}  (a1 : Int32) (a2 : Int32) (a3 : Int32) (w : sm_Mem) : sm_Sim E (mi_mo_undo) 29 [some (.ref 62), some (.int a1), some (.int a2), some (.int a3)] [] w (ff_mo_undo_29  a1 a2 a3 w) := ss_mo_undo_29_f  sm_N a1 a2 a3 w
noncomputable def ff_mo_undo  (a1 : Int32) (w : sm_Mem) : sm_R := (Option.bind (sm_rd w 63 5184 (0 : Int32)) fun x4 => (sm_cI (ff_mo_in ((Int32.toInt64 a1)) ((0 : Int64)) ((Int32.toInt64 x4)) w) fun x5 w6 => (if x5 = (0 : Int32) then (some (.int (-1 : Int32), w6)) else (Option.bind (sm_rd w6 63 5184 (0 : Int32)) fun x7 => ff_mo_undo_29 (a1) ((x7 - a1)) ((0 : Int32)) w6))))
set_option maxHeartbeats 4000000 in
set_option maxRecDepth 100000 in
theorem ss_mo_undo_0 {E : Nat × (Nat → Int32)}  (a1 : Int32) (w : sm_Mem) : sm_Sim E (mi_mo_undo) 0 [some (.ref 62), some (.int a1), none, none] [] w (ff_mo_undo  a1 w) := by
  unfold ff_mo_undo
  refine sm_iload_n ii_mo_undo_0 rfl ?_
  refine sm_i2l ii_mo_undo_1 ?_
  refine sm_lconst (0 : Int64) ii_mo_undo_2 (by decide) ?_
  refine sm_aload_n ii_mo_undo_3 rfl ?_
  refine sm_getR 63 ii_mo_undo_4 fl_mo_7 (k := 62) rfl ?_
  refine sm_iconst (0 : Int32) ii_mo_undo_7 (by decide) ?_
  refine sm_iald ii_mo_undo_8 (k := 63) rfl (fun x4 => ?_)
  refine sm_i2l ii_mo_undo_9 ?_
  refine sm_csI [.long (Int32.toInt64 a1), .long (0 : Int64), .long (Int32.toInt64 x4)] [] rfl ii_mo_undo_10 ml_mo_71 (mf_mo_in) (mv_mo_in) (Nat.le_of_ble_eq_true rfl) rfl rfl rfl (mc_mo_in ((Int32.toInt64 a1)) ((0 : Int64)) ((Int32.toInt64 x4)) w) (fun x5 w6 => ?_)
  refine sm_if_ne 18 ii_mo_undo_13 (by decide) ?_ ?_
  · refine sm_iconst (-1 : Int32) ii_mo_undo_16 (by decide) ?_
    exact sm_iret ii_mo_undo_17 rfl
  · refine sm_aload_n ii_mo_undo_18 rfl ?_
    refine sm_getR 63 ii_mo_undo_19 fl_mo_7 (k := 62) rfl ?_
    refine sm_iconst (0 : Int32) ii_mo_undo_22 (by decide) ?_
    refine sm_iald ii_mo_undo_23 (k := 63) rfl (fun x7 => ?_)
    refine sm_iload_n ii_mo_undo_24 rfl ?_
    refine sm_isub ii_mo_undo_25 ?_
    refine sm_istore_n [some (.ref 62), some (.int a1), some (.int (x7 - a1)), none] ii_mo_undo_26 rfl rfl ?_
    refine sm_iconst (0 : Int32) ii_mo_undo_27 (by decide) ?_
    refine sm_istore_n [some (.ref 62), some (.int a1), some (.int (x7 - a1)), some (.int (0 : Int32))] ii_mo_undo_28 rfl rfl ?_
    exact ss_mo_undo_29 (a1) ((x7 - a1)) ((0 : Int32)) w6
set_option maxHeartbeats 4000000 in
set_option maxRecDepth 100000 in
theorem mc_mo_undo (a1 : Int32) (w : sm_Mem) : sm_MC mi_mo_undo [.ref 62, .int a1] w (ff_mo_undo a1 w) := sm_MC_of (0, fun _ => 0) (by decide +kernel) (by decide) rfl (Nat.le_of_ble_eq_true rfl) (ss_mo_undo_0 a1 w)
abbrev mi_de_become : sm_MI := (⟨"HerOrders$Deeds", "become", "(LHerOrders$Deeds;)V"⟩, prog_2_method_4_code, 3, none, 1)
set_option maxRecDepth 100000 in
theorem mf_de_become : sm_MF mi_de_become 1 := ⟨List.mem_of_getElem? (i := 604) (by decide +kernel), List.mem_of_getElem? (i := 127) (by decide +kernel), ⟨by decide, by decide⟩, by decide +kernel⟩
set_option maxRecDepth 100000 in
theorem mv_de_become : sm_MFV mi_de_become := ⟨List.mem_of_getElem? (i := 603) (by decide +kernel), List.mem_of_getElem? (i := 26) (by decide +kernel)⟩
set_option maxRecDepth 100000 in
theorem ii_de_become_0 : sm_D prog_2_method_4_code 0 1 1 (.aload_n 0) := ⟨by decide +kernel, rfl⟩
set_option maxRecDepth 100000 in
theorem ii_de_become_1 : sm_D prog_2_method_4_code 1 1 2 (.aload_n 1) := ⟨by decide +kernel, rfl⟩
set_option maxRecDepth 100000 in
theorem ii_de_become_2 : sm_D prog_2_method_4_code 2 3 5 (.getfield 21) := ⟨by decide +kernel, rfl⟩
set_option maxRecDepth 100000 in
theorem ii_de_become_5 : sm_D prog_2_method_4_code 5 3 8 (.putfield 21) := ⟨by decide +kernel, rfl⟩
set_option maxRecDepth 100000 in
theorem ii_de_become_8 : sm_D prog_2_method_4_code 8 1 9 (.iconst 0) := ⟨by decide +kernel, rfl⟩
set_option maxRecDepth 100000 in
theorem ii_de_become_9 : sm_D prog_2_method_4_code 9 1 10 (.istore_n 2) := ⟨by decide +kernel, rfl⟩
set_option maxRecDepth 100000 in
theorem ii_de_become_10 : sm_D prog_2_method_4_code 10 1 11 (.iload_n 2) := ⟨by decide +kernel, rfl⟩
set_option maxRecDepth 100000 in
theorem ii_de_become_11 : sm_D prog_2_method_4_code 11 1 12 (.aload_n 0) := ⟨by decide +kernel, rfl⟩
set_option maxRecDepth 100000 in
theorem ii_de_become_12 : sm_D prog_2_method_4_code 12 3 15 (.getfield 21) := ⟨by decide +kernel, rfl⟩
set_option maxRecDepth 100000 in
theorem ii_de_become_15 : sm_D prog_2_method_4_code 15 3 18 (.if_icmp .ge 45) := ⟨by decide +kernel, rfl⟩
set_option maxRecDepth 100000 in
theorem ii_de_become_18 : sm_D prog_2_method_4_code 18 1 19 (.aload_n 0) := ⟨by decide +kernel, rfl⟩
set_option maxRecDepth 100000 in
theorem ii_de_become_19 : sm_D prog_2_method_4_code 19 3 22 (.getfield 9) := ⟨by decide +kernel, rfl⟩
set_option maxRecDepth 100000 in
theorem ii_de_become_22 : sm_D prog_2_method_4_code 22 1 23 (.iload_n 2) := ⟨by decide +kernel, rfl⟩
set_option maxRecDepth 100000 in
theorem ii_de_become_23 : sm_D prog_2_method_4_code 23 1 24 (.aload_n 1) := ⟨by decide +kernel, rfl⟩
set_option maxRecDepth 100000 in
theorem ii_de_become_24 : sm_D prog_2_method_4_code 24 3 27 (.getfield 9) := ⟨by decide +kernel, rfl⟩
set_option maxRecDepth 100000 in
theorem ii_de_become_27 : sm_D prog_2_method_4_code 27 1 28 (.iload_n 2) := ⟨by decide +kernel, rfl⟩
set_option maxRecDepth 100000 in
theorem ii_de_become_28 : sm_D prog_2_method_4_code 28 1 29 (.iaload) := ⟨by decide +kernel, rfl⟩
set_option maxRecDepth 100000 in
theorem ii_de_become_29 : sm_D prog_2_method_4_code 29 1 30 (.iastore) := ⟨by decide +kernel, rfl⟩
set_option maxRecDepth 100000 in
theorem ii_de_become_30 : sm_D prog_2_method_4_code 30 1 31 (.aload_n 0) := ⟨by decide +kernel, rfl⟩
set_option maxRecDepth 100000 in
theorem ii_de_become_31 : sm_D prog_2_method_4_code 31 3 34 (.getfield 15) := ⟨by decide +kernel, rfl⟩
set_option maxRecDepth 100000 in
theorem ii_de_become_34 : sm_D prog_2_method_4_code 34 1 35 (.iload_n 2) := ⟨by decide +kernel, rfl⟩
set_option maxRecDepth 100000 in
theorem ii_de_become_35 : sm_D prog_2_method_4_code 35 1 36 (.aload_n 1) := ⟨by decide +kernel, rfl⟩
set_option maxRecDepth 100000 in
theorem ii_de_become_36 : sm_D prog_2_method_4_code 36 3 39 (.getfield 15) := ⟨by decide +kernel, rfl⟩
set_option maxRecDepth 100000 in
theorem ii_de_become_39 : sm_D prog_2_method_4_code 39 1 40 (.iload_n 2) := ⟨by decide +kernel, rfl⟩
set_option maxRecDepth 100000 in
theorem ii_de_become_40 : sm_D prog_2_method_4_code 40 1 41 (.iaload) := ⟨by decide +kernel, rfl⟩
set_option maxRecDepth 100000 in
theorem ii_de_become_41 : sm_D prog_2_method_4_code 41 1 42 (.iastore) := ⟨by decide +kernel, rfl⟩
set_option maxRecDepth 100000 in
theorem ii_de_become_42 : sm_D prog_2_method_4_code 42 1 43 (.aload_n 0) := ⟨by decide +kernel, rfl⟩
set_option maxRecDepth 100000 in
theorem ii_de_become_43 : sm_D prog_2_method_4_code 43 3 46 (.getfield 18) := ⟨by decide +kernel, rfl⟩
set_option maxRecDepth 100000 in
theorem ii_de_become_46 : sm_D prog_2_method_4_code 46 1 47 (.iload_n 2) := ⟨by decide +kernel, rfl⟩
set_option maxRecDepth 100000 in
theorem ii_de_become_47 : sm_D prog_2_method_4_code 47 1 48 (.aload_n 1) := ⟨by decide +kernel, rfl⟩
set_option maxRecDepth 100000 in
theorem ii_de_become_48 : sm_D prog_2_method_4_code 48 3 51 (.getfield 18) := ⟨by decide +kernel, rfl⟩
set_option maxRecDepth 100000 in
theorem ii_de_become_51 : sm_D prog_2_method_4_code 51 1 52 (.iload_n 2) := ⟨by decide +kernel, rfl⟩
set_option maxRecDepth 100000 in
theorem ii_de_become_52 : sm_D prog_2_method_4_code 52 1 53 (.iaload) := ⟨by decide +kernel, rfl⟩
set_option maxRecDepth 100000 in
theorem ii_de_become_53 : sm_D prog_2_method_4_code 53 1 54 (.iastore) := ⟨by decide +kernel, rfl⟩
set_option maxRecDepth 100000 in
theorem ii_de_become_54 : sm_D prog_2_method_4_code 54 3 57 (.iinc 2 1) := ⟨by decide +kernel, rfl⟩
set_option maxRecDepth 100000 in
theorem ii_de_become_57 : sm_D prog_2_method_4_code 57 3 60 (.goto (-47)) := ⟨by decide +kernel, rfl⟩
set_option maxRecDepth 100000 in
theorem ii_de_become_60 : sm_D prog_2_method_4_code 60 1 61 (.return_) := ⟨by decide +kernel, rfl⟩
noncomputable def ff_de_become_10_b  (self10 : Nat → Nat → Int32 → sm_Mem → sm_R) (a0 : Nat) (a1 : Nat) (a2 : Int32) (w : sm_Mem) : sm_R := (Option.bind (sm_gI w a0 0 3) fun x1 => (if x1 ≤ a2 then (some (.null, w)) else (Option.bind (sm_fk a0 0 0 2) fun r2 => (Option.bind (sm_fk a1 0 0 2) fun r3 => (Option.bind (sm_rds w r3 a2) fun x4 => (Option.bind (sm_wrs w r2 a2 x4) fun w5 => (Option.bind (sm_fk a0 0 1 2) fun r6 => (Option.bind (sm_fk a1 0 1 2) fun r7 => (Option.bind (sm_rds w5 r7 a2) fun x8 => (Option.bind (sm_wrs w5 r6 a2 x8) fun w9 => (Option.bind (sm_fk a0 0 2 2) fun r10 => (Option.bind (sm_fk a1 0 2 2) fun r11 => (Option.bind (sm_rds w9 r11 a2) fun x12 => (Option.bind (sm_wrs w9 r10 a2 x12) fun w13 => self10 (a0) (a1) ((a2 + (1 : Int32))) w13))))))))))))))
noncomputable def ff_de_become_10_f  : Nat → Nat → Nat → Int32 → sm_Mem → sm_R
  | 0, _, _, _, _ => none
  | n + 1, a0, a1, a2, w => ff_de_become_10_b  (ff_de_become_10_f  n) a0 a1 a2 w
noncomputable def ff_de_become_10  (a0 : Nat) (a1 : Nat) (a2 : Int32) (w : sm_Mem) : sm_R := ff_de_become_10_f  sm_N a0 a1 a2 w
set_option maxHeartbeats 4000000 in
set_option maxRecDepth 100000 in
theorem ss_de_become_10_b {E : Nat × (Nat → Int32)}  (self10 : Nat → Nat → Int32 → sm_Mem → sm_R) (hself10 : ∀ (a0 : Nat) (a1 : Nat) (a2 : Int32) (w : sm_Mem), sm_Sim E (mi_de_become) 10 [some (.ref a0), some (.ref a1), some (.int a2)] [] w (self10 a0 a1 a2 w)) (a0 : Nat) (a1 : Nat) (a2 : Int32) (w : sm_Mem) : sm_Sim E (mi_de_become) 10 [some (.ref a0), some (.ref a1), some (.int a2)] [] w (ff_de_become_10_b  self10 a0 a1 a2 w) := by
  unfold ff_de_become_10_b
  refine sm_iload_n ii_de_become_10 rfl ?_
  refine sm_aload_n ii_de_become_11 rfl ?_
  refine sm_getIs ii_de_become_12 fl_de_21 (fun x1 => ?_)
  refine sm_icmp_ge 60 ii_de_become_15 (by decide) ?_ ?_
  · exact sm_vret ii_de_become_60 rfl
  · refine sm_aload_n ii_de_become_18 rfl ?_
    refine sm_getRs ii_de_become_19 fl_de_9 (fun r2 => ?_)
    refine sm_iload_n ii_de_become_22 rfl ?_
    refine sm_aload_n ii_de_become_23 rfl ?_
    refine sm_getRs ii_de_become_24 fl_de_9 (fun r3 => ?_)
    refine sm_iload_n ii_de_become_27 rfl ?_
    refine sm_ialds ii_de_become_28 (fun x4 => ?_)
    refine sm_iasts ii_de_become_29 (fun w5 => ?_)
    refine sm_aload_n ii_de_become_30 rfl ?_
    refine sm_getRs ii_de_become_31 fl_de_15 (fun r6 => ?_)
    refine sm_iload_n ii_de_become_34 rfl ?_
    refine sm_aload_n ii_de_become_35 rfl ?_
    refine sm_getRs ii_de_become_36 fl_de_15 (fun r7 => ?_)
    refine sm_iload_n ii_de_become_39 rfl ?_
    refine sm_ialds ii_de_become_40 (fun x8 => ?_)
    refine sm_iasts ii_de_become_41 (fun w9 => ?_)
    refine sm_aload_n ii_de_become_42 rfl ?_
    refine sm_getRs ii_de_become_43 fl_de_18 (fun r10 => ?_)
    refine sm_iload_n ii_de_become_46 rfl ?_
    refine sm_aload_n ii_de_become_47 rfl ?_
    refine sm_getRs ii_de_become_48 fl_de_18 (fun r11 => ?_)
    refine sm_iload_n ii_de_become_51 rfl ?_
    refine sm_ialds ii_de_become_52 (fun x12 => ?_)
    refine sm_iasts ii_de_become_53 (fun w13 => ?_)
    refine sm_iinc (a2 + (1 : Int32)) [some (.ref a0), some (.ref a1), some (.int (a2 + (1 : Int32)))] ii_de_become_54 rfl rfl rfl rfl ?_
    refine sm_goto 10 ii_de_become_57 (by decide) ?_
    exact hself10 (a0) (a1) ((a2 + (1 : Int32))) w13
set_option maxHeartbeats 4000000 in
set_option maxRecDepth 100000 in
theorem ss_de_become_10_f {E : Nat × (Nat → Int32)}  : ∀ (n : Nat) (a0 : Nat) (a1 : Nat) (a2 : Int32) (w : sm_Mem), sm_Sim E (mi_de_become) 10 [some (.ref a0), some (.ref a1), some (.int a2)] [] w (ff_de_become_10_f  n a0 a1 a2 w)
  | 0, _, _, _, _ => fun _ _ h => by cases h
  | n + 1, a0, a1, a2, w => ss_de_become_10_b  _ (ss_de_become_10_f  n) a0 a1 a2 w
set_option maxHeartbeats 4000000 in
set_option maxRecDepth 100000 in
theorem ss_de_become_10 {E : Nat × (Nat → Int32)}  (a0 : Nat) (a1 : Nat) (a2 : Int32) (w : sm_Mem) : sm_Sim E (mi_de_become) 10 [some (.ref a0), some (.ref a1), some (.int a2)] [] w (ff_de_become_10  a0 a1 a2 w) := ss_de_become_10_f  sm_N a0 a1 a2 w
noncomputable def ff_de_become  (a0 : Nat) (a1 : Nat) (w : sm_Mem) : sm_R := (Option.bind (sm_gI w a1 0 3) fun x14 => (Option.bind (sm_pI w a0 0 3 x14) fun w15 => ff_de_become_10 (a0) (a1) ((0 : Int32)) w15))
set_option maxHeartbeats 4000000 in
set_option maxRecDepth 100000 in
theorem ss_de_become_0 {E : Nat × (Nat → Int32)}  (a0 : Nat) (a1 : Nat) (w : sm_Mem) : sm_Sim E (mi_de_become) 0 [some (.ref a0), some (.ref a1), none] [] w (ff_de_become  a0 a1 w) := by
  unfold ff_de_become
  refine sm_aload_n ii_de_become_0 rfl ?_
  refine sm_aload_n ii_de_become_1 rfl ?_
  refine sm_getIs ii_de_become_2 fl_de_21 (fun x14 => ?_)
  refine sm_putIs ii_de_become_5 fp_de_21 (fun w15 => ?_)
  refine sm_iconst (0 : Int32) ii_de_become_8 (by decide) ?_
  refine sm_istore_n [some (.ref a0), some (.ref a1), some (.int (0 : Int32))] ii_de_become_9 rfl rfl ?_
  exact ss_de_become_10 (a0) (a1) ((0 : Int32)) w15
set_option maxHeartbeats 4000000 in
set_option maxRecDepth 100000 in
theorem mc_de_become (a0 : Nat) (a1 : Nat) (w : sm_Mem) : sm_MC mi_de_become [.ref a0, .ref a1] w (ff_de_become a0 a1 w) := sm_MC_of (0, fun _ => 0) (by decide +kernel) (by decide) rfl (Nat.le_of_ble_eq_true rfl) (ss_de_become_0 a0 a1 w)
abbrev mi_ho_keep : sm_MI := (⟨"HerOrders", "keep", "(I)I"⟩, prog_1_method_19_code, 2, (some .int), 2)
set_option maxRecDepth 100000 in
theorem mf_ho_keep : sm_MF mi_ho_keep 1 := ⟨List.mem_of_getElem? (i := 600) (by decide +kernel), List.mem_of_getElem? (i := 124) (by decide +kernel), ⟨by decide, by decide⟩, by decide +kernel⟩
set_option maxRecDepth 100000 in
theorem mv_ho_keep : sm_MFV mi_ho_keep := ⟨List.mem_of_getElem? (i := 598) (by decide +kernel), List.mem_of_getElem? (i := 599) (by decide +kernel)⟩
set_option maxRecDepth 100000 in
theorem ii_ho_keep_0 : sm_D prog_1_method_19_code 0 1 1 (.iload_n 1) := ⟨by decide +kernel, rfl⟩
set_option maxRecDepth 100000 in
theorem ii_ho_keep_1 : sm_D prog_1_method_19_code 1 1 2 (.iconst 3) := ⟨by decide +kernel, rfl⟩
set_option maxRecDepth 100000 in
theorem ii_ho_keep_2 : sm_D prog_1_method_19_code 2 3 5 (.invokestatic 81) := ⟨by decide +kernel, rfl⟩
set_option maxRecDepth 100000 in
theorem ii_ho_keep_5 : sm_D prog_1_method_19_code 5 3 8 (.ifCond .ne 5) := ⟨by decide +kernel, rfl⟩
set_option maxRecDepth 100000 in
theorem ii_ho_keep_8 : sm_D prog_1_method_19_code 8 1 9 (.iconst (-1)) := ⟨by decide +kernel, rfl⟩
set_option maxRecDepth 100000 in
theorem ii_ho_keep_9 : sm_D prog_1_method_19_code 9 1 10 (.ireturn) := ⟨by decide +kernel, rfl⟩
set_option maxRecDepth 100000 in
theorem ii_ho_keep_10 : sm_D prog_1_method_19_code 10 1 11 (.aload_n 0) := ⟨by decide +kernel, rfl⟩
set_option maxRecDepth 100000 in
theorem ii_ho_keep_11 : sm_D prog_1_method_19_code 11 3 14 (.getfield 31) := ⟨by decide +kernel, rfl⟩
set_option maxRecDepth 100000 in
theorem ii_ho_keep_14 : sm_D prog_1_method_19_code 14 3 17 (.getfield 115) := ⟨by decide +kernel, rfl⟩
set_option maxRecDepth 100000 in
theorem ii_ho_keep_17 : sm_D prog_1_method_19_code 17 3 20 (.ifCond .ne 6) := ⟨by decide +kernel, rfl⟩
set_option maxRecDepth 100000 in
theorem ii_ho_keep_20 : sm_D prog_1_method_19_code 20 2 22 (.bipush (-4)) := ⟨by decide +kernel, rfl⟩
set_option maxRecDepth 100000 in
theorem ii_ho_keep_22 : sm_D prog_1_method_19_code 22 1 23 (.ireturn) := ⟨by decide +kernel, rfl⟩
set_option maxRecDepth 100000 in
theorem ii_ho_keep_23 : sm_D prog_1_method_19_code 23 1 24 (.aload_n 0) := ⟨by decide +kernel, rfl⟩
set_option maxRecDepth 100000 in
theorem ii_ho_keep_24 : sm_D prog_1_method_19_code 24 3 27 (.getfield 23) := ⟨by decide +kernel, rfl⟩
set_option maxRecDepth 100000 in
theorem ii_ho_keep_27 : sm_D prog_1_method_19_code 27 1 28 (.iload_n 1) := ⟨by decide +kernel, rfl⟩
set_option maxRecDepth 100000 in
theorem ii_ho_keep_28 : sm_D prog_1_method_19_code 28 1 29 (.aaload) := ⟨by decide +kernel, rfl⟩
set_option maxRecDepth 100000 in
theorem ii_ho_keep_29 : sm_D prog_1_method_19_code 29 1 30 (.aload_n 0) := ⟨by decide +kernel, rfl⟩
set_option maxRecDepth 100000 in
theorem ii_ho_keep_30 : sm_D prog_1_method_19_code 30 3 33 (.getfield 31) := ⟨by decide +kernel, rfl⟩
set_option maxRecDepth 100000 in
theorem ii_ho_keep_33 : sm_D prog_1_method_19_code 33 3 36 (.getfield 171) := ⟨by decide +kernel, rfl⟩
set_option maxRecDepth 100000 in
theorem ii_ho_keep_36 : sm_D prog_1_method_19_code 36 3 39 (.invokevirtual 178) := ⟨by decide +kernel, rfl⟩
set_option maxRecDepth 100000 in
theorem ii_ho_keep_39 : sm_D prog_1_method_19_code 39 1 40 (.aload_n 0) := ⟨by decide +kernel, rfl⟩
set_option maxRecDepth 100000 in
theorem ii_ho_keep_40 : sm_D prog_1_method_19_code 40 3 43 (.getfield 23) := ⟨by decide +kernel, rfl⟩
set_option maxRecDepth 100000 in
theorem ii_ho_keep_43 : sm_D prog_1_method_19_code 43 1 44 (.iload_n 1) := ⟨by decide +kernel, rfl⟩
set_option maxRecDepth 100000 in
theorem ii_ho_keep_44 : sm_D prog_1_method_19_code 44 1 45 (.aaload) := ⟨by decide +kernel, rfl⟩
set_option maxRecDepth 100000 in
theorem ii_ho_keep_45 : sm_D prog_1_method_19_code 45 3 48 (.getfield 114) := ⟨by decide +kernel, rfl⟩
set_option maxRecDepth 100000 in
theorem ii_ho_keep_48 : sm_D prog_1_method_19_code 48 1 49 (.ireturn) := ⟨by decide +kernel, rfl⟩
noncomputable def ff_ho_keep  (a1 : Int32) (w : sm_Mem) : sm_R := (sm_cI (ff_ho_isWithin (a1) ((3 : Int32)) w) fun x1 w2 => (if x1 = (0 : Int32) then (some (.int (-1 : Int32), w2)) else (if (w2.1 36 0) = (0 : Int32) then (some (.int (-4 : Int32), w2)) else (Option.bind (sm_rr 23 a1) fun r3 => (sm_cV (sm_rc r3 0 (ff_de_become (r3) (45) w2)) fun w5 => (Option.bind (sm_rr 23 a1) fun r6 => (Option.bind (sm_gI w5 r6 0 3) fun x7 => (some (.int x7, w5)))))))))
set_option maxHeartbeats 4000000 in
set_option maxRecDepth 100000 in
theorem ss_ho_keep_0 {E : Nat × (Nat → Int32)}  (a1 : Int32) (w : sm_Mem) : sm_Sim E (mi_ho_keep) 0 [some (.ref 0), some (.int a1)] [] w (ff_ho_keep  a1 w) := by
  unfold ff_ho_keep
  refine sm_iload_n ii_ho_keep_0 rfl ?_
  refine sm_iconst (3 : Int32) ii_ho_keep_1 (by decide) ?_
  refine sm_csI [.int a1, .int (3 : Int32)] [] rfl ii_ho_keep_2 ml_ho_81 (mf_ho_isWithin) (mv_ho_isWithin) (Nat.le_of_ble_eq_true rfl) rfl rfl rfl (mc_ho_isWithin (a1) ((3 : Int32)) w) (fun x1 w2 => ?_)
  refine sm_if_ne 10 ii_ho_keep_5 (by decide) ?_ ?_
  · refine sm_iconst (-1 : Int32) ii_ho_keep_8 (by decide) ?_
    exact sm_iret ii_ho_keep_9 rfl
  · refine sm_aload_n ii_ho_keep_10 rfl ?_
    refine sm_getR 36 ii_ho_keep_11 fl_ho_31 (k := 0) rfl ?_
    refine sm_getI ii_ho_keep_14 fl_ho_115 (k := 36) rfl ?_
    refine sm_if_ne 23 ii_ho_keep_17 (by decide) ?_ ?_
    · refine sm_bipush (-4 : Int32) ii_ho_keep_20 (by decide) ?_
      exact sm_iret ii_ho_keep_22 rfl
    · refine sm_aload_n ii_ho_keep_23 rfl ?_
      refine sm_getR 23 ii_ho_keep_24 fl_ho_23 (k := 0) rfl ?_
      refine sm_iload_n ii_ho_keep_27 rfl ?_
      refine sm_aald ii_ho_keep_28 (fun r3 => ?_)
      refine sm_aload_n ii_ho_keep_29 rfl ?_
      refine sm_getR 36 ii_ho_keep_30 fl_ho_31 (k := 0) rfl ?_
      refine sm_getR 45 ii_ho_keep_33 fl_ho_171 (k := 36) rfl ?_
      refine sm_dvV [.ref 45] [] rfl ii_ho_keep_36 ml_ho_178 (mf_de_become) (mv_de_become) (Nat.le_of_ble_eq_true rfl) rfl 0 rfl rfl rfl (mc_de_become (r3) (45) w2) (fun w5 => ?_)
      refine sm_aload_n ii_ho_keep_39 rfl ?_
      refine sm_getR 23 ii_ho_keep_40 fl_ho_23 (k := 0) rfl ?_
      refine sm_iload_n ii_ho_keep_43 rfl ?_
      refine sm_aald ii_ho_keep_44 (fun r6 => ?_)
      refine sm_getIs ii_ho_keep_45 fl_ho_114 (fun x7 => ?_)
      exact sm_iret ii_ho_keep_48 rfl
set_option maxHeartbeats 4000000 in
set_option maxRecDepth 100000 in
theorem mc_ho_keep (a1 : Int32) (w : sm_Mem) : sm_MC mi_ho_keep [.ref 0, .int a1] w (ff_ho_keep a1 w) := sm_MC_of (0, fun _ => 0) (by decide +kernel) (by decide) rfl (Nat.le_of_ble_eq_true rfl) (ss_ho_keep_0 a1 w)
abbrev mi_mo_copyHouse : sm_MI := (⟨"HerOrdersModel", "copyHouse", "(II)V"⟩, prog_9_method_54_code, 4, none, 1)
set_option maxRecDepth 100000 in
theorem mf_mo_copyHouse : sm_MF mi_mo_copyHouse 2 := ⟨List.mem_of_getElem? (i := 1235) (by decide +kernel), List.mem_of_getElem? (i := 132) (by decide +kernel), ⟨by decide, by decide⟩, by decide +kernel⟩
set_option maxRecDepth 100000 in
theorem mv_mo_copyHouse : sm_MFV mi_mo_copyHouse := ⟨List.mem_of_getElem? (i := 1234) (by decide +kernel), List.mem_of_getElem? (i := 97) (by decide +kernel)⟩
set_option maxRecDepth 100000 in
theorem ii_mo_copyHouse_0 : sm_D prog_9_method_54_code 0 1 1 (.iconst 0) := ⟨by decide +kernel, rfl⟩
set_option maxRecDepth 100000 in
theorem ii_mo_copyHouse_1 : sm_D prog_9_method_54_code 1 1 2 (.istore_n 3) := ⟨by decide +kernel, rfl⟩
set_option maxRecDepth 100000 in
theorem ii_mo_copyHouse_2 : sm_D prog_9_method_54_code 2 1 3 (.iload_n 3) := ⟨by decide +kernel, rfl⟩
set_option maxRecDepth 100000 in
theorem ii_mo_copyHouse_3 : sm_D prog_9_method_54_code 3 3 6 (.sipush 1272) := ⟨by decide +kernel, rfl⟩
set_option maxRecDepth 100000 in
theorem ii_mo_copyHouse_6 : sm_D prog_9_method_54_code 6 3 9 (.if_icmp .ge 25) := ⟨by decide +kernel, rfl⟩
set_option maxRecDepth 100000 in
theorem ii_mo_copyHouse_9 : sm_D prog_9_method_54_code 9 1 10 (.aload_n 0) := ⟨by decide +kernel, rfl⟩
set_option maxRecDepth 100000 in
theorem ii_mo_copyHouse_10 : sm_D prog_9_method_54_code 10 3 13 (.getfield 7) := ⟨by decide +kernel, rfl⟩
set_option maxRecDepth 100000 in
theorem ii_mo_copyHouse_13 : sm_D prog_9_method_54_code 13 1 14 (.iload_n 2) := ⟨by decide +kernel, rfl⟩
set_option maxRecDepth 100000 in
theorem ii_mo_copyHouse_14 : sm_D prog_9_method_54_code 14 1 15 (.iload_n 3) := ⟨by decide +kernel, rfl⟩
set_option maxRecDepth 100000 in
theorem ii_mo_copyHouse_15 : sm_D prog_9_method_54_code 15 1 16 (.iadd) := ⟨by decide +kernel, rfl⟩
set_option maxRecDepth 100000 in
theorem ii_mo_copyHouse_16 : sm_D prog_9_method_54_code 16 1 17 (.aload_n 0) := ⟨by decide +kernel, rfl⟩
set_option maxRecDepth 100000 in
theorem ii_mo_copyHouse_17 : sm_D prog_9_method_54_code 17 3 20 (.getfield 7) := ⟨by decide +kernel, rfl⟩
set_option maxRecDepth 100000 in
theorem ii_mo_copyHouse_20 : sm_D prog_9_method_54_code 20 1 21 (.iload_n 1) := ⟨by decide +kernel, rfl⟩
set_option maxRecDepth 100000 in
theorem ii_mo_copyHouse_21 : sm_D prog_9_method_54_code 21 1 22 (.iload_n 3) := ⟨by decide +kernel, rfl⟩
set_option maxRecDepth 100000 in
theorem ii_mo_copyHouse_22 : sm_D prog_9_method_54_code 22 1 23 (.iadd) := ⟨by decide +kernel, rfl⟩
set_option maxRecDepth 100000 in
theorem ii_mo_copyHouse_23 : sm_D prog_9_method_54_code 23 1 24 (.iaload) := ⟨by decide +kernel, rfl⟩
set_option maxRecDepth 100000 in
theorem ii_mo_copyHouse_24 : sm_D prog_9_method_54_code 24 1 25 (.iastore) := ⟨by decide +kernel, rfl⟩
set_option maxRecDepth 100000 in
theorem ii_mo_copyHouse_25 : sm_D prog_9_method_54_code 25 3 28 (.iinc 3 1) := ⟨by decide +kernel, rfl⟩
set_option maxRecDepth 100000 in
theorem ii_mo_copyHouse_28 : sm_D prog_9_method_54_code 28 3 31 (.goto (-26)) := ⟨by decide +kernel, rfl⟩
set_option maxRecDepth 100000 in
theorem ii_mo_copyHouse_31 : sm_D prog_9_method_54_code 31 1 32 (.return_) := ⟨by decide +kernel, rfl⟩
noncomputable def ff_mo_copyHouse_2_b  (self2 : Int32 → Int32 → Int32 → sm_Mem → sm_R) (a1 : Int32) (a2 : Int32) (a3 : Int32) (w : sm_Mem) : sm_R := (if (1272 : Int32) ≤ a3 then (some (.null, w)) else (Option.bind (sm_rd w 63 5184 (a1 + a3)) fun x1 => (Option.bind (sm_wr w 63 5184 (a2 + a3) x1) fun w2 => self2 (a1) (a2) ((a3 + (1 : Int32))) w2)))
noncomputable def ff_mo_copyHouse_2_f  : Nat → Int32 → Int32 → Int32 → sm_Mem → sm_R
  | 0, _, _, _, _ => none
  | n + 1, a1, a2, a3, w => ff_mo_copyHouse_2_b  (ff_mo_copyHouse_2_f  n) a1 a2 a3 w
noncomputable def ff_mo_copyHouse_2  (a1 : Int32) (a2 : Int32) (a3 : Int32) (w : sm_Mem) : sm_R := ff_mo_copyHouse_2_f  sm_N a1 a2 a3 w
set_option maxHeartbeats 4000000 in
set_option maxRecDepth 100000 in
theorem ss_mo_copyHouse_2_b {E : Nat × (Nat → Int32)}  (self2 : Int32 → Int32 → Int32 → sm_Mem → sm_R) (hself2 : ∀ (a1 : Int32) (a2 : Int32) (a3 : Int32) (w : sm_Mem), sm_Sim E (mi_mo_copyHouse) 2 [some (.ref 62), some (.int a1), some (.int a2), some (.int a3)] [] w (self2 a1 a2 a3 w)) (a1 : Int32) (a2 : Int32) (a3 : Int32) (w : sm_Mem) : sm_Sim E (mi_mo_copyHouse) 2 [some (.ref 62), some (.int a1), some (.int a2), some (.int a3)] [] w (ff_mo_copyHouse_2_b  self2 a1 a2 a3 w) := by
  unfold ff_mo_copyHouse_2_b
  refine sm_iload_n ii_mo_copyHouse_2 rfl ?_
  refine sm_sipush (1272 : Int32) ii_mo_copyHouse_3 (by decide) ?_
  refine sm_icmp_ge 31 ii_mo_copyHouse_6 (by decide) ?_ ?_
  · exact sm_vret ii_mo_copyHouse_31 rfl
  · refine sm_aload_n ii_mo_copyHouse_9 rfl ?_
    refine sm_getR 63 ii_mo_copyHouse_10 fl_mo_7 (k := 62) rfl ?_
    refine sm_iload_n ii_mo_copyHouse_13 rfl ?_
    refine sm_iload_n ii_mo_copyHouse_14 rfl ?_
    refine sm_iadd ii_mo_copyHouse_15 ?_
    refine sm_aload_n ii_mo_copyHouse_16 rfl ?_
    refine sm_getR 63 ii_mo_copyHouse_17 fl_mo_7 (k := 62) rfl ?_
    refine sm_iload_n ii_mo_copyHouse_20 rfl ?_
    refine sm_iload_n ii_mo_copyHouse_21 rfl ?_
    refine sm_iadd ii_mo_copyHouse_22 ?_
    refine sm_iald ii_mo_copyHouse_23 (k := 63) rfl (fun x1 => ?_)
    refine sm_iast ii_mo_copyHouse_24 (k := 63) rfl (fun w2 => ?_)
    refine sm_iinc (a3 + (1 : Int32)) [some (.ref 62), some (.int a1), some (.int a2), some (.int (a3 + (1 : Int32)))] ii_mo_copyHouse_25 rfl rfl rfl rfl ?_
    refine sm_goto 2 ii_mo_copyHouse_28 (by decide) ?_
    exact hself2 (a1) (a2) ((a3 + (1 : Int32))) w2
set_option maxHeartbeats 4000000 in
set_option maxRecDepth 100000 in
theorem ss_mo_copyHouse_2_f {E : Nat × (Nat → Int32)}  : ∀ (n : Nat) (a1 : Int32) (a2 : Int32) (a3 : Int32) (w : sm_Mem), sm_Sim E (mi_mo_copyHouse) 2 [some (.ref 62), some (.int a1), some (.int a2), some (.int a3)] [] w (ff_mo_copyHouse_2_f  n a1 a2 a3 w)
  | 0, _, _, _, _ => fun _ _ h => by cases h
  | n + 1, a1, a2, a3, w => ss_mo_copyHouse_2_b  _ (ss_mo_copyHouse_2_f  n) a1 a2 a3 w
set_option maxHeartbeats 4000000 in
set_option maxRecDepth 100000 in
theorem ss_mo_copyHouse_2 {E : Nat × (Nat → Int32)}  (a1 : Int32) (a2 : Int32) (a3 : Int32) (w : sm_Mem) : sm_Sim E (mi_mo_copyHouse) 2 [some (.ref 62), some (.int a1), some (.int a2), some (.int a3)] [] w (ff_mo_copyHouse_2  a1 a2 a3 w) := ss_mo_copyHouse_2_f  sm_N a1 a2 a3 w
noncomputable def ff_mo_copyHouse  (a1 : Int32) (a2 : Int32) (w : sm_Mem) : sm_R := ff_mo_copyHouse_2 (a1) (a2) ((0 : Int32)) w
set_option maxHeartbeats 4000000 in
set_option maxRecDepth 100000 in
theorem ss_mo_copyHouse_0 {E : Nat × (Nat → Int32)}  (a1 : Int32) (a2 : Int32) (w : sm_Mem) : sm_Sim E (mi_mo_copyHouse) 0 [some (.ref 62), some (.int a1), some (.int a2), none] [] w (ff_mo_copyHouse  a1 a2 w) := by
  unfold ff_mo_copyHouse
  refine sm_iconst (0 : Int32) ii_mo_copyHouse_0 (by decide) ?_
  refine sm_istore_n [some (.ref 62), some (.int a1), some (.int a2), some (.int (0 : Int32))] ii_mo_copyHouse_1 rfl rfl ?_
  exact ss_mo_copyHouse_2 (a1) (a2) ((0 : Int32)) w
set_option maxHeartbeats 4000000 in
set_option maxRecDepth 100000 in
theorem mc_mo_copyHouse (a1 : Int32) (a2 : Int32) (w : sm_Mem) : sm_MC mi_mo_copyHouse [.ref 62, .int a1, .int a2] w (ff_mo_copyHouse a1 a2 w) := sm_MC_of (0, fun _ => 0) (by decide +kernel) (by decide) rfl (Nat.le_of_ble_eq_true rfl) (ss_mo_copyHouse_0 a1 a2 w)
abbrev mi_mo_keep : sm_MI := (⟨"HerOrdersModel", "keep", "(I)I"⟩, prog_9_method_55_code, 2, (some .int), 2)
set_option maxRecDepth 100000 in
theorem mf_mo_keep : sm_MF mi_mo_keep 1 := ⟨List.mem_of_getElem? (i := 1230) (by decide +kernel), List.mem_of_getElem? (i := 132) (by decide +kernel), ⟨by decide, by decide⟩, by decide +kernel⟩
set_option maxRecDepth 100000 in
theorem mv_mo_keep : sm_MFV mi_mo_keep := ⟨List.mem_of_getElem? (i := 1228) (by decide +kernel), List.mem_of_getElem? (i := 1229) (by decide +kernel)⟩
set_option maxRecDepth 100000 in
theorem ii_mo_keep_0 : sm_D prog_9_method_55_code 0 1 1 (.iload_n 1) := ⟨by decide +kernel, rfl⟩
set_option maxRecDepth 100000 in
theorem ii_mo_keep_1 : sm_D prog_9_method_55_code 1 1 2 (.i2l) := ⟨by decide +kernel, rfl⟩
set_option maxRecDepth 100000 in
theorem ii_mo_keep_2 : sm_D prog_9_method_55_code 2 1 3 (.lconst 0) := ⟨by decide +kernel, rfl⟩
set_option maxRecDepth 100000 in
theorem ii_mo_keep_3 : sm_D prog_9_method_55_code 3 3 6 (.ldc2_w 200) := ⟨by decide +kernel, rfl⟩
set_option maxRecDepth 100000 in
theorem ii_mo_keep_6 : sm_D prog_9_method_55_code 6 3 9 (.invokestatic 71) := ⟨by decide +kernel, rfl⟩
set_option maxRecDepth 100000 in
theorem ii_mo_keep_9 : sm_D prog_9_method_55_code 9 3 12 (.ifCond .ne 5) := ⟨by decide +kernel, rfl⟩
set_option maxRecDepth 100000 in
theorem ii_mo_keep_12 : sm_D prog_9_method_55_code 12 1 13 (.iconst (-1)) := ⟨by decide +kernel, rfl⟩
set_option maxRecDepth 100000 in
theorem ii_mo_keep_13 : sm_D prog_9_method_55_code 13 1 14 (.ireturn) := ⟨by decide +kernel, rfl⟩
set_option maxRecDepth 100000 in
theorem ii_mo_keep_14 : sm_D prog_9_method_55_code 14 1 15 (.aload_n 0) := ⟨by decide +kernel, rfl⟩
set_option maxRecDepth 100000 in
theorem ii_mo_keep_15 : sm_D prog_9_method_55_code 15 3 18 (.getfield 135) := ⟨by decide +kernel, rfl⟩
set_option maxRecDepth 100000 in
theorem ii_mo_keep_18 : sm_D prog_9_method_55_code 18 3 21 (.ifCond .ne 6) := ⟨by decide +kernel, rfl⟩
set_option maxRecDepth 100000 in
theorem ii_mo_keep_21 : sm_D prog_9_method_55_code 21 2 23 (.bipush (-4)) := ⟨by decide +kernel, rfl⟩
set_option maxRecDepth 100000 in
theorem ii_mo_keep_23 : sm_D prog_9_method_55_code 23 1 24 (.ireturn) := ⟨by decide +kernel, rfl⟩
set_option maxRecDepth 100000 in
theorem ii_mo_keep_24 : sm_D prog_9_method_55_code 24 1 25 (.aload_n 0) := ⟨by decide +kernel, rfl⟩
set_option maxRecDepth 100000 in
theorem ii_mo_keep_25 : sm_D prog_9_method_55_code 25 1 26 (.iconst 0) := ⟨by decide +kernel, rfl⟩
set_option maxRecDepth 100000 in
theorem ii_mo_keep_26 : sm_D prog_9_method_55_code 26 3 29 (.sipush 1272) := ⟨by decide +kernel, rfl⟩
set_option maxRecDepth 100000 in
theorem ii_mo_keep_29 : sm_D prog_9_method_55_code 29 1 30 (.iconst 1) := ⟨by decide +kernel, rfl⟩
set_option maxRecDepth 100000 in
theorem ii_mo_keep_30 : sm_D prog_9_method_55_code 30 1 31 (.iload_n 1) := ⟨by decide +kernel, rfl⟩
set_option maxRecDepth 100000 in
theorem ii_mo_keep_31 : sm_D prog_9_method_55_code 31 1 32 (.iadd) := ⟨by decide +kernel, rfl⟩
set_option maxRecDepth 100000 in
theorem ii_mo_keep_32 : sm_D prog_9_method_55_code 32 1 33 (.imul) := ⟨by decide +kernel, rfl⟩
set_option maxRecDepth 100000 in
theorem ii_mo_keep_33 : sm_D prog_9_method_55_code 33 3 36 (.invokevirtual 202) := ⟨by decide +kernel, rfl⟩
set_option maxRecDepth 100000 in
theorem ii_mo_keep_36 : sm_D prog_9_method_55_code 36 1 37 (.aload_n 0) := ⟨by decide +kernel, rfl⟩
set_option maxRecDepth 100000 in
theorem ii_mo_keep_37 : sm_D prog_9_method_55_code 37 3 40 (.getfield 7) := ⟨by decide +kernel, rfl⟩
set_option maxRecDepth 100000 in
theorem ii_mo_keep_40 : sm_D prog_9_method_55_code 40 1 41 (.iconst 0) := ⟨by decide +kernel, rfl⟩
set_option maxRecDepth 100000 in
theorem ii_mo_keep_41 : sm_D prog_9_method_55_code 41 1 42 (.iaload) := ⟨by decide +kernel, rfl⟩
set_option maxRecDepth 100000 in
theorem ii_mo_keep_42 : sm_D prog_9_method_55_code 42 1 43 (.ireturn) := ⟨by decide +kernel, rfl⟩
noncomputable def ff_mo_keep  (a1 : Int32) (w : sm_Mem) : sm_R := (sm_cI (ff_mo_in ((Int32.toInt64 a1)) ((0 : Int64)) ((2 : Int64)) w) fun x1 w2 => (if x1 = (0 : Int32) then (some (.int (-1 : Int32), w2)) else (if (w2.1 62 1) = (0 : Int32) then (some (.int (-4 : Int32), w2)) else (sm_cV (ff_mo_copyHouse ((0 : Int32)) (((1272 : Int32) * ((1 : Int32) + a1))) w2) fun w4 => (Option.bind (sm_rd w4 63 5184 (0 : Int32)) fun x5 => (some (.int x5, w4)))))))
set_option maxHeartbeats 4000000 in
set_option maxRecDepth 100000 in
theorem ss_mo_keep_0 {E : Nat × (Nat → Int32)}  (a1 : Int32) (w : sm_Mem) : sm_Sim E (mi_mo_keep) 0 [some (.ref 62), some (.int a1)] [] w (ff_mo_keep  a1 w) := by
  unfold ff_mo_keep
  refine sm_iload_n ii_mo_keep_0 rfl ?_
  refine sm_i2l ii_mo_keep_1 ?_
  refine sm_lconst (0 : Int64) ii_mo_keep_2 (by decide) ?_
  refine sm_ldc2 (2 : Int64) ii_mo_keep_3 (List.mem_of_getElem? (i := 1231) (by decide +kernel)) ?_
  refine sm_csI [.long (Int32.toInt64 a1), .long (0 : Int64), .long (2 : Int64)] [] rfl ii_mo_keep_6 ml_mo_71 (mf_mo_in) (mv_mo_in) (Nat.le_of_ble_eq_true rfl) rfl rfl rfl (mc_mo_in ((Int32.toInt64 a1)) ((0 : Int64)) ((2 : Int64)) w) (fun x1 w2 => ?_)
  refine sm_if_ne 14 ii_mo_keep_9 (by decide) ?_ ?_
  · refine sm_iconst (-1 : Int32) ii_mo_keep_12 (by decide) ?_
    exact sm_iret ii_mo_keep_13 rfl
  · refine sm_aload_n ii_mo_keep_14 rfl ?_
    refine sm_getI ii_mo_keep_15 fl_mo_135 (k := 62) rfl ?_
    refine sm_if_ne 24 ii_mo_keep_18 (by decide) ?_ ?_
    · refine sm_bipush (-4 : Int32) ii_mo_keep_21 (by decide) ?_
      exact sm_iret ii_mo_keep_23 rfl
    · refine sm_aload_n ii_mo_keep_24 rfl ?_
      refine sm_iconst (0 : Int32) ii_mo_keep_25 (by decide) ?_
      refine sm_sipush (1272 : Int32) ii_mo_keep_26 (by decide) ?_
      refine sm_iconst (1 : Int32) ii_mo_keep_29 (by decide) ?_
      refine sm_iload_n ii_mo_keep_30 rfl ?_
      refine sm_iadd ii_mo_keep_31 ?_
      refine sm_imul ii_mo_keep_32 ?_
      refine sm_cvV [.int (0 : Int32), .int ((1272 : Int32) * ((1 : Int32) + a1))] [] rfl ii_mo_keep_33 ml_mo_202 (mf_mo_copyHouse) (mv_mo_copyHouse) (Nat.le_of_ble_eq_true rfl) rfl 7 rfl rfl rfl rfl (mc_mo_copyHouse ((0 : Int32)) (((1272 : Int32) * ((1 : Int32) + a1))) w2) (fun w4 => ?_)
      refine sm_aload_n ii_mo_keep_36 rfl ?_
      refine sm_getR 63 ii_mo_keep_37 fl_mo_7 (k := 62) rfl ?_
      refine sm_iconst (0 : Int32) ii_mo_keep_40 (by decide) ?_
      refine sm_iald ii_mo_keep_41 (k := 63) rfl (fun x5 => ?_)
      exact sm_iret ii_mo_keep_42 rfl
set_option maxHeartbeats 4000000 in
set_option maxRecDepth 100000 in
theorem mc_mo_keep (a1 : Int32) (w : sm_Mem) : sm_MC mi_mo_keep [.ref 62, .int a1] w (ff_mo_keep a1 w) := sm_MC_of (0, fun _ => 0) (by decide +kernel) (by decide) rfl (Nat.le_of_ble_eq_true rfl) (ss_mo_keep_0 a1 w)
abbrev mi_de_isMissing : sm_MI := (⟨"HerOrders$Deeds", "isMissing", "()Z"⟩, prog_2_method_2_code, 1, (some .boolean), 1)
set_option maxRecDepth 100000 in
theorem mf_de_isMissing : sm_MF mi_de_isMissing 0 := ⟨List.mem_of_getElem? (i := 612) (by decide +kernel), List.mem_of_getElem? (i := 127) (by decide +kernel), ⟨by decide, by decide⟩, by decide +kernel⟩
set_option maxRecDepth 100000 in
theorem mv_de_isMissing : sm_MFV mi_de_isMissing := ⟨List.mem_of_getElem? (i := 611) (by decide +kernel), List.mem_of_getElem? (i := 27) (by decide +kernel)⟩
set_option maxRecDepth 100000 in
theorem ii_de_isMissing_0 : sm_D prog_2_method_2_code 0 1 1 (.aload_n 0) := ⟨by decide +kernel, rfl⟩
set_option maxRecDepth 100000 in
theorem ii_de_isMissing_1 : sm_D prog_2_method_2_code 1 3 4 (.getfield 21) := ⟨by decide +kernel, rfl⟩
set_option maxRecDepth 100000 in
theorem ii_de_isMissing_4 : sm_D prog_2_method_2_code 4 3 7 (.ifCond .ge 7) := ⟨by decide +kernel, rfl⟩
set_option maxRecDepth 100000 in
theorem ii_de_isMissing_7 : sm_D prog_2_method_2_code 7 1 8 (.iconst 1) := ⟨by decide +kernel, rfl⟩
set_option maxRecDepth 100000 in
theorem ii_de_isMissing_8 : sm_D prog_2_method_2_code 8 3 11 (.goto 4) := ⟨by decide +kernel, rfl⟩
set_option maxRecDepth 100000 in
theorem ii_de_isMissing_11 : sm_D prog_2_method_2_code 11 1 12 (.iconst 0) := ⟨by decide +kernel, rfl⟩
set_option maxRecDepth 100000 in
theorem ii_de_isMissing_12 : sm_D prog_2_method_2_code 12 1 13 (.ireturn) := ⟨by decide +kernel, rfl⟩
noncomputable def ff_de_isMissing  (a0 : Nat) (w : sm_Mem) : sm_R := (Option.bind (sm_gI w a0 0 3) fun x1 => (if (0 : Int32) ≤ x1 then (some (.int (0 : Int32), w)) else (some (.int (1 : Int32), w))))
set_option maxHeartbeats 4000000 in
set_option maxRecDepth 100000 in
theorem ss_de_isMissing_0 {E : Nat × (Nat → Int32)}  (a0 : Nat) (w : sm_Mem) : sm_Sim E (mi_de_isMissing) 0 [some (.ref a0)] [] w (ff_de_isMissing  a0 w) := by
  unfold ff_de_isMissing
  refine sm_aload_n ii_de_isMissing_0 rfl ?_
  refine sm_getIs ii_de_isMissing_1 fl_de_21 (fun x1 => ?_)
  refine sm_if_ge 11 ii_de_isMissing_4 (by decide) ?_ ?_
  · refine sm_iconst (0 : Int32) ii_de_isMissing_11 (by decide) ?_
    exact sm_zret1 ii_de_isMissing_12 rfl (by decide)
  · refine sm_iconst (1 : Int32) ii_de_isMissing_7 (by decide) ?_
    refine sm_goto 12 ii_de_isMissing_8 (by decide) ?_
    exact sm_zret1 ii_de_isMissing_12 rfl (by decide)
set_option maxHeartbeats 4000000 in
set_option maxRecDepth 100000 in
theorem mc_de_isMissing (a0 : Nat) (w : sm_Mem) : sm_MC mi_de_isMissing [.ref a0] w (ff_de_isMissing a0 w) := sm_MC_of (0, fun _ => 0) (by decide +kernel) (by decide) rfl (Nat.le_of_ble_eq_true rfl) (ss_de_isMissing_0 a0 w)
abbrev mi_ho_on : sm_MI := (⟨"HerOrders", "on", "(I)I"⟩, prog_1_method_20_code, 2, (some .int), 4)
set_option maxRecDepth 100000 in
theorem mf_ho_on : sm_MF mi_ho_on 1 := ⟨List.mem_of_getElem? (i := 608) (by decide +kernel), List.mem_of_getElem? (i := 124) (by decide +kernel), ⟨by decide, by decide⟩, by decide +kernel⟩
set_option maxRecDepth 100000 in
theorem mv_ho_on : sm_MFV mi_ho_on := ⟨List.mem_of_getElem? (i := 606) (by decide +kernel), List.mem_of_getElem? (i := 607) (by decide +kernel)⟩
set_option maxRecDepth 100000 in
theorem ii_ho_on_0 : sm_D prog_1_method_20_code 0 1 1 (.iload_n 1) := ⟨by decide +kernel, rfl⟩
set_option maxRecDepth 100000 in
theorem ii_ho_on_1 : sm_D prog_1_method_20_code 1 1 2 (.iconst 3) := ⟨by decide +kernel, rfl⟩
set_option maxRecDepth 100000 in
theorem ii_ho_on_2 : sm_D prog_1_method_20_code 2 3 5 (.invokestatic 81) := ⟨by decide +kernel, rfl⟩
set_option maxRecDepth 100000 in
theorem ii_ho_on_5 : sm_D prog_1_method_20_code 5 3 8 (.ifCond .ne 5) := ⟨by decide +kernel, rfl⟩
set_option maxRecDepth 100000 in
theorem ii_ho_on_8 : sm_D prog_1_method_20_code 8 1 9 (.iconst (-1)) := ⟨by decide +kernel, rfl⟩
set_option maxRecDepth 100000 in
theorem ii_ho_on_9 : sm_D prog_1_method_20_code 9 1 10 (.ireturn) := ⟨by decide +kernel, rfl⟩
set_option maxRecDepth 100000 in
theorem ii_ho_on_10 : sm_D prog_1_method_20_code 10 1 11 (.aload_n 0) := ⟨by decide +kernel, rfl⟩
set_option maxRecDepth 100000 in
theorem ii_ho_on_11 : sm_D prog_1_method_20_code 11 3 14 (.getfield 23) := ⟨by decide +kernel, rfl⟩
set_option maxRecDepth 100000 in
theorem ii_ho_on_14 : sm_D prog_1_method_20_code 14 1 15 (.iload_n 1) := ⟨by decide +kernel, rfl⟩
set_option maxRecDepth 100000 in
theorem ii_ho_on_15 : sm_D prog_1_method_20_code 15 1 16 (.aaload) := ⟨by decide +kernel, rfl⟩
set_option maxRecDepth 100000 in
theorem ii_ho_on_16 : sm_D prog_1_method_20_code 16 3 19 (.invokevirtual 182) := ⟨by decide +kernel, rfl⟩
set_option maxRecDepth 100000 in
theorem ii_ho_on_19 : sm_D prog_1_method_20_code 19 3 22 (.ifCond .eq 12) := ⟨by decide +kernel, rfl⟩
set_option maxRecDepth 100000 in
theorem ii_ho_on_22 : sm_D prog_1_method_20_code 22 1 23 (.aload_n 0) := ⟨by decide +kernel, rfl⟩
set_option maxRecDepth 100000 in
theorem ii_ho_on_23 : sm_D prog_1_method_20_code 23 3 26 (.getfield 54) := ⟨by decide +kernel, rfl⟩
set_option maxRecDepth 100000 in
theorem ii_ho_on_26 : sm_D prog_1_method_20_code 26 1 27 (.iconst 1) := ⟨by decide +kernel, rfl⟩
set_option maxRecDepth 100000 in
theorem ii_ho_on_27 : sm_D prog_1_method_20_code 27 3 30 (.invokevirtual 85) := ⟨by decide +kernel, rfl⟩
set_option maxRecDepth 100000 in
theorem ii_ho_on_30 : sm_D prog_1_method_20_code 30 1 31 (.ireturn) := ⟨by decide +kernel, rfl⟩
set_option maxRecDepth 100000 in
theorem ii_ho_on_31 : sm_D prog_1_method_20_code 31 1 32 (.aload_n 0) := ⟨by decide +kernel, rfl⟩
set_option maxRecDepth 100000 in
theorem ii_ho_on_32 : sm_D prog_1_method_20_code 32 3 35 (.getfield 31) := ⟨by decide +kernel, rfl⟩
set_option maxRecDepth 100000 in
theorem ii_ho_on_35 : sm_D prog_1_method_20_code 35 3 38 (.getfield 171) := ⟨by decide +kernel, rfl⟩
set_option maxRecDepth 100000 in
theorem ii_ho_on_38 : sm_D prog_1_method_20_code 38 1 39 (.aload_n 0) := ⟨by decide +kernel, rfl⟩
set_option maxRecDepth 100000 in
theorem ii_ho_on_39 : sm_D prog_1_method_20_code 39 3 42 (.getfield 23) := ⟨by decide +kernel, rfl⟩
set_option maxRecDepth 100000 in
theorem ii_ho_on_42 : sm_D prog_1_method_20_code 42 1 43 (.iload_n 1) := ⟨by decide +kernel, rfl⟩
set_option maxRecDepth 100000 in
theorem ii_ho_on_43 : sm_D prog_1_method_20_code 43 1 44 (.aaload) := ⟨by decide +kernel, rfl⟩
set_option maxRecDepth 100000 in
theorem ii_ho_on_44 : sm_D prog_1_method_20_code 44 3 47 (.invokevirtual 178) := ⟨by decide +kernel, rfl⟩
set_option maxRecDepth 100000 in
theorem ii_ho_on_47 : sm_D prog_1_method_20_code 47 1 48 (.aload_n 0) := ⟨by decide +kernel, rfl⟩
set_option maxRecDepth 100000 in
theorem ii_ho_on_48 : sm_D prog_1_method_20_code 48 3 51 (.getfield 31) := ⟨by decide +kernel, rfl⟩
set_option maxRecDepth 100000 in
theorem ii_ho_on_51 : sm_D prog_1_method_20_code 51 1 52 (.aload_n 0) := ⟨by decide +kernel, rfl⟩
set_option maxRecDepth 100000 in
theorem ii_ho_on_52 : sm_D prog_1_method_20_code 52 3 55 (.getfield 31) := ⟨by decide +kernel, rfl⟩
set_option maxRecDepth 100000 in
theorem ii_ho_on_55 : sm_D prog_1_method_20_code 55 3 58 (.getfield 171) := ⟨by decide +kernel, rfl⟩
set_option maxRecDepth 100000 in
theorem ii_ho_on_58 : sm_D prog_1_method_20_code 58 3 61 (.getfield 114) := ⟨by decide +kernel, rfl⟩
set_option maxRecDepth 100000 in
theorem ii_ho_on_61 : sm_D prog_1_method_20_code 61 3 64 (.invokevirtual 175) := ⟨by decide +kernel, rfl⟩
set_option maxRecDepth 100000 in
theorem ii_ho_on_64 : sm_D prog_1_method_20_code 64 1 65 (.aload_n 0) := ⟨by decide +kernel, rfl⟩
set_option maxRecDepth 100000 in
theorem ii_ho_on_65 : sm_D prog_1_method_20_code 65 3 68 (.getfield 31) := ⟨by decide +kernel, rfl⟩
set_option maxRecDepth 100000 in
theorem ii_ho_on_68 : sm_D prog_1_method_20_code 68 3 71 (.getfield 171) := ⟨by decide +kernel, rfl⟩
set_option maxRecDepth 100000 in
theorem ii_ho_on_71 : sm_D prog_1_method_20_code 71 3 74 (.getfield 114) := ⟨by decide +kernel, rfl⟩
set_option maxRecDepth 100000 in
theorem ii_ho_on_74 : sm_D prog_1_method_20_code 74 1 75 (.ireturn) := ⟨by decide +kernel, rfl⟩
noncomputable def ff_ho_on  (a1 : Int32) (w : sm_Mem) : sm_R := (sm_cI (ff_ho_isWithin (a1) ((3 : Int32)) w) fun x1 w2 => (if x1 = (0 : Int32) then (some (.int (-1 : Int32), w2)) else (Option.bind (sm_rr 23 a1) fun r3 => (sm_cI (sm_rc r3 0 (ff_de_isMissing (r3) w2)) fun x4 w5 => (if x4 = (0 : Int32) then (Option.bind (sm_rr 23 a1) fun r6 => (sm_cV (ff_de_become (45) (r6) w5) fun w8 => (sm_cV (ff_hs_goBackTo ((w8.1 45 3)) w8) fun w10 => (some (.int (w10.1 45 3), w10))))) else (sm_cI (ff_td_refuse ((1 : Int32)) w5) fun x11 w12 => (some (.int x11, w12))))))))
set_option maxHeartbeats 4000000 in
set_option maxRecDepth 100000 in
theorem ss_ho_on_0 {E : Nat × (Nat → Int32)}  (a1 : Int32) (w : sm_Mem) : sm_Sim E (mi_ho_on) 0 [some (.ref 0), some (.int a1)] [] w (ff_ho_on  a1 w) := by
  unfold ff_ho_on
  refine sm_iload_n ii_ho_on_0 rfl ?_
  refine sm_iconst (3 : Int32) ii_ho_on_1 (by decide) ?_
  refine sm_csI [.int a1, .int (3 : Int32)] [] rfl ii_ho_on_2 ml_ho_81 (mf_ho_isWithin) (mv_ho_isWithin) (Nat.le_of_ble_eq_true rfl) rfl rfl rfl (mc_ho_isWithin (a1) ((3 : Int32)) w) (fun x1 w2 => ?_)
  refine sm_if_ne 10 ii_ho_on_5 (by decide) ?_ ?_
  · refine sm_iconst (-1 : Int32) ii_ho_on_8 (by decide) ?_
    exact sm_iret ii_ho_on_9 rfl
  · refine sm_aload_n ii_ho_on_10 rfl ?_
    refine sm_getR 23 ii_ho_on_11 fl_ho_23 (k := 0) rfl ?_
    refine sm_iload_n ii_ho_on_14 rfl ?_
    refine sm_aald ii_ho_on_15 (fun r3 => ?_)
    refine sm_dvI [] [] rfl ii_ho_on_16 ml_ho_182 (mf_de_isMissing) (mv_de_isMissing) (Nat.le_of_ble_eq_true rfl) rfl 0 rfl rfl rfl (mc_de_isMissing (r3) w2) (fun x4 w5 => ?_)
    refine sm_if_eq 31 ii_ho_on_19 (by decide) ?_ ?_
    · refine sm_aload_n ii_ho_on_31 rfl ?_
      refine sm_getR 36 ii_ho_on_32 fl_ho_31 (k := 0) rfl ?_
      refine sm_getR 45 ii_ho_on_35 fl_ho_171 (k := 36) rfl ?_
      refine sm_aload_n ii_ho_on_38 rfl ?_
      refine sm_getR 23 ii_ho_on_39 fl_ho_23 (k := 0) rfl ?_
      refine sm_iload_n ii_ho_on_42 rfl ?_
      refine sm_aald ii_ho_on_43 (fun r6 => ?_)
      refine sm_cvV [.ref r6] [] rfl ii_ho_on_44 ml_ho_178 (mf_de_become) (mv_de_become) (Nat.le_of_ble_eq_true rfl) rfl 0 rfl rfl rfl rfl (mc_de_become (45) (r6) w5) (fun w8 => ?_)
      refine sm_aload_n ii_ho_on_47 rfl ?_
      refine sm_getR 36 ii_ho_on_48 fl_ho_31 (k := 0) rfl ?_
      refine sm_aload_n ii_ho_on_51 rfl ?_
      refine sm_getR 36 ii_ho_on_52 fl_ho_31 (k := 0) rfl ?_
      refine sm_getR 45 ii_ho_on_55 fl_ho_171 (k := 36) rfl ?_
      refine sm_getI ii_ho_on_58 fl_ho_114 (k := 45) rfl ?_
      refine sm_cvV [.int (w8.1 45 3)] [] rfl ii_ho_on_61 ml_ho_175 (mf_hs_goBackTo) (mv_hs_goBackTo) (Nat.le_of_ble_eq_true rfl) rfl 1 rfl rfl rfl rfl (mc_hs_goBackTo ((w8.1 45 3)) w8) (fun w10 => ?_)
      refine sm_aload_n ii_ho_on_64 rfl ?_
      refine sm_getR 36 ii_ho_on_65 fl_ho_31 (k := 0) rfl ?_
      refine sm_getR 45 ii_ho_on_68 fl_ho_171 (k := 36) rfl ?_
      refine sm_getI ii_ho_on_71 fl_ho_114 (k := 45) rfl ?_
      exact sm_iret ii_ho_on_74 rfl
    · refine sm_aload_n ii_ho_on_22 rfl ?_
      refine sm_getR 60 ii_ho_on_23 fl_ho_54 (k := 0) rfl ?_
      refine sm_iconst (1 : Int32) ii_ho_on_26 (by decide) ?_
      refine sm_cvI [.int (1 : Int32)] [] rfl ii_ho_on_27 ml_ho_85 (mf_td_refuse) (mv_td_refuse) (Nat.le_of_ble_eq_true rfl) rfl 3 rfl rfl rfl rfl (mc_td_refuse ((1 : Int32)) w5) (fun x11 w12 => ?_)
      exact sm_iret ii_ho_on_30 rfl
set_option maxHeartbeats 4000000 in
set_option maxRecDepth 100000 in
theorem mc_ho_on (a1 : Int32) (w : sm_Mem) : sm_MC mi_ho_on [.ref 0, .int a1] w (ff_ho_on a1 w) := sm_MC_of (0, fun _ => 0) (by decide +kernel) (by decide) rfl (Nat.le_of_ble_eq_true rfl) (ss_ho_on_0 a1 w)
abbrev mi_mo_on : sm_MI := (⟨"HerOrdersModel", "on", "(I)I"⟩, prog_9_method_56_code, 2, (some .int), 2)
set_option maxRecDepth 100000 in
theorem mf_mo_on : sm_MF mi_mo_on 1 := ⟨List.mem_of_getElem? (i := 1239) (by decide +kernel), List.mem_of_getElem? (i := 132) (by decide +kernel), ⟨by decide, by decide⟩, by decide +kernel⟩
set_option maxRecDepth 100000 in
theorem mv_mo_on : sm_MFV mi_mo_on := ⟨List.mem_of_getElem? (i := 1237) (by decide +kernel), List.mem_of_getElem? (i := 1238) (by decide +kernel)⟩
set_option maxRecDepth 100000 in
theorem ii_mo_on_0 : sm_D prog_9_method_56_code 0 1 1 (.iload_n 1) := ⟨by decide +kernel, rfl⟩
set_option maxRecDepth 100000 in
theorem ii_mo_on_1 : sm_D prog_9_method_56_code 1 1 2 (.i2l) := ⟨by decide +kernel, rfl⟩
set_option maxRecDepth 100000 in
theorem ii_mo_on_2 : sm_D prog_9_method_56_code 2 1 3 (.lconst 0) := ⟨by decide +kernel, rfl⟩
set_option maxRecDepth 100000 in
theorem ii_mo_on_3 : sm_D prog_9_method_56_code 3 3 6 (.ldc2_w 200) := ⟨by decide +kernel, rfl⟩
set_option maxRecDepth 100000 in
theorem ii_mo_on_6 : sm_D prog_9_method_56_code 6 3 9 (.invokestatic 71) := ⟨by decide +kernel, rfl⟩
set_option maxRecDepth 100000 in
theorem ii_mo_on_9 : sm_D prog_9_method_56_code 9 3 12 (.ifCond .ne 5) := ⟨by decide +kernel, rfl⟩
set_option maxRecDepth 100000 in
theorem ii_mo_on_12 : sm_D prog_9_method_56_code 12 1 13 (.iconst (-1)) := ⟨by decide +kernel, rfl⟩
set_option maxRecDepth 100000 in
theorem ii_mo_on_13 : sm_D prog_9_method_56_code 13 1 14 (.ireturn) := ⟨by decide +kernel, rfl⟩
set_option maxRecDepth 100000 in
theorem ii_mo_on_14 : sm_D prog_9_method_56_code 14 1 15 (.aload_n 0) := ⟨by decide +kernel, rfl⟩
set_option maxRecDepth 100000 in
theorem ii_mo_on_15 : sm_D prog_9_method_56_code 15 3 18 (.getfield 7) := ⟨by decide +kernel, rfl⟩
set_option maxRecDepth 100000 in
theorem ii_mo_on_18 : sm_D prog_9_method_56_code 18 3 21 (.sipush 1272) := ⟨by decide +kernel, rfl⟩
set_option maxRecDepth 100000 in
theorem ii_mo_on_21 : sm_D prog_9_method_56_code 21 1 22 (.iconst 1) := ⟨by decide +kernel, rfl⟩
set_option maxRecDepth 100000 in
theorem ii_mo_on_22 : sm_D prog_9_method_56_code 22 1 23 (.iload_n 1) := ⟨by decide +kernel, rfl⟩
set_option maxRecDepth 100000 in
theorem ii_mo_on_23 : sm_D prog_9_method_56_code 23 1 24 (.iadd) := ⟨by decide +kernel, rfl⟩
set_option maxRecDepth 100000 in
theorem ii_mo_on_24 : sm_D prog_9_method_56_code 24 1 25 (.imul) := ⟨by decide +kernel, rfl⟩
set_option maxRecDepth 100000 in
theorem ii_mo_on_25 : sm_D prog_9_method_56_code 25 1 26 (.iconst 0) := ⟨by decide +kernel, rfl⟩
set_option maxRecDepth 100000 in
theorem ii_mo_on_26 : sm_D prog_9_method_56_code 26 1 27 (.iadd) := ⟨by decide +kernel, rfl⟩
set_option maxRecDepth 100000 in
theorem ii_mo_on_27 : sm_D prog_9_method_56_code 27 1 28 (.iaload) := ⟨by decide +kernel, rfl⟩
set_option maxRecDepth 100000 in
theorem ii_mo_on_28 : sm_D prog_9_method_56_code 28 3 31 (.ifCond .ge 9) := ⟨by decide +kernel, rfl⟩
set_option maxRecDepth 100000 in
theorem ii_mo_on_31 : sm_D prog_9_method_56_code 31 1 32 (.aload_n 0) := ⟨by decide +kernel, rfl⟩
set_option maxRecDepth 100000 in
theorem ii_mo_on_32 : sm_D prog_9_method_56_code 32 1 33 (.iconst 1) := ⟨by decide +kernel, rfl⟩
set_option maxRecDepth 100000 in
theorem ii_mo_on_33 : sm_D prog_9_method_56_code 33 3 36 (.invokevirtual 81) := ⟨by decide +kernel, rfl⟩
set_option maxRecDepth 100000 in
theorem ii_mo_on_36 : sm_D prog_9_method_56_code 36 1 37 (.ireturn) := ⟨by decide +kernel, rfl⟩
set_option maxRecDepth 100000 in
theorem ii_mo_on_37 : sm_D prog_9_method_56_code 37 1 38 (.aload_n 0) := ⟨by decide +kernel, rfl⟩
set_option maxRecDepth 100000 in
theorem ii_mo_on_38 : sm_D prog_9_method_56_code 38 3 41 (.sipush 1272) := ⟨by decide +kernel, rfl⟩
set_option maxRecDepth 100000 in
theorem ii_mo_on_41 : sm_D prog_9_method_56_code 41 1 42 (.iconst 1) := ⟨by decide +kernel, rfl⟩
set_option maxRecDepth 100000 in
theorem ii_mo_on_42 : sm_D prog_9_method_56_code 42 1 43 (.iload_n 1) := ⟨by decide +kernel, rfl⟩
set_option maxRecDepth 100000 in
theorem ii_mo_on_43 : sm_D prog_9_method_56_code 43 1 44 (.iadd) := ⟨by decide +kernel, rfl⟩
set_option maxRecDepth 100000 in
theorem ii_mo_on_44 : sm_D prog_9_method_56_code 44 1 45 (.imul) := ⟨by decide +kernel, rfl⟩
set_option maxRecDepth 100000 in
theorem ii_mo_on_45 : sm_D prog_9_method_56_code 45 1 46 (.iconst 0) := ⟨by decide +kernel, rfl⟩
set_option maxRecDepth 100000 in
theorem ii_mo_on_46 : sm_D prog_9_method_56_code 46 3 49 (.invokevirtual 202) := ⟨by decide +kernel, rfl⟩
set_option maxRecDepth 100000 in
theorem ii_mo_on_49 : sm_D prog_9_method_56_code 49 1 50 (.aload_n 0) := ⟨by decide +kernel, rfl⟩
set_option maxRecDepth 100000 in
theorem ii_mo_on_50 : sm_D prog_9_method_56_code 50 3 53 (.getfield 7) := ⟨by decide +kernel, rfl⟩
set_option maxRecDepth 100000 in
theorem ii_mo_on_53 : sm_D prog_9_method_56_code 53 1 54 (.iconst 0) := ⟨by decide +kernel, rfl⟩
set_option maxRecDepth 100000 in
theorem ii_mo_on_54 : sm_D prog_9_method_56_code 54 1 55 (.iaload) := ⟨by decide +kernel, rfl⟩
set_option maxRecDepth 100000 in
theorem ii_mo_on_55 : sm_D prog_9_method_56_code 55 1 56 (.ireturn) := ⟨by decide +kernel, rfl⟩
noncomputable def ff_mo_on  (a1 : Int32) (w : sm_Mem) : sm_R := (sm_cI (ff_mo_in ((Int32.toInt64 a1)) ((0 : Int64)) ((2 : Int64)) w) fun x1 w2 => (if x1 = (0 : Int32) then (some (.int (-1 : Int32), w2)) else (Option.bind (sm_rd w2 63 5184 (((1272 : Int32) * ((1 : Int32) + a1)) + (0 : Int32))) fun x3 => (if (0 : Int32) ≤ x3 then (sm_cV (ff_mo_copyHouse (((1272 : Int32) * ((1 : Int32) + a1))) ((0 : Int32)) w2) fun w5 => (Option.bind (sm_rd w5 63 5184 (0 : Int32)) fun x6 => (some (.int x6, w5)))) else (sm_cI (ff_mo_find ((1 : Int32)) w2) fun x7 w8 => (some (.int x7, w8)))))))
set_option maxHeartbeats 4000000 in
set_option maxRecDepth 100000 in
theorem ss_mo_on_0 {E : Nat × (Nat → Int32)}  (a1 : Int32) (w : sm_Mem) : sm_Sim E (mi_mo_on) 0 [some (.ref 62), some (.int a1)] [] w (ff_mo_on  a1 w) := by
  unfold ff_mo_on
  refine sm_iload_n ii_mo_on_0 rfl ?_
  refine sm_i2l ii_mo_on_1 ?_
  refine sm_lconst (0 : Int64) ii_mo_on_2 (by decide) ?_
  refine sm_ldc2 (2 : Int64) ii_mo_on_3 (List.mem_of_getElem? (i := 1231) (by decide +kernel)) ?_
  refine sm_csI [.long (Int32.toInt64 a1), .long (0 : Int64), .long (2 : Int64)] [] rfl ii_mo_on_6 ml_mo_71 (mf_mo_in) (mv_mo_in) (Nat.le_of_ble_eq_true rfl) rfl rfl rfl (mc_mo_in ((Int32.toInt64 a1)) ((0 : Int64)) ((2 : Int64)) w) (fun x1 w2 => ?_)
  refine sm_if_ne 14 ii_mo_on_9 (by decide) ?_ ?_
  · refine sm_iconst (-1 : Int32) ii_mo_on_12 (by decide) ?_
    exact sm_iret ii_mo_on_13 rfl
  · refine sm_aload_n ii_mo_on_14 rfl ?_
    refine sm_getR 63 ii_mo_on_15 fl_mo_7 (k := 62) rfl ?_
    refine sm_sipush (1272 : Int32) ii_mo_on_18 (by decide) ?_
    refine sm_iconst (1 : Int32) ii_mo_on_21 (by decide) ?_
    refine sm_iload_n ii_mo_on_22 rfl ?_
    refine sm_iadd ii_mo_on_23 ?_
    refine sm_imul ii_mo_on_24 ?_
    refine sm_iconst (0 : Int32) ii_mo_on_25 (by decide) ?_
    refine sm_iadd ii_mo_on_26 ?_
    refine sm_iald ii_mo_on_27 (k := 63) rfl (fun x3 => ?_)
    refine sm_if_ge 37 ii_mo_on_28 (by decide) ?_ ?_
    · refine sm_aload_n ii_mo_on_37 rfl ?_
      refine sm_sipush (1272 : Int32) ii_mo_on_38 (by decide) ?_
      refine sm_iconst (1 : Int32) ii_mo_on_41 (by decide) ?_
      refine sm_iload_n ii_mo_on_42 rfl ?_
      refine sm_iadd ii_mo_on_43 ?_
      refine sm_imul ii_mo_on_44 ?_
      refine sm_iconst (0 : Int32) ii_mo_on_45 (by decide) ?_
      refine sm_cvV [.int ((1272 : Int32) * ((1 : Int32) + a1)), .int (0 : Int32)] [] rfl ii_mo_on_46 ml_mo_202 (mf_mo_copyHouse) (mv_mo_copyHouse) (Nat.le_of_ble_eq_true rfl) rfl 7 rfl rfl rfl rfl (mc_mo_copyHouse (((1272 : Int32) * ((1 : Int32) + a1))) ((0 : Int32)) w2) (fun w5 => ?_)
      refine sm_aload_n ii_mo_on_49 rfl ?_
      refine sm_getR 63 ii_mo_on_50 fl_mo_7 (k := 62) rfl ?_
      refine sm_iconst (0 : Int32) ii_mo_on_53 (by decide) ?_
      refine sm_iald ii_mo_on_54 (k := 63) rfl (fun x6 => ?_)
      exact sm_iret ii_mo_on_55 rfl
    · refine sm_aload_n ii_mo_on_31 rfl ?_
      refine sm_iconst (1 : Int32) ii_mo_on_32 (by decide) ?_
      refine sm_cvI [.int (1 : Int32)] [] rfl ii_mo_on_33 ml_mo_81 (mf_mo_find) (mv_mo_find) (Nat.le_of_ble_eq_true rfl) rfl 7 rfl rfl rfl rfl (mc_mo_find ((1 : Int32)) w2) (fun x7 w8 => ?_)
      exact sm_iret ii_mo_on_36 rfl
set_option maxHeartbeats 4000000 in
set_option maxRecDepth 100000 in
theorem mc_mo_on (a1 : Int32) (w : sm_Mem) : sm_MC mi_mo_on [.ref 62, .int a1] w (ff_mo_on a1 w) := sm_MC_of (0, fun _ => 0) (by decide +kernel) (by decide) rfl (Nat.le_of_ble_eq_true rfl) (ss_mo_on_0 a1 w)
abbrev mi_ho_who : sm_MI := (⟨"HerOrders", "who", "(I)I"⟩, prog_1_method_21_code, 4, (some .int), 3)
set_option maxRecDepth 100000 in
theorem mf_ho_who : sm_MF mi_ho_who 1 := ⟨List.mem_of_getElem? (i := 616) (by decide +kernel), List.mem_of_getElem? (i := 124) (by decide +kernel), ⟨by decide, by decide⟩, by decide +kernel⟩
set_option maxRecDepth 100000 in
theorem mv_ho_who : sm_MFV mi_ho_who := ⟨List.mem_of_getElem? (i := 614) (by decide +kernel), List.mem_of_getElem? (i := 615) (by decide +kernel)⟩
set_option maxRecDepth 100000 in
theorem ii_ho_who_0 : sm_D prog_1_method_21_code 0 1 1 (.iload_n 1) := ⟨by decide +kernel, rfl⟩
set_option maxRecDepth 100000 in
theorem ii_ho_who_1 : sm_D prog_1_method_21_code 1 2 3 (.bipush 6) := ⟨by decide +kernel, rfl⟩
set_option maxRecDepth 100000 in
theorem ii_ho_who_3 : sm_D prog_1_method_21_code 3 3 6 (.invokestatic 81) := ⟨by decide +kernel, rfl⟩
set_option maxRecDepth 100000 in
theorem ii_ho_who_6 : sm_D prog_1_method_21_code 6 3 9 (.ifCond .ne 5) := ⟨by decide +kernel, rfl⟩
set_option maxRecDepth 100000 in
theorem ii_ho_who_9 : sm_D prog_1_method_21_code 9 1 10 (.iconst (-1)) := ⟨by decide +kernel, rfl⟩
set_option maxRecDepth 100000 in
theorem ii_ho_who_10 : sm_D prog_1_method_21_code 10 1 11 (.ireturn) := ⟨by decide +kernel, rfl⟩
set_option maxRecDepth 100000 in
theorem ii_ho_who_11 : sm_D prog_1_method_21_code 11 1 12 (.iconst 0) := ⟨by decide +kernel, rfl⟩
set_option maxRecDepth 100000 in
theorem ii_ho_who_12 : sm_D prog_1_method_21_code 12 1 13 (.istore_n 2) := ⟨by decide +kernel, rfl⟩
set_option maxRecDepth 100000 in
theorem ii_ho_who_13 : sm_D prog_1_method_21_code 13 1 14 (.iconst 0) := ⟨by decide +kernel, rfl⟩
set_option maxRecDepth 100000 in
theorem ii_ho_who_14 : sm_D prog_1_method_21_code 14 1 15 (.istore_n 3) := ⟨by decide +kernel, rfl⟩
set_option maxRecDepth 100000 in
theorem ii_ho_who_15 : sm_D prog_1_method_21_code 15 1 16 (.iload_n 3) := ⟨by decide +kernel, rfl⟩
set_option maxRecDepth 100000 in
theorem ii_ho_who_16 : sm_D prog_1_method_21_code 16 1 17 (.aload_n 0) := ⟨by decide +kernel, rfl⟩
set_option maxRecDepth 100000 in
theorem ii_ho_who_17 : sm_D prog_1_method_21_code 17 3 20 (.getfield 31) := ⟨by decide +kernel, rfl⟩
set_option maxRecDepth 100000 in
theorem ii_ho_who_20 : sm_D prog_1_method_21_code 20 3 23 (.getfield 115) := ⟨by decide +kernel, rfl⟩
set_option maxRecDepth 100000 in
theorem ii_ho_who_23 : sm_D prog_1_method_21_code 23 3 26 (.if_icmp .ge 27) := ⟨by decide +kernel, rfl⟩
set_option maxRecDepth 100000 in
theorem ii_ho_who_26 : sm_D prog_1_method_21_code 26 1 27 (.aload_n 0) := ⟨by decide +kernel, rfl⟩
set_option maxRecDepth 100000 in
theorem ii_ho_who_27 : sm_D prog_1_method_21_code 27 3 30 (.getfield 31) := ⟨by decide +kernel, rfl⟩
set_option maxRecDepth 100000 in
theorem ii_ho_who_30 : sm_D prog_1_method_21_code 30 1 31 (.iload_n 3) := ⟨by decide +kernel, rfl⟩
set_option maxRecDepth 100000 in
theorem ii_ho_who_31 : sm_D prog_1_method_21_code 31 1 32 (.iload_n 1) := ⟨by decide +kernel, rfl⟩
set_option maxRecDepth 100000 in
theorem ii_ho_who_32 : sm_D prog_1_method_21_code 32 3 35 (.invokevirtual 152) := ⟨by decide +kernel, rfl⟩
set_option maxRecDepth 100000 in
theorem ii_ho_who_35 : sm_D prog_1_method_21_code 35 3 38 (.ifCond .eq 9) := ⟨by decide +kernel, rfl⟩
set_option maxRecDepth 100000 in
theorem ii_ho_who_38 : sm_D prog_1_method_21_code 38 1 39 (.iload_n 2) := ⟨by decide +kernel, rfl⟩
set_option maxRecDepth 100000 in
theorem ii_ho_who_39 : sm_D prog_1_method_21_code 39 1 40 (.iconst 1) := ⟨by decide +kernel, rfl⟩
set_option maxRecDepth 100000 in
theorem ii_ho_who_40 : sm_D prog_1_method_21_code 40 1 41 (.iload_n 3) := ⟨by decide +kernel, rfl⟩
set_option maxRecDepth 100000 in
theorem ii_ho_who_41 : sm_D prog_1_method_21_code 41 1 42 (.ishl) := ⟨by decide +kernel, rfl⟩
set_option maxRecDepth 100000 in
theorem ii_ho_who_42 : sm_D prog_1_method_21_code 42 1 43 (.ior) := ⟨by decide +kernel, rfl⟩
set_option maxRecDepth 100000 in
theorem ii_ho_who_43 : sm_D prog_1_method_21_code 43 1 44 (.istore_n 2) := ⟨by decide +kernel, rfl⟩
set_option maxRecDepth 100000 in
theorem ii_ho_who_44 : sm_D prog_1_method_21_code 44 3 47 (.iinc 3 1) := ⟨by decide +kernel, rfl⟩
set_option maxRecDepth 100000 in
theorem ii_ho_who_47 : sm_D prog_1_method_21_code 47 3 50 (.goto (-32)) := ⟨by decide +kernel, rfl⟩
set_option maxRecDepth 100000 in
theorem ii_ho_who_50 : sm_D prog_1_method_21_code 50 1 51 (.iload_n 2) := ⟨by decide +kernel, rfl⟩
set_option maxRecDepth 100000 in
theorem ii_ho_who_51 : sm_D prog_1_method_21_code 51 1 52 (.ireturn) := ⟨by decide +kernel, rfl⟩
noncomputable def ff_ho_who_15_b  (self15 : Int32 → Int32 → Int32 → sm_Mem → sm_R) (a1 : Int32) (a2 : Int32) (a3 : Int32) (w : sm_Mem) : sm_R := (if (w.1 36 0) ≤ a3 then (some (.int a2, w)) else (sm_cI (ff_hs_can (a3) (a1) w) fun x1 w2 => (if x1 = (0 : Int32) then self15 (a1) (a2) ((a3 + (1 : Int32))) w2 else self15 (a1) ((a2 ||| ((1 : Int32) <<< (a3 &&& (31 : Int32))))) ((a3 + (1 : Int32))) w2)))
noncomputable def ff_ho_who_15_f  : Nat → Int32 → Int32 → Int32 → sm_Mem → sm_R
  | 0, _, _, _, _ => none
  | n + 1, a1, a2, a3, w => ff_ho_who_15_b  (ff_ho_who_15_f  n) a1 a2 a3 w
noncomputable def ff_ho_who_15  (a1 : Int32) (a2 : Int32) (a3 : Int32) (w : sm_Mem) : sm_R := ff_ho_who_15_f  sm_N a1 a2 a3 w
set_option maxHeartbeats 4000000 in
set_option maxRecDepth 100000 in
theorem ss_ho_who_15_b {E : Nat × (Nat → Int32)}  (self15 : Int32 → Int32 → Int32 → sm_Mem → sm_R) (hself15 : ∀ (a1 : Int32) (a2 : Int32) (a3 : Int32) (w : sm_Mem), sm_Sim E (mi_ho_who) 15 [some (.ref 0), some (.int a1), some (.int a2), some (.int a3)] [] w (self15 a1 a2 a3 w)) (a1 : Int32) (a2 : Int32) (a3 : Int32) (w : sm_Mem) : sm_Sim E (mi_ho_who) 15 [some (.ref 0), some (.int a1), some (.int a2), some (.int a3)] [] w (ff_ho_who_15_b  self15 a1 a2 a3 w) := by
  unfold ff_ho_who_15_b
  refine sm_iload_n ii_ho_who_15 rfl ?_
  refine sm_aload_n ii_ho_who_16 rfl ?_
  refine sm_getR 36 ii_ho_who_17 fl_ho_31 (k := 0) rfl ?_
  refine sm_getI ii_ho_who_20 fl_ho_115 (k := 36) rfl ?_
  refine sm_icmp_ge 50 ii_ho_who_23 (by decide) ?_ ?_
  · refine sm_iload_n ii_ho_who_50 rfl ?_
    exact sm_iret ii_ho_who_51 rfl
  · refine sm_aload_n ii_ho_who_26 rfl ?_
    refine sm_getR 36 ii_ho_who_27 fl_ho_31 (k := 0) rfl ?_
    refine sm_iload_n ii_ho_who_30 rfl ?_
    refine sm_iload_n ii_ho_who_31 rfl ?_
    refine sm_cvI [.int a3, .int a1] [] rfl ii_ho_who_32 ml_ho_152 (mf_hs_can) (mv_hs_can) (Nat.le_of_ble_eq_true rfl) rfl 1 rfl rfl rfl rfl (mc_hs_can (a3) (a1) w) (fun x1 w2 => ?_)
    refine sm_if_eq 44 ii_ho_who_35 (by decide) ?_ ?_
    · refine sm_iinc (a3 + (1 : Int32)) [some (.ref 0), some (.int a1), some (.int a2), some (.int (a3 + (1 : Int32)))] ii_ho_who_44 rfl rfl rfl rfl ?_
      refine sm_goto 15 ii_ho_who_47 (by decide) ?_
      exact hself15 (a1) (a2) ((a3 + (1 : Int32))) w2
    · refine sm_iload_n ii_ho_who_38 rfl ?_
      refine sm_iconst (1 : Int32) ii_ho_who_39 (by decide) ?_
      refine sm_iload_n ii_ho_who_40 rfl ?_
      refine sm_ishl ii_ho_who_41 ?_
      refine sm_ior ii_ho_who_42 ?_
      refine sm_istore_n [some (.ref 0), some (.int a1), some (.int (a2 ||| ((1 : Int32) <<< (a3 &&& (31 : Int32))))), some (.int a3)] ii_ho_who_43 rfl rfl ?_
      refine sm_iinc (a3 + (1 : Int32)) [some (.ref 0), some (.int a1), some (.int (a2 ||| ((1 : Int32) <<< (a3 &&& (31 : Int32))))), some (.int (a3 + (1 : Int32)))] ii_ho_who_44 rfl rfl rfl rfl ?_
      refine sm_goto 15 ii_ho_who_47 (by decide) ?_
      exact hself15 (a1) ((a2 ||| ((1 : Int32) <<< (a3 &&& (31 : Int32))))) ((a3 + (1 : Int32))) w2
set_option maxHeartbeats 4000000 in
set_option maxRecDepth 100000 in
theorem ss_ho_who_15_f {E : Nat × (Nat → Int32)}  : ∀ (n : Nat) (a1 : Int32) (a2 : Int32) (a3 : Int32) (w : sm_Mem), sm_Sim E (mi_ho_who) 15 [some (.ref 0), some (.int a1), some (.int a2), some (.int a3)] [] w (ff_ho_who_15_f  n a1 a2 a3 w)
  | 0, _, _, _, _ => fun _ _ h => by cases h
  | n + 1, a1, a2, a3, w => ss_ho_who_15_b  _ (ss_ho_who_15_f  n) a1 a2 a3 w
set_option maxHeartbeats 4000000 in
set_option maxRecDepth 100000 in
theorem ss_ho_who_15 {E : Nat × (Nat → Int32)}  (a1 : Int32) (a2 : Int32) (a3 : Int32) (w : sm_Mem) : sm_Sim E (mi_ho_who) 15 [some (.ref 0), some (.int a1), some (.int a2), some (.int a3)] [] w (ff_ho_who_15  a1 a2 a3 w) := ss_ho_who_15_f  sm_N a1 a2 a3 w
noncomputable def ff_ho_who  (a1 : Int32) (w : sm_Mem) : sm_R := (sm_cI (ff_ho_isWithin (a1) ((6 : Int32)) w) fun x3 w4 => (if x3 = (0 : Int32) then (some (.int (-1 : Int32), w4)) else ff_ho_who_15 (a1) ((0 : Int32)) ((0 : Int32)) w4))
set_option maxHeartbeats 4000000 in
set_option maxRecDepth 100000 in
theorem ss_ho_who_0 {E : Nat × (Nat → Int32)}  (a1 : Int32) (w : sm_Mem) : sm_Sim E (mi_ho_who) 0 [some (.ref 0), some (.int a1), none, none] [] w (ff_ho_who  a1 w) := by
  unfold ff_ho_who
  refine sm_iload_n ii_ho_who_0 rfl ?_
  refine sm_bipush (6 : Int32) ii_ho_who_1 (by decide) ?_
  refine sm_csI [.int a1, .int (6 : Int32)] [] rfl ii_ho_who_3 ml_ho_81 (mf_ho_isWithin) (mv_ho_isWithin) (Nat.le_of_ble_eq_true rfl) rfl rfl rfl (mc_ho_isWithin (a1) ((6 : Int32)) w) (fun x3 w4 => ?_)
  refine sm_if_ne 11 ii_ho_who_6 (by decide) ?_ ?_
  · refine sm_iconst (-1 : Int32) ii_ho_who_9 (by decide) ?_
    exact sm_iret ii_ho_who_10 rfl
  · refine sm_iconst (0 : Int32) ii_ho_who_11 (by decide) ?_
    refine sm_istore_n [some (.ref 0), some (.int a1), some (.int (0 : Int32)), none] ii_ho_who_12 rfl rfl ?_
    refine sm_iconst (0 : Int32) ii_ho_who_13 (by decide) ?_
    refine sm_istore_n [some (.ref 0), some (.int a1), some (.int (0 : Int32)), some (.int (0 : Int32))] ii_ho_who_14 rfl rfl ?_
    exact ss_ho_who_15 (a1) ((0 : Int32)) ((0 : Int32)) w4
set_option maxHeartbeats 4000000 in
set_option maxRecDepth 100000 in
theorem mc_ho_who (a1 : Int32) (w : sm_Mem) : sm_MC mi_ho_who [.ref 0, .int a1] w (ff_ho_who a1 w) := sm_MC_of (0, fun _ => 0) (by decide +kernel) (by decide) rfl (Nat.le_of_ble_eq_true rfl) (ss_ho_who_0 a1 w)
abbrev mi_mo_whoCan : sm_MI := (⟨"HerOrdersModel", "whoCan", "(II)I"⟩, prog_9_method_36_code, 5, (some .int), 4)
set_option maxRecDepth 100000 in
theorem mf_mo_whoCan : sm_MF mi_mo_whoCan 2 := ⟨List.mem_of_getElem? (i := 1247) (by decide +kernel), List.mem_of_getElem? (i := 132) (by decide +kernel), ⟨by decide, by decide⟩, by decide +kernel⟩
set_option maxRecDepth 100000 in
theorem mv_mo_whoCan : sm_MFV mi_mo_whoCan := ⟨List.mem_of_getElem? (i := 1246) (by decide +kernel), List.mem_of_getElem? (i := 98) (by decide +kernel)⟩
set_option maxRecDepth 100000 in
theorem ii_mo_whoCan_0 : sm_D prog_9_method_36_code 0 1 1 (.iconst 0) := ⟨by decide +kernel, rfl⟩
set_option maxRecDepth 100000 in
theorem ii_mo_whoCan_1 : sm_D prog_9_method_36_code 1 1 2 (.istore_n 3) := ⟨by decide +kernel, rfl⟩
set_option maxRecDepth 100000 in
theorem ii_mo_whoCan_2 : sm_D prog_9_method_36_code 2 1 3 (.iconst 0) := ⟨by decide +kernel, rfl⟩
set_option maxRecDepth 100000 in
theorem ii_mo_whoCan_3 : sm_D prog_9_method_36_code 3 2 5 (.istore 4) := ⟨by decide +kernel, rfl⟩
set_option maxRecDepth 100000 in
theorem ii_mo_whoCan_5 : sm_D prog_9_method_36_code 5 2 7 (.iload 4) := ⟨by decide +kernel, rfl⟩
set_option maxRecDepth 100000 in
theorem ii_mo_whoCan_7 : sm_D prog_9_method_36_code 7 1 8 (.aload_n 0) := ⟨by decide +kernel, rfl⟩
set_option maxRecDepth 100000 in
theorem ii_mo_whoCan_8 : sm_D prog_9_method_36_code 8 3 11 (.getfield 135) := ⟨by decide +kernel, rfl⟩
set_option maxRecDepth 100000 in
theorem ii_mo_whoCan_11 : sm_D prog_9_method_36_code 11 3 14 (.if_icmp .ge 31) := ⟨by decide +kernel, rfl⟩
set_option maxRecDepth 100000 in
theorem ii_mo_whoCan_14 : sm_D prog_9_method_36_code 14 1 15 (.iload_n 3) := ⟨by decide +kernel, rfl⟩
set_option maxRecDepth 100000 in
theorem ii_mo_whoCan_15 : sm_D prog_9_method_36_code 15 1 16 (.aload_n 0) := ⟨by decide +kernel, rfl⟩
set_option maxRecDepth 100000 in
theorem ii_mo_whoCan_16 : sm_D prog_9_method_36_code 16 1 17 (.iload_n 1) := ⟨by decide +kernel, rfl⟩
set_option maxRecDepth 100000 in
theorem ii_mo_whoCan_17 : sm_D prog_9_method_36_code 17 2 19 (.iload 4) := ⟨by decide +kernel, rfl⟩
set_option maxRecDepth 100000 in
theorem ii_mo_whoCan_19 : sm_D prog_9_method_36_code 19 1 20 (.iload_n 2) := ⟨by decide +kernel, rfl⟩
set_option maxRecDepth 100000 in
theorem ii_mo_whoCan_20 : sm_D prog_9_method_36_code 20 3 23 (.invokevirtual 157) := ⟨by decide +kernel, rfl⟩
set_option maxRecDepth 100000 in
theorem ii_mo_whoCan_23 : sm_D prog_9_method_36_code 23 3 26 (.ifCond .eq 10) := ⟨by decide +kernel, rfl⟩
set_option maxRecDepth 100000 in
theorem ii_mo_whoCan_26 : sm_D prog_9_method_36_code 26 1 27 (.iconst 1) := ⟨by decide +kernel, rfl⟩
set_option maxRecDepth 100000 in
theorem ii_mo_whoCan_27 : sm_D prog_9_method_36_code 27 2 29 (.iload 4) := ⟨by decide +kernel, rfl⟩
set_option maxRecDepth 100000 in
theorem ii_mo_whoCan_29 : sm_D prog_9_method_36_code 29 1 30 (.ishl) := ⟨by decide +kernel, rfl⟩
set_option maxRecDepth 100000 in
theorem ii_mo_whoCan_30 : sm_D prog_9_method_36_code 30 3 33 (.goto 4) := ⟨by decide +kernel, rfl⟩
set_option maxRecDepth 100000 in
theorem ii_mo_whoCan_33 : sm_D prog_9_method_36_code 33 1 34 (.iconst 0) := ⟨by decide +kernel, rfl⟩
set_option maxRecDepth 100000 in
theorem ii_mo_whoCan_34 : sm_D prog_9_method_36_code 34 1 35 (.ior) := ⟨by decide +kernel, rfl⟩
set_option maxRecDepth 100000 in
theorem ii_mo_whoCan_35 : sm_D prog_9_method_36_code 35 1 36 (.istore_n 3) := ⟨by decide +kernel, rfl⟩
set_option maxRecDepth 100000 in
theorem ii_mo_whoCan_36 : sm_D prog_9_method_36_code 36 3 39 (.iinc 4 1) := ⟨by decide +kernel, rfl⟩
set_option maxRecDepth 100000 in
theorem ii_mo_whoCan_39 : sm_D prog_9_method_36_code 39 3 42 (.goto (-34)) := ⟨by decide +kernel, rfl⟩
set_option maxRecDepth 100000 in
theorem ii_mo_whoCan_42 : sm_D prog_9_method_36_code 42 1 43 (.iload_n 3) := ⟨by decide +kernel, rfl⟩
set_option maxRecDepth 100000 in
theorem ii_mo_whoCan_43 : sm_D prog_9_method_36_code 43 1 44 (.ireturn) := ⟨by decide +kernel, rfl⟩
noncomputable def ff_mo_whoCan_34 (self5 : Int32 → Int32 → Int32 → Int32 → sm_Mem → sm_R) (a1 : Int32) (a2 : Int32) (a4 : Int32) (b0 : Int32) (b1 : Int32) (w : sm_Mem) : sm_R := self5 (a1) (a2) ((b0 ||| b1)) ((a4 + (1 : Int32))) w
set_option maxHeartbeats 4000000 in
set_option maxRecDepth 100000 in
theorem ss_mo_whoCan_34 {E : Nat × (Nat → Int32)} (self5 : Int32 → Int32 → Int32 → Int32 → sm_Mem → sm_R) (hself5 : ∀ (a1 : Int32) (a2 : Int32) (a3 : Int32) (a4 : Int32) (w : sm_Mem), sm_Sim E (mi_mo_whoCan) 5 [some (.ref 62), some (.int a1), some (.int a2), some (.int a3), some (.int a4)] [] w (self5 a1 a2 a3 a4 w)) (a1 : Int32) (a2 : Int32) (a4 : Int32) (b0 : Int32) (b1 : Int32) (w : sm_Mem) : sm_Sim E (mi_mo_whoCan) 34 [some (.ref 62), some (.int a1), some (.int a2), none, some (.int a4)] [.int b1, .int b0] w (ff_mo_whoCan_34 self5 a1 a2 a4 b0 b1 w) := by
  unfold ff_mo_whoCan_34
  refine sm_ior ii_mo_whoCan_34 ?_
  refine sm_istore_n [some (.ref 62), some (.int a1), some (.int a2), some (.int (b0 ||| b1)), some (.int a4)] ii_mo_whoCan_35 rfl rfl ?_
  refine sm_iinc (a4 + (1 : Int32)) [some (.ref 62), some (.int a1), some (.int a2), some (.int (b0 ||| b1)), some (.int (a4 + (1 : Int32)))] ii_mo_whoCan_36 rfl rfl rfl rfl ?_
  refine sm_goto 5 ii_mo_whoCan_39 (by decide) ?_
  exact hself5 (a1) (a2) ((b0 ||| b1)) ((a4 + (1 : Int32))) w
noncomputable def ff_mo_whoCan_5_b  (self5 : Int32 → Int32 → Int32 → Int32 → sm_Mem → sm_R) (a1 : Int32) (a2 : Int32) (a3 : Int32) (a4 : Int32) (w : sm_Mem) : sm_R := (if (w.1 62 1) ≤ a4 then (some (.int a3, w)) else (sm_cI (ff_mo_mayNext (a1) (a4) (a2) w) fun x1 w2 => (if x1 = (0 : Int32) then ff_mo_whoCan_34 self5 (a1) (a2) (a4) (a3) ((0 : Int32)) w2 else ff_mo_whoCan_34 self5 (a1) (a2) (a4) (a3) (((1 : Int32) <<< (a4 &&& (31 : Int32)))) w2)))
noncomputable def ff_mo_whoCan_5_f  : Nat → Int32 → Int32 → Int32 → Int32 → sm_Mem → sm_R
  | 0, _, _, _, _, _ => none
  | n + 1, a1, a2, a3, a4, w => ff_mo_whoCan_5_b  (ff_mo_whoCan_5_f  n) a1 a2 a3 a4 w
noncomputable def ff_mo_whoCan_5  (a1 : Int32) (a2 : Int32) (a3 : Int32) (a4 : Int32) (w : sm_Mem) : sm_R := ff_mo_whoCan_5_f  sm_N a1 a2 a3 a4 w
set_option maxHeartbeats 4000000 in
set_option maxRecDepth 100000 in
theorem ss_mo_whoCan_5_b {E : Nat × (Nat → Int32)}  (self5 : Int32 → Int32 → Int32 → Int32 → sm_Mem → sm_R) (hself5 : ∀ (a1 : Int32) (a2 : Int32) (a3 : Int32) (a4 : Int32) (w : sm_Mem), sm_Sim E (mi_mo_whoCan) 5 [some (.ref 62), some (.int a1), some (.int a2), some (.int a3), some (.int a4)] [] w (self5 a1 a2 a3 a4 w)) (a1 : Int32) (a2 : Int32) (a3 : Int32) (a4 : Int32) (w : sm_Mem) : sm_Sim E (mi_mo_whoCan) 5 [some (.ref 62), some (.int a1), some (.int a2), some (.int a3), some (.int a4)] [] w (ff_mo_whoCan_5_b  self5 a1 a2 a3 a4 w) := by
  unfold ff_mo_whoCan_5_b
  refine sm_iload ii_mo_whoCan_5 rfl ?_
  refine sm_aload_n ii_mo_whoCan_7 rfl ?_
  refine sm_getI ii_mo_whoCan_8 fl_mo_135 (k := 62) rfl ?_
  refine sm_icmp_ge 42 ii_mo_whoCan_11 (by decide) ?_ ?_
  · refine sm_iload_n ii_mo_whoCan_42 rfl ?_
    exact sm_iret ii_mo_whoCan_43 rfl
  · refine sm_iload_n ii_mo_whoCan_14 rfl ?_
    refine sm_aload_n ii_mo_whoCan_15 rfl ?_
    refine sm_iload_n ii_mo_whoCan_16 rfl ?_
    refine sm_iload ii_mo_whoCan_17 rfl ?_
    refine sm_iload_n ii_mo_whoCan_19 rfl ?_
    refine sm_cvI [.int a1, .int a4, .int a2] [.int a3] rfl ii_mo_whoCan_20 ml_mo_157 (mf_mo_mayNext) (mv_mo_mayNext) (Nat.le_of_ble_eq_true rfl) rfl 7 rfl rfl rfl rfl (mc_mo_mayNext (a1) (a4) (a2) w) (fun x1 w2 => ?_)
    refine sm_if_eq 33 ii_mo_whoCan_23 (by decide) ?_ ?_
    · refine sm_iconst (0 : Int32) ii_mo_whoCan_33 (by decide) ?_
      refine sm_msk [true, true, true, false, true] [some (.ref 62), some (.int a1), some (.int a2), none, some (.int a4)] rfl ?_
      exact ss_mo_whoCan_34 self5 hself5 (a1) (a2) (a4) (a3) ((0 : Int32)) w2
    · refine sm_iconst (1 : Int32) ii_mo_whoCan_26 (by decide) ?_
      refine sm_iload ii_mo_whoCan_27 rfl ?_
      refine sm_ishl ii_mo_whoCan_29 ?_
      refine sm_goto 34 ii_mo_whoCan_30 (by decide) ?_
      refine sm_msk [true, true, true, false, true] [some (.ref 62), some (.int a1), some (.int a2), none, some (.int a4)] rfl ?_
      exact ss_mo_whoCan_34 self5 hself5 (a1) (a2) (a4) (a3) (((1 : Int32) <<< (a4 &&& (31 : Int32)))) w2
set_option maxHeartbeats 4000000 in
set_option maxRecDepth 100000 in
theorem ss_mo_whoCan_5_f {E : Nat × (Nat → Int32)}  : ∀ (n : Nat) (a1 : Int32) (a2 : Int32) (a3 : Int32) (a4 : Int32) (w : sm_Mem), sm_Sim E (mi_mo_whoCan) 5 [some (.ref 62), some (.int a1), some (.int a2), some (.int a3), some (.int a4)] [] w (ff_mo_whoCan_5_f  n a1 a2 a3 a4 w)
  | 0, _, _, _, _, _ => fun _ _ h => by cases h
  | n + 1, a1, a2, a3, a4, w => ss_mo_whoCan_5_b  _ (ss_mo_whoCan_5_f  n) a1 a2 a3 a4 w
set_option maxHeartbeats 4000000 in
set_option maxRecDepth 100000 in
theorem ss_mo_whoCan_5 {E : Nat × (Nat → Int32)}  (a1 : Int32) (a2 : Int32) (a3 : Int32) (a4 : Int32) (w : sm_Mem) : sm_Sim E (mi_mo_whoCan) 5 [some (.ref 62), some (.int a1), some (.int a2), some (.int a3), some (.int a4)] [] w (ff_mo_whoCan_5  a1 a2 a3 a4 w) := ss_mo_whoCan_5_f  sm_N a1 a2 a3 a4 w
noncomputable def ff_mo_whoCan  (a1 : Int32) (a2 : Int32) (w : sm_Mem) : sm_R := ff_mo_whoCan_5 (a1) (a2) ((0 : Int32)) ((0 : Int32)) w
set_option maxHeartbeats 4000000 in
set_option maxRecDepth 100000 in
theorem ss_mo_whoCan_0 {E : Nat × (Nat → Int32)}  (a1 : Int32) (a2 : Int32) (w : sm_Mem) : sm_Sim E (mi_mo_whoCan) 0 [some (.ref 62), some (.int a1), some (.int a2), none, none] [] w (ff_mo_whoCan  a1 a2 w) := by
  unfold ff_mo_whoCan
  refine sm_iconst (0 : Int32) ii_mo_whoCan_0 (by decide) ?_
  refine sm_istore_n [some (.ref 62), some (.int a1), some (.int a2), some (.int (0 : Int32)), none] ii_mo_whoCan_1 rfl rfl ?_
  refine sm_iconst (0 : Int32) ii_mo_whoCan_2 (by decide) ?_
  refine sm_istore [some (.ref 62), some (.int a1), some (.int a2), some (.int (0 : Int32)), some (.int (0 : Int32))] ii_mo_whoCan_3 rfl rfl ?_
  exact ss_mo_whoCan_5 (a1) (a2) ((0 : Int32)) ((0 : Int32)) w
set_option maxHeartbeats 4000000 in
set_option maxRecDepth 100000 in
theorem mc_mo_whoCan (a1 : Int32) (a2 : Int32) (w : sm_Mem) : sm_MC mi_mo_whoCan [.ref 62, .int a1, .int a2] w (ff_mo_whoCan a1 a2 w) := sm_MC_of (0, fun _ => 0) (by decide +kernel) (by decide) rfl (Nat.le_of_ble_eq_true rfl) (ss_mo_whoCan_0 a1 a2 w)
abbrev mi_mo_who : sm_MI := (⟨"HerOrdersModel", "who", "(I)I"⟩, prog_9_method_57_code, 2, (some .int), 5)
set_option maxRecDepth 100000 in
theorem mf_mo_who : sm_MF mi_mo_who 1 := ⟨List.mem_of_getElem? (i := 1243) (by decide +kernel), List.mem_of_getElem? (i := 132) (by decide +kernel), ⟨by decide, by decide⟩, by decide +kernel⟩
set_option maxRecDepth 100000 in
theorem mv_mo_who : sm_MFV mi_mo_who := ⟨List.mem_of_getElem? (i := 1241) (by decide +kernel), List.mem_of_getElem? (i := 1242) (by decide +kernel)⟩
set_option maxRecDepth 100000 in
theorem ii_mo_who_0 : sm_D prog_9_method_57_code 0 1 1 (.iload_n 1) := ⟨by decide +kernel, rfl⟩
set_option maxRecDepth 100000 in
theorem ii_mo_who_1 : sm_D prog_9_method_57_code 1 3 4 (.invokestatic 184) := ⟨by decide +kernel, rfl⟩
set_option maxRecDepth 100000 in
theorem ii_mo_who_4 : sm_D prog_9_method_57_code 4 3 7 (.ifCond .eq 12) := ⟨by decide +kernel, rfl⟩
set_option maxRecDepth 100000 in
theorem ii_mo_who_7 : sm_D prog_9_method_57_code 7 1 8 (.aload_n 0) := ⟨by decide +kernel, rfl⟩
set_option maxRecDepth 100000 in
theorem ii_mo_who_8 : sm_D prog_9_method_57_code 8 1 9 (.iconst 0) := ⟨by decide +kernel, rfl⟩
set_option maxRecDepth 100000 in
theorem ii_mo_who_9 : sm_D prog_9_method_57_code 9 1 10 (.iload_n 1) := ⟨by decide +kernel, rfl⟩
set_option maxRecDepth 100000 in
theorem ii_mo_who_10 : sm_D prog_9_method_57_code 10 3 13 (.invokevirtual 205) := ⟨by decide +kernel, rfl⟩
set_option maxRecDepth 100000 in
theorem ii_mo_who_13 : sm_D prog_9_method_57_code 13 3 16 (.goto 4) := ⟨by decide +kernel, rfl⟩
set_option maxRecDepth 100000 in
theorem ii_mo_who_16 : sm_D prog_9_method_57_code 16 1 17 (.iconst (-1)) := ⟨by decide +kernel, rfl⟩
set_option maxRecDepth 100000 in
theorem ii_mo_who_17 : sm_D prog_9_method_57_code 17 1 18 (.ireturn) := ⟨by decide +kernel, rfl⟩
noncomputable def ff_mo_who  (a1 : Int32) (w : sm_Mem) : sm_R := (sm_cI (ff_mo_isWord (a1) w) fun x1 w2 => (if x1 = (0 : Int32) then (some (.int (-1 : Int32), w2)) else (sm_cI (ff_mo_whoCan ((0 : Int32)) (a1) w2) fun x3 w4 => (some (.int x3, w4)))))
set_option maxHeartbeats 4000000 in
set_option maxRecDepth 100000 in
theorem ss_mo_who_0 {E : Nat × (Nat → Int32)}  (a1 : Int32) (w : sm_Mem) : sm_Sim E (mi_mo_who) 0 [some (.ref 62), some (.int a1)] [] w (ff_mo_who  a1 w) := by
  unfold ff_mo_who
  refine sm_iload_n ii_mo_who_0 rfl ?_
  refine sm_csI [.int a1] [] rfl ii_mo_who_1 ml_mo_184 (mf_mo_isWord) (mv_mo_isWord) (Nat.le_of_ble_eq_true rfl) rfl rfl rfl (mc_mo_isWord (a1) w) (fun x1 w2 => ?_)
  refine sm_if_eq 16 ii_mo_who_4 (by decide) ?_ ?_
  · refine sm_iconst (-1 : Int32) ii_mo_who_16 (by decide) ?_
    exact sm_iret ii_mo_who_17 rfl
  · refine sm_aload_n ii_mo_who_7 rfl ?_
    refine sm_iconst (0 : Int32) ii_mo_who_8 (by decide) ?_
    refine sm_iload_n ii_mo_who_9 rfl ?_
    refine sm_cvI [.int (0 : Int32), .int a1] [] rfl ii_mo_who_10 ml_mo_205 (mf_mo_whoCan) (mv_mo_whoCan) (Nat.le_of_ble_eq_true rfl) rfl 7 rfl rfl rfl rfl (mc_mo_whoCan ((0 : Int32)) (a1) w2) (fun x3 w4 => ?_)
    refine sm_goto 17 ii_mo_who_13 (by decide) ?_
    exact sm_iret ii_mo_who_17 rfl
set_option maxHeartbeats 4000000 in
set_option maxRecDepth 100000 in
theorem mc_mo_who (a1 : Int32) (w : sm_Mem) : sm_MC mi_mo_who [.ref 62, .int a1] w (ff_mo_who a1 w) := sm_MC_of (0, fun _ => 0) (by decide +kernel) (by decide) rfl (Nat.le_of_ble_eq_true rfl) (ss_mo_who_0 a1 w)
abbrev mi_ho_what : sm_MI := (⟨"HerOrders", "what", "(I)I"⟩, prog_1_method_22_code, 2, (some .int), 4)
set_option maxRecDepth 100000 in
theorem mf_ho_what : sm_MF mi_ho_what 1 := ⟨List.mem_of_getElem? (i := 620) (by decide +kernel), List.mem_of_getElem? (i := 124) (by decide +kernel), ⟨by decide, by decide⟩, by decide +kernel⟩
set_option maxRecDepth 100000 in
theorem mv_ho_what : sm_MFV mi_ho_what := ⟨List.mem_of_getElem? (i := 618) (by decide +kernel), List.mem_of_getElem? (i := 619) (by decide +kernel)⟩
set_option maxRecDepth 100000 in
theorem ii_ho_what_0 : sm_D prog_1_method_22_code 0 1 1 (.aload_n 0) := ⟨by decide +kernel, rfl⟩
set_option maxRecDepth 100000 in
theorem ii_ho_what_1 : sm_D prog_1_method_22_code 1 1 2 (.iload_n 1) := ⟨by decide +kernel, rfl⟩
set_option maxRecDepth 100000 in
theorem ii_ho_what_2 : sm_D prog_1_method_22_code 2 3 5 (.invokevirtual 118) := ⟨by decide +kernel, rfl⟩
set_option maxRecDepth 100000 in
theorem ii_ho_what_5 : sm_D prog_1_method_22_code 5 3 8 (.ifCond .eq 14) := ⟨by decide +kernel, rfl⟩
set_option maxRecDepth 100000 in
theorem ii_ho_what_8 : sm_D prog_1_method_22_code 8 1 9 (.aload_n 0) := ⟨by decide +kernel, rfl⟩
set_option maxRecDepth 100000 in
theorem ii_ho_what_9 : sm_D prog_1_method_22_code 9 3 12 (.getfield 31) := ⟨by decide +kernel, rfl⟩
set_option maxRecDepth 100000 in
theorem ii_ho_what_12 : sm_D prog_1_method_22_code 12 1 13 (.iload_n 1) := ⟨by decide +kernel, rfl⟩
set_option maxRecDepth 100000 in
theorem ii_ho_what_13 : sm_D prog_1_method_22_code 13 3 16 (.invokevirtual 183) := ⟨by decide +kernel, rfl⟩
set_option maxRecDepth 100000 in
theorem ii_ho_what_16 : sm_D prog_1_method_22_code 16 3 19 (.goto 4) := ⟨by decide +kernel, rfl⟩
set_option maxRecDepth 100000 in
theorem ii_ho_what_19 : sm_D prog_1_method_22_code 19 1 20 (.iconst (-1)) := ⟨by decide +kernel, rfl⟩
set_option maxRecDepth 100000 in
theorem ii_ho_what_20 : sm_D prog_1_method_22_code 20 1 21 (.ireturn) := ⟨by decide +kernel, rfl⟩
noncomputable def ff_ho_what  (a1 : Int32) (w : sm_Mem) : sm_R := (sm_cI (ff_ho_isSpeaker (a1) w) fun x1 w2 => (if x1 = (0 : Int32) then (some (.int (-1 : Int32), w2)) else (sm_cI (ff_hs_sayable (a1) w2) fun x3 w4 => (some (.int x3, w4)))))
set_option maxHeartbeats 4000000 in
set_option maxRecDepth 100000 in
theorem ss_ho_what_0 {E : Nat × (Nat → Int32)}  (a1 : Int32) (w : sm_Mem) : sm_Sim E (mi_ho_what) 0 [some (.ref 0), some (.int a1)] [] w (ff_ho_what  a1 w) := by
  unfold ff_ho_what
  refine sm_aload_n ii_ho_what_0 rfl ?_
  refine sm_iload_n ii_ho_what_1 rfl ?_
  refine sm_cvI [.int a1] [] rfl ii_ho_what_2 ml_ho_118 (mf_ho_isSpeaker) (mv_ho_isSpeaker) (Nat.le_of_ble_eq_true rfl) rfl 6 rfl rfl rfl rfl (mc_ho_isSpeaker (a1) w) (fun x1 w2 => ?_)
  refine sm_if_eq 19 ii_ho_what_5 (by decide) ?_ ?_
  · refine sm_iconst (-1 : Int32) ii_ho_what_19 (by decide) ?_
    exact sm_iret ii_ho_what_20 rfl
  · refine sm_aload_n ii_ho_what_8 rfl ?_
    refine sm_getR 36 ii_ho_what_9 fl_ho_31 (k := 0) rfl ?_
    refine sm_iload_n ii_ho_what_12 rfl ?_
    refine sm_cvI [.int a1] [] rfl ii_ho_what_13 ml_ho_183 (mf_hs_sayable) (mv_hs_sayable) (Nat.le_of_ble_eq_true rfl) rfl 1 rfl rfl rfl rfl (mc_hs_sayable (a1) w2) (fun x3 w4 => ?_)
    refine sm_goto 20 ii_ho_what_16 (by decide) ?_
    exact sm_iret ii_ho_what_20 rfl
set_option maxHeartbeats 4000000 in
set_option maxRecDepth 100000 in
theorem mc_ho_what (a1 : Int32) (w : sm_Mem) : sm_MC mi_ho_what [.ref 0, .int a1] w (ff_ho_what a1 w) := sm_MC_of (0, fun _ => 0) (by decide +kernel) (by decide) rfl (Nat.le_of_ble_eq_true rfl) (ss_ho_what_0 a1 w)
abbrev mi_mo_what : sm_MI := (⟨"HerOrdersModel", "what", "(I)I"⟩, prog_9_method_58_code, 2, (some .int), 5)
set_option maxRecDepth 100000 in
theorem mf_mo_what : sm_MF mi_mo_what 1 := ⟨List.mem_of_getElem? (i := 1251) (by decide +kernel), List.mem_of_getElem? (i := 132) (by decide +kernel), ⟨by decide, by decide⟩, by decide +kernel⟩
set_option maxRecDepth 100000 in
theorem mv_mo_what : sm_MFV mi_mo_what := ⟨List.mem_of_getElem? (i := 1249) (by decide +kernel), List.mem_of_getElem? (i := 1250) (by decide +kernel)⟩
set_option maxRecDepth 100000 in
theorem ii_mo_what_0 : sm_D prog_9_method_58_code 0 1 1 (.aload_n 0) := ⟨by decide +kernel, rfl⟩
set_option maxRecDepth 100000 in
theorem ii_mo_what_1 : sm_D prog_9_method_58_code 1 1 2 (.iload_n 1) := ⟨by decide +kernel, rfl⟩
set_option maxRecDepth 100000 in
theorem ii_mo_what_2 : sm_D prog_9_method_58_code 2 3 5 (.invokevirtual 160) := ⟨by decide +kernel, rfl⟩
set_option maxRecDepth 100000 in
theorem ii_mo_what_5 : sm_D prog_9_method_58_code 5 3 8 (.ifCond .eq 12) := ⟨by decide +kernel, rfl⟩
set_option maxRecDepth 100000 in
theorem ii_mo_what_8 : sm_D prog_9_method_58_code 8 1 9 (.aload_n 0) := ⟨by decide +kernel, rfl⟩
set_option maxRecDepth 100000 in
theorem ii_mo_what_9 : sm_D prog_9_method_58_code 9 1 10 (.iconst 0) := ⟨by decide +kernel, rfl⟩
set_option maxRecDepth 100000 in
theorem ii_mo_what_10 : sm_D prog_9_method_58_code 10 1 11 (.iload_n 1) := ⟨by decide +kernel, rfl⟩
set_option maxRecDepth 100000 in
theorem ii_mo_what_11 : sm_D prog_9_method_58_code 11 3 14 (.invokevirtual 166) := ⟨by decide +kernel, rfl⟩
set_option maxRecDepth 100000 in
theorem ii_mo_what_14 : sm_D prog_9_method_58_code 14 3 17 (.goto 4) := ⟨by decide +kernel, rfl⟩
set_option maxRecDepth 100000 in
theorem ii_mo_what_17 : sm_D prog_9_method_58_code 17 1 18 (.iconst (-1)) := ⟨by decide +kernel, rfl⟩
set_option maxRecDepth 100000 in
theorem ii_mo_what_18 : sm_D prog_9_method_58_code 18 1 19 (.ireturn) := ⟨by decide +kernel, rfl⟩
noncomputable def ff_mo_what  (a1 : Int32) (w : sm_Mem) : sm_R := (sm_cI (ff_mo_isSpeaker (a1) w) fun x1 w2 => (if x1 = (0 : Int32) then (some (.int (-1 : Int32), w2)) else (sm_cI (ff_mo_whatCan ((0 : Int32)) (a1) w2) fun x3 w4 => (some (.int x3, w4)))))
set_option maxHeartbeats 4000000 in
set_option maxRecDepth 100000 in
theorem ss_mo_what_0 {E : Nat × (Nat → Int32)}  (a1 : Int32) (w : sm_Mem) : sm_Sim E (mi_mo_what) 0 [some (.ref 62), some (.int a1)] [] w (ff_mo_what  a1 w) := by
  unfold ff_mo_what
  refine sm_aload_n ii_mo_what_0 rfl ?_
  refine sm_iload_n ii_mo_what_1 rfl ?_
  refine sm_cvI [.int a1] [] rfl ii_mo_what_2 ml_mo_160 (mf_mo_isSpeaker) (mv_mo_isSpeaker) (Nat.le_of_ble_eq_true rfl) rfl 7 rfl rfl rfl rfl (mc_mo_isSpeaker (a1) w) (fun x1 w2 => ?_)
  refine sm_if_eq 17 ii_mo_what_5 (by decide) ?_ ?_
  · refine sm_iconst (-1 : Int32) ii_mo_what_17 (by decide) ?_
    exact sm_iret ii_mo_what_18 rfl
  · refine sm_aload_n ii_mo_what_8 rfl ?_
    refine sm_iconst (0 : Int32) ii_mo_what_9 (by decide) ?_
    refine sm_iload_n ii_mo_what_10 rfl ?_
    refine sm_cvI [.int (0 : Int32), .int a1] [] rfl ii_mo_what_11 ml_mo_166 (mf_mo_whatCan) (mv_mo_whatCan) (Nat.le_of_ble_eq_true rfl) rfl 7 rfl rfl rfl rfl (mc_mo_whatCan ((0 : Int32)) (a1) w2) (fun x3 w4 => ?_)
    refine sm_goto 18 ii_mo_what_14 (by decide) ?_
    exact sm_iret ii_mo_what_18 rfl
set_option maxHeartbeats 4000000 in
set_option maxRecDepth 100000 in
theorem mc_mo_what (a1 : Int32) (w : sm_Mem) : sm_MC mi_mo_what [.ref 62, .int a1] w (ff_mo_what a1 w) := sm_MC_of (0, fun _ => 0) (by decide +kernel) (by decide) rfl (Nat.le_of_ble_eq_true rfl) (ss_mo_what_0 a1 w)
abbrev mi_ho_said : sm_MI := (⟨"HerOrders", "said", "(I)I"⟩, prog_1_method_23_code, 2, (some .int), 2)
set_option maxRecDepth 100000 in
theorem mf_ho_said : sm_MF mi_ho_said 1 := ⟨List.mem_of_getElem? (i := 625) (by decide +kernel), List.mem_of_getElem? (i := 124) (by decide +kernel), ⟨by decide, by decide⟩, by decide +kernel⟩
set_option maxRecDepth 100000 in
theorem mv_ho_said : sm_MFV mi_ho_said := ⟨List.mem_of_getElem? (i := 623) (by decide +kernel), List.mem_of_getElem? (i := 624) (by decide +kernel)⟩
set_option maxRecDepth 100000 in
theorem ii_ho_said_0 : sm_D prog_1_method_23_code 0 1 1 (.iload_n 1) := ⟨by decide +kernel, rfl⟩
set_option maxRecDepth 100000 in
theorem ii_ho_said_1 : sm_D prog_1_method_23_code 1 1 2 (.aload_n 0) := ⟨by decide +kernel, rfl⟩
set_option maxRecDepth 100000 in
theorem ii_ho_said_2 : sm_D prog_1_method_23_code 2 3 5 (.getfield 31) := ⟨by decide +kernel, rfl⟩
set_option maxRecDepth 100000 in
theorem ii_ho_said_5 : sm_D prog_1_method_23_code 5 3 8 (.getfield 162) := ⟨by decide +kernel, rfl⟩
set_option maxRecDepth 100000 in
theorem ii_ho_said_8 : sm_D prog_1_method_23_code 8 3 11 (.invokestatic 81) := ⟨by decide +kernel, rfl⟩
set_option maxRecDepth 100000 in
theorem ii_ho_said_11 : sm_D prog_1_method_23_code 11 3 14 (.ifCond .ne 5) := ⟨by decide +kernel, rfl⟩
set_option maxRecDepth 100000 in
theorem ii_ho_said_14 : sm_D prog_1_method_23_code 14 1 15 (.iconst (-1)) := ⟨by decide +kernel, rfl⟩
set_option maxRecDepth 100000 in
theorem ii_ho_said_15 : sm_D prog_1_method_23_code 15 1 16 (.ireturn) := ⟨by decide +kernel, rfl⟩
set_option maxRecDepth 100000 in
theorem ii_ho_said_16 : sm_D prog_1_method_23_code 16 1 17 (.aload_n 0) := ⟨by decide +kernel, rfl⟩
set_option maxRecDepth 100000 in
theorem ii_ho_said_17 : sm_D prog_1_method_23_code 17 3 20 (.getfield 54) := ⟨by decide +kernel, rfl⟩
set_option maxRecDepth 100000 in
theorem ii_ho_said_20 : sm_D prog_1_method_23_code 20 1 21 (.aload_n 0) := ⟨by decide +kernel, rfl⟩
set_option maxRecDepth 100000 in
theorem ii_ho_said_21 : sm_D prog_1_method_23_code 21 3 24 (.getfield 31) := ⟨by decide +kernel, rfl⟩
set_option maxRecDepth 100000 in
theorem ii_ho_said_24 : sm_D prog_1_method_23_code 24 3 27 (.getfield 186) := ⟨by decide +kernel, rfl⟩
set_option maxRecDepth 100000 in
theorem ii_ho_said_27 : sm_D prog_1_method_23_code 27 1 28 (.iload_n 1) := ⟨by decide +kernel, rfl⟩
set_option maxRecDepth 100000 in
theorem ii_ho_said_28 : sm_D prog_1_method_23_code 28 1 29 (.iaload) := ⟨by decide +kernel, rfl⟩
set_option maxRecDepth 100000 in
theorem ii_ho_said_29 : sm_D prog_1_method_23_code 29 3 32 (.putfield 70) := ⟨by decide +kernel, rfl⟩
set_option maxRecDepth 100000 in
theorem ii_ho_said_32 : sm_D prog_1_method_23_code 32 1 33 (.aload_n 0) := ⟨by decide +kernel, rfl⟩
set_option maxRecDepth 100000 in
theorem ii_ho_said_33 : sm_D prog_1_method_23_code 33 3 36 (.getfield 31) := ⟨by decide +kernel, rfl⟩
set_option maxRecDepth 100000 in
theorem ii_ho_said_36 : sm_D prog_1_method_23_code 36 3 39 (.getfield 189) := ⟨by decide +kernel, rfl⟩
set_option maxRecDepth 100000 in
theorem ii_ho_said_39 : sm_D prog_1_method_23_code 39 1 40 (.iload_n 1) := ⟨by decide +kernel, rfl⟩
set_option maxRecDepth 100000 in
theorem ii_ho_said_40 : sm_D prog_1_method_23_code 40 1 41 (.iaload) := ⟨by decide +kernel, rfl⟩
set_option maxRecDepth 100000 in
theorem ii_ho_said_41 : sm_D prog_1_method_23_code 41 1 42 (.ireturn) := ⟨by decide +kernel, rfl⟩
noncomputable def ff_ho_said  (a1 : Int32) (w : sm_Mem) : sm_R := (sm_cI (ff_ho_isWithin (a1) ((w.1 36 11)) w) fun x1 w2 => (if x1 = (0 : Int32) then (some (.int (-1 : Int32), w2)) else (Option.bind (sm_rd w2 44 8 a1) fun x3 => (sm_let (sm_wI w2 60 0 x3) fun w4 => (Option.bind (sm_rd w4 43 8 a1) fun x5 => (some (.int x5, w4)))))))
set_option maxHeartbeats 4000000 in
set_option maxRecDepth 100000 in
theorem ss_ho_said_0 {E : Nat × (Nat → Int32)}  (a1 : Int32) (w : sm_Mem) : sm_Sim E (mi_ho_said) 0 [some (.ref 0), some (.int a1)] [] w (ff_ho_said  a1 w) := by
  unfold ff_ho_said
  refine sm_iload_n ii_ho_said_0 rfl ?_
  refine sm_aload_n ii_ho_said_1 rfl ?_
  refine sm_getR 36 ii_ho_said_2 fl_ho_31 (k := 0) rfl ?_
  refine sm_getI ii_ho_said_5 fl_ho_162 (k := 36) rfl ?_
  refine sm_csI [.int a1, .int (w.1 36 11)] [] rfl ii_ho_said_8 ml_ho_81 (mf_ho_isWithin) (mv_ho_isWithin) (Nat.le_of_ble_eq_true rfl) rfl rfl rfl (mc_ho_isWithin (a1) ((w.1 36 11)) w) (fun x1 w2 => ?_)
  refine sm_if_ne 16 ii_ho_said_11 (by decide) ?_ ?_
  · refine sm_iconst (-1 : Int32) ii_ho_said_14 (by decide) ?_
    exact sm_iret ii_ho_said_15 rfl
  · refine sm_aload_n ii_ho_said_16 rfl ?_
    refine sm_getR 60 ii_ho_said_17 fl_ho_54 (k := 0) rfl ?_
    refine sm_aload_n ii_ho_said_20 rfl ?_
    refine sm_getR 36 ii_ho_said_21 fl_ho_31 (k := 0) rfl ?_
    refine sm_getR 44 ii_ho_said_24 fl_ho_186 (k := 36) rfl ?_
    refine sm_iload_n ii_ho_said_27 rfl ?_
    refine sm_iald ii_ho_said_28 (k := 44) rfl (fun x3 => ?_)
    refine sm_putI ii_ho_said_29 fp_ho_70 (k := 60) rfl (fun w4 => ?_)
    refine sm_aload_n ii_ho_said_32 rfl ?_
    refine sm_getR 36 ii_ho_said_33 fl_ho_31 (k := 0) rfl ?_
    refine sm_getR 43 ii_ho_said_36 fl_ho_189 (k := 36) rfl ?_
    refine sm_iload_n ii_ho_said_39 rfl ?_
    refine sm_iald ii_ho_said_40 (k := 43) rfl (fun x5 => ?_)
    exact sm_iret ii_ho_said_41 rfl
set_option maxHeartbeats 4000000 in
set_option maxRecDepth 100000 in
theorem mc_ho_said (a1 : Int32) (w : sm_Mem) : sm_MC mi_ho_said [.ref 0, .int a1] w (ff_ho_said a1 w) := sm_MC_of (0, fun _ => 0) (by decide +kernel) (by decide) rfl (Nat.le_of_ble_eq_true rfl) (ss_ho_said_0 a1 w)
abbrev mi_mo_said : sm_MI := (⟨"HerOrdersModel", "said", "(I)I"⟩, prog_9_method_59_code, 2, (some .int), 2)
set_option maxRecDepth 100000 in
theorem mf_mo_said : sm_MF mi_mo_said 1 := ⟨List.mem_of_getElem? (i := 1255) (by decide +kernel), List.mem_of_getElem? (i := 132) (by decide +kernel), ⟨by decide, by decide⟩, by decide +kernel⟩
set_option maxRecDepth 100000 in
theorem mv_mo_said : sm_MFV mi_mo_said := ⟨List.mem_of_getElem? (i := 1253) (by decide +kernel), List.mem_of_getElem? (i := 1254) (by decide +kernel)⟩
set_option maxRecDepth 100000 in
theorem ii_mo_said_0 : sm_D prog_9_method_59_code 0 1 1 (.iload_n 1) := ⟨by decide +kernel, rfl⟩
set_option maxRecDepth 100000 in
theorem ii_mo_said_1 : sm_D prog_9_method_59_code 1 1 2 (.i2l) := ⟨by decide +kernel, rfl⟩
set_option maxRecDepth 100000 in
theorem ii_mo_said_2 : sm_D prog_9_method_59_code 2 1 3 (.lconst 0) := ⟨by decide +kernel, rfl⟩
set_option maxRecDepth 100000 in
theorem ii_mo_said_3 : sm_D prog_9_method_59_code 3 1 4 (.aload_n 0) := ⟨by decide +kernel, rfl⟩
set_option maxRecDepth 100000 in
theorem ii_mo_said_4 : sm_D prog_9_method_59_code 4 3 7 (.getfield 7) := ⟨by decide +kernel, rfl⟩
set_option maxRecDepth 100000 in
theorem ii_mo_said_7 : sm_D prog_9_method_59_code 7 1 8 (.iconst 2) := ⟨by decide +kernel, rfl⟩
set_option maxRecDepth 100000 in
theorem ii_mo_said_8 : sm_D prog_9_method_59_code 8 1 9 (.iaload) := ⟨by decide +kernel, rfl⟩
set_option maxRecDepth 100000 in
theorem ii_mo_said_9 : sm_D prog_9_method_59_code 9 1 10 (.iconst 1) := ⟨by decide +kernel, rfl⟩
set_option maxRecDepth 100000 in
theorem ii_mo_said_10 : sm_D prog_9_method_59_code 10 1 11 (.isub) := ⟨by decide +kernel, rfl⟩
set_option maxRecDepth 100000 in
theorem ii_mo_said_11 : sm_D prog_9_method_59_code 11 1 12 (.i2l) := ⟨by decide +kernel, rfl⟩
set_option maxRecDepth 100000 in
theorem ii_mo_said_12 : sm_D prog_9_method_59_code 12 3 15 (.invokestatic 71) := ⟨by decide +kernel, rfl⟩
set_option maxRecDepth 100000 in
theorem ii_mo_said_15 : sm_D prog_9_method_59_code 15 3 18 (.ifCond .ne 5) := ⟨by decide +kernel, rfl⟩
set_option maxRecDepth 100000 in
theorem ii_mo_said_18 : sm_D prog_9_method_59_code 18 1 19 (.iconst (-1)) := ⟨by decide +kernel, rfl⟩
set_option maxRecDepth 100000 in
theorem ii_mo_said_19 : sm_D prog_9_method_59_code 19 1 20 (.ireturn) := ⟨by decide +kernel, rfl⟩
set_option maxRecDepth 100000 in
theorem ii_mo_said_20 : sm_D prog_9_method_59_code 20 1 21 (.aload_n 0) := ⟨by decide +kernel, rfl⟩
set_option maxRecDepth 100000 in
theorem ii_mo_said_21 : sm_D prog_9_method_59_code 21 1 22 (.aload_n 0) := ⟨by decide +kernel, rfl⟩
set_option maxRecDepth 100000 in
theorem ii_mo_said_22 : sm_D prog_9_method_59_code 22 3 25 (.getfield 7) := ⟨by decide +kernel, rfl⟩
set_option maxRecDepth 100000 in
theorem ii_mo_said_25 : sm_D prog_9_method_59_code 25 2 27 (.bipush 12) := ⟨by decide +kernel, rfl⟩
set_option maxRecDepth 100000 in
theorem ii_mo_said_27 : sm_D prog_9_method_59_code 27 1 28 (.iload_n 1) := ⟨by decide +kernel, rfl⟩
set_option maxRecDepth 100000 in
theorem ii_mo_said_28 : sm_D prog_9_method_59_code 28 1 29 (.iadd) := ⟨by decide +kernel, rfl⟩
set_option maxRecDepth 100000 in
theorem ii_mo_said_29 : sm_D prog_9_method_59_code 29 1 30 (.iaload) := ⟨by decide +kernel, rfl⟩
set_option maxRecDepth 100000 in
theorem ii_mo_said_30 : sm_D prog_9_method_59_code 30 3 33 (.putfield 66) := ⟨by decide +kernel, rfl⟩
set_option maxRecDepth 100000 in
theorem ii_mo_said_33 : sm_D prog_9_method_59_code 33 1 34 (.aload_n 0) := ⟨by decide +kernel, rfl⟩
set_option maxRecDepth 100000 in
theorem ii_mo_said_34 : sm_D prog_9_method_59_code 34 3 37 (.getfield 7) := ⟨by decide +kernel, rfl⟩
set_option maxRecDepth 100000 in
theorem ii_mo_said_37 : sm_D prog_9_method_59_code 37 1 38 (.iconst 4) := ⟨by decide +kernel, rfl⟩
set_option maxRecDepth 100000 in
theorem ii_mo_said_38 : sm_D prog_9_method_59_code 38 1 39 (.iload_n 1) := ⟨by decide +kernel, rfl⟩
set_option maxRecDepth 100000 in
theorem ii_mo_said_39 : sm_D prog_9_method_59_code 39 1 40 (.iadd) := ⟨by decide +kernel, rfl⟩
set_option maxRecDepth 100000 in
theorem ii_mo_said_40 : sm_D prog_9_method_59_code 40 1 41 (.iaload) := ⟨by decide +kernel, rfl⟩
set_option maxRecDepth 100000 in
theorem ii_mo_said_41 : sm_D prog_9_method_59_code 41 1 42 (.ireturn) := ⟨by decide +kernel, rfl⟩
noncomputable def ff_mo_said  (a1 : Int32) (w : sm_Mem) : sm_R := (Option.bind (sm_rd w 63 5184 (2 : Int32)) fun x1 => (sm_cI (ff_mo_in ((Int32.toInt64 a1)) ((0 : Int64)) ((Int32.toInt64 (x1 - (1 : Int32)))) w) fun x2 w3 => (if x2 = (0 : Int32) then (some (.int (-1 : Int32), w3)) else (Option.bind (sm_rd w3 63 5184 ((12 : Int32) + a1)) fun x4 => (sm_let (sm_wI w3 62 9 x4) fun w5 => (Option.bind (sm_rd w5 63 5184 ((4 : Int32) + a1)) fun x6 => (some (.int x6, w5))))))))
set_option maxHeartbeats 4000000 in
set_option maxRecDepth 100000 in
theorem ss_mo_said_0 {E : Nat × (Nat → Int32)}  (a1 : Int32) (w : sm_Mem) : sm_Sim E (mi_mo_said) 0 [some (.ref 62), some (.int a1)] [] w (ff_mo_said  a1 w) := by
  unfold ff_mo_said
  refine sm_iload_n ii_mo_said_0 rfl ?_
  refine sm_i2l ii_mo_said_1 ?_
  refine sm_lconst (0 : Int64) ii_mo_said_2 (by decide) ?_
  refine sm_aload_n ii_mo_said_3 rfl ?_
  refine sm_getR 63 ii_mo_said_4 fl_mo_7 (k := 62) rfl ?_
  refine sm_iconst (2 : Int32) ii_mo_said_7 (by decide) ?_
  refine sm_iald ii_mo_said_8 (k := 63) rfl (fun x1 => ?_)
  refine sm_iconst (1 : Int32) ii_mo_said_9 (by decide) ?_
  refine sm_isub ii_mo_said_10 ?_
  refine sm_i2l ii_mo_said_11 ?_
  refine sm_csI [.long (Int32.toInt64 a1), .long (0 : Int64), .long (Int32.toInt64 (x1 - (1 : Int32)))] [] rfl ii_mo_said_12 ml_mo_71 (mf_mo_in) (mv_mo_in) (Nat.le_of_ble_eq_true rfl) rfl rfl rfl (mc_mo_in ((Int32.toInt64 a1)) ((0 : Int64)) ((Int32.toInt64 (x1 - (1 : Int32)))) w) (fun x2 w3 => ?_)
  refine sm_if_ne 20 ii_mo_said_15 (by decide) ?_ ?_
  · refine sm_iconst (-1 : Int32) ii_mo_said_18 (by decide) ?_
    exact sm_iret ii_mo_said_19 rfl
  · refine sm_aload_n ii_mo_said_20 rfl ?_
    refine sm_aload_n ii_mo_said_21 rfl ?_
    refine sm_getR 63 ii_mo_said_22 fl_mo_7 (k := 62) rfl ?_
    refine sm_bipush (12 : Int32) ii_mo_said_25 (by decide) ?_
    refine sm_iload_n ii_mo_said_27 rfl ?_
    refine sm_iadd ii_mo_said_28 ?_
    refine sm_iald ii_mo_said_29 (k := 63) rfl (fun x4 => ?_)
    refine sm_putI ii_mo_said_30 fp_mo_66 (k := 62) rfl (fun w5 => ?_)
    refine sm_aload_n ii_mo_said_33 rfl ?_
    refine sm_getR 63 ii_mo_said_34 fl_mo_7 (k := 62) rfl ?_
    refine sm_iconst (4 : Int32) ii_mo_said_37 (by decide) ?_
    refine sm_iload_n ii_mo_said_38 rfl ?_
    refine sm_iadd ii_mo_said_39 ?_
    refine sm_iald ii_mo_said_40 (k := 63) rfl (fun x6 => ?_)
    exact sm_iret ii_mo_said_41 rfl
set_option maxHeartbeats 4000000 in
set_option maxRecDepth 100000 in
theorem mc_mo_said (a1 : Int32) (w : sm_Mem) : sm_MC mi_mo_said [.ref 62, .int a1] w (ff_mo_said a1 w) := sm_MC_of (0, fun _ => 0) (by decide +kernel) (by decide) rfl (Nat.le_of_ble_eq_true rfl) (ss_mo_said_0 a1 w)
abbrev mi_rw_isOfWords : sm_MI := (⟨"HerOrders$Row", "isOfWords", "()Z"⟩, prog_4_method_7_code, 2, (some .boolean), 2)
set_option maxRecDepth 100000 in
theorem mf_rw_isOfWords : sm_MF mi_rw_isOfWords 0 := ⟨List.mem_of_getElem? (i := 637) (by decide +kernel), List.mem_of_getElem? (i := 125) (by decide +kernel), ⟨by decide, by decide⟩, by decide +kernel⟩
set_option maxRecDepth 100000 in
theorem mv_rw_isOfWords : sm_MFV mi_rw_isOfWords := ⟨List.mem_of_getElem? (i := 636) (by decide +kernel), List.mem_of_getElem? (i := 29) (by decide +kernel)⟩
set_option maxRecDepth 100000 in
theorem ii_rw_isOfWords_0 : sm_D prog_4_method_7_code 0 1 1 (.iconst 0) := ⟨by decide +kernel, rfl⟩
set_option maxRecDepth 100000 in
theorem ii_rw_isOfWords_1 : sm_D prog_4_method_7_code 1 1 2 (.istore_n 1) := ⟨by decide +kernel, rfl⟩
set_option maxRecDepth 100000 in
theorem ii_rw_isOfWords_2 : sm_D prog_4_method_7_code 2 1 3 (.iload_n 1) := ⟨by decide +kernel, rfl⟩
set_option maxRecDepth 100000 in
theorem ii_rw_isOfWords_3 : sm_D prog_4_method_7_code 3 1 4 (.aload_n 0) := ⟨by decide +kernel, rfl⟩
set_option maxRecDepth 100000 in
theorem ii_rw_isOfWords_4 : sm_D prog_4_method_7_code 4 3 7 (.getfield 21) := ⟨by decide +kernel, rfl⟩
set_option maxRecDepth 100000 in
theorem ii_rw_isOfWords_7 : sm_D prog_4_method_7_code 7 3 10 (.if_icmp .ge 25) := ⟨by decide +kernel, rfl⟩
set_option maxRecDepth 100000 in
theorem ii_rw_isOfWords_10 : sm_D prog_4_method_7_code 10 1 11 (.aload_n 0) := ⟨by decide +kernel, rfl⟩
set_option maxRecDepth 100000 in
theorem ii_rw_isOfWords_11 : sm_D prog_4_method_7_code 11 3 14 (.getfield 15) := ⟨by decide +kernel, rfl⟩
set_option maxRecDepth 100000 in
theorem ii_rw_isOfWords_14 : sm_D prog_4_method_7_code 14 1 15 (.iload_n 1) := ⟨by decide +kernel, rfl⟩
set_option maxRecDepth 100000 in
theorem ii_rw_isOfWords_15 : sm_D prog_4_method_7_code 15 1 16 (.iaload) := ⟨by decide +kernel, rfl⟩
set_option maxRecDepth 100000 in
theorem ii_rw_isOfWords_16 : sm_D prog_4_method_7_code 16 2 18 (.bipush 6) := ⟨by decide +kernel, rfl⟩
set_option maxRecDepth 100000 in
theorem ii_rw_isOfWords_18 : sm_D prog_4_method_7_code 18 3 21 (.invokestatic 32) := ⟨by decide +kernel, rfl⟩
set_option maxRecDepth 100000 in
theorem ii_rw_isOfWords_21 : sm_D prog_4_method_7_code 21 3 24 (.ifCond .ne 5) := ⟨by decide +kernel, rfl⟩
set_option maxRecDepth 100000 in
theorem ii_rw_isOfWords_24 : sm_D prog_4_method_7_code 24 1 25 (.iconst 0) := ⟨by decide +kernel, rfl⟩
set_option maxRecDepth 100000 in
theorem ii_rw_isOfWords_25 : sm_D prog_4_method_7_code 25 1 26 (.ireturn) := ⟨by decide +kernel, rfl⟩
set_option maxRecDepth 100000 in
theorem ii_rw_isOfWords_26 : sm_D prog_4_method_7_code 26 3 29 (.iinc 1 1) := ⟨by decide +kernel, rfl⟩
set_option maxRecDepth 100000 in
theorem ii_rw_isOfWords_29 : sm_D prog_4_method_7_code 29 3 32 (.goto (-27)) := ⟨by decide +kernel, rfl⟩
set_option maxRecDepth 100000 in
theorem ii_rw_isOfWords_32 : sm_D prog_4_method_7_code 32 1 33 (.iconst 1) := ⟨by decide +kernel, rfl⟩
set_option maxRecDepth 100000 in
theorem ii_rw_isOfWords_33 : sm_D prog_4_method_7_code 33 1 34 (.ireturn) := ⟨by decide +kernel, rfl⟩
noncomputable def ff_rw_isOfWords_2_b  (self2 : Nat → Int32 → sm_Mem → sm_R) (a0 : Nat) (a1 : Int32) (w : sm_Mem) : sm_R := (Option.bind (sm_gI w a0 2 1) fun x1 => (if x1 ≤ a1 then (some (.int (1 : Int32), w)) else (Option.bind (sm_fk a0 2 0 2) fun r2 => (Option.bind (sm_rds w r2 a1) fun x3 => (sm_cI (ff_ho_isWithin (x3) ((6 : Int32)) w) fun x4 w5 => (if x4 = (0 : Int32) then (some (.int (0 : Int32), w5)) else self2 (a0) ((a1 + (1 : Int32))) w5))))))
noncomputable def ff_rw_isOfWords_2_f  : Nat → Nat → Int32 → sm_Mem → sm_R
  | 0, _, _, _ => none
  | n + 1, a0, a1, w => ff_rw_isOfWords_2_b  (ff_rw_isOfWords_2_f  n) a0 a1 w
noncomputable def ff_rw_isOfWords_2  (a0 : Nat) (a1 : Int32) (w : sm_Mem) : sm_R := ff_rw_isOfWords_2_f  sm_N a0 a1 w
set_option maxHeartbeats 4000000 in
set_option maxRecDepth 100000 in
theorem ss_rw_isOfWords_2_b {E : Nat × (Nat → Int32)}  (self2 : Nat → Int32 → sm_Mem → sm_R) (hself2 : ∀ (a0 : Nat) (a1 : Int32) (w : sm_Mem), sm_Sim E (mi_rw_isOfWords) 2 [some (.ref a0), some (.int a1)] [] w (self2 a0 a1 w)) (a0 : Nat) (a1 : Int32) (w : sm_Mem) : sm_Sim E (mi_rw_isOfWords) 2 [some (.ref a0), some (.int a1)] [] w (ff_rw_isOfWords_2_b  self2 a0 a1 w) := by
  unfold ff_rw_isOfWords_2_b
  refine sm_iload_n ii_rw_isOfWords_2 rfl ?_
  refine sm_aload_n ii_rw_isOfWords_3 rfl ?_
  refine sm_getIs ii_rw_isOfWords_4 fl_rw_21 (fun x1 => ?_)
  refine sm_icmp_ge 32 ii_rw_isOfWords_7 (by decide) ?_ ?_
  · refine sm_iconst (1 : Int32) ii_rw_isOfWords_32 (by decide) ?_
    exact sm_zret1 ii_rw_isOfWords_33 rfl (by decide)
  · refine sm_aload_n ii_rw_isOfWords_10 rfl ?_
    refine sm_getRs ii_rw_isOfWords_11 fl_rw_15 (fun r2 => ?_)
    refine sm_iload_n ii_rw_isOfWords_14 rfl ?_
    refine sm_ialds ii_rw_isOfWords_15 (fun x3 => ?_)
    refine sm_bipush (6 : Int32) ii_rw_isOfWords_16 (by decide) ?_
    refine sm_csI [.int x3, .int (6 : Int32)] [] rfl ii_rw_isOfWords_18 ml_rw_32 (mf_ho_isWithin) (mv_ho_isWithin) (Nat.le_of_ble_eq_true rfl) rfl rfl rfl (mc_ho_isWithin (x3) ((6 : Int32)) w) (fun x4 w5 => ?_)
    refine sm_if_ne 26 ii_rw_isOfWords_21 (by decide) ?_ ?_
    · refine sm_iconst (0 : Int32) ii_rw_isOfWords_24 (by decide) ?_
      exact sm_zret1 ii_rw_isOfWords_25 rfl (by decide)
    · refine sm_iinc (a1 + (1 : Int32)) [some (.ref a0), some (.int (a1 + (1 : Int32)))] ii_rw_isOfWords_26 rfl rfl rfl rfl ?_
      refine sm_goto 2 ii_rw_isOfWords_29 (by decide) ?_
      exact hself2 (a0) ((a1 + (1 : Int32))) w5
set_option maxHeartbeats 4000000 in
set_option maxRecDepth 100000 in
theorem ss_rw_isOfWords_2_f {E : Nat × (Nat → Int32)}  : ∀ (n : Nat) (a0 : Nat) (a1 : Int32) (w : sm_Mem), sm_Sim E (mi_rw_isOfWords) 2 [some (.ref a0), some (.int a1)] [] w (ff_rw_isOfWords_2_f  n a0 a1 w)
  | 0, _, _, _ => fun _ _ h => by cases h
  | n + 1, a0, a1, w => ss_rw_isOfWords_2_b  _ (ss_rw_isOfWords_2_f  n) a0 a1 w
set_option maxHeartbeats 4000000 in
set_option maxRecDepth 100000 in
theorem ss_rw_isOfWords_2 {E : Nat × (Nat → Int32)}  (a0 : Nat) (a1 : Int32) (w : sm_Mem) : sm_Sim E (mi_rw_isOfWords) 2 [some (.ref a0), some (.int a1)] [] w (ff_rw_isOfWords_2  a0 a1 w) := ss_rw_isOfWords_2_f  sm_N a0 a1 w
noncomputable def ff_rw_isOfWords  (a0 : Nat) (w : sm_Mem) : sm_R := ff_rw_isOfWords_2 (a0) ((0 : Int32)) w
set_option maxHeartbeats 4000000 in
set_option maxRecDepth 100000 in
theorem ss_rw_isOfWords_0 {E : Nat × (Nat → Int32)}  (a0 : Nat) (w : sm_Mem) : sm_Sim E (mi_rw_isOfWords) 0 [some (.ref a0), none] [] w (ff_rw_isOfWords  a0 w) := by
  unfold ff_rw_isOfWords
  refine sm_iconst (0 : Int32) ii_rw_isOfWords_0 (by decide) ?_
  refine sm_istore_n [some (.ref a0), some (.int (0 : Int32))] ii_rw_isOfWords_1 rfl rfl ?_
  exact ss_rw_isOfWords_2 (a0) ((0 : Int32)) w
set_option maxHeartbeats 4000000 in
set_option maxRecDepth 100000 in
theorem mc_rw_isOfWords (a0 : Nat) (w : sm_Mem) : sm_MC mi_rw_isOfWords [.ref a0] w (ff_rw_isOfWords a0 w) := sm_MC_of (0, fun _ => 0) (by decide +kernel) (by decide) rfl (Nat.le_of_ble_eq_true rfl) (ss_rw_isOfWords_0 a0 w)
abbrev mi_ho_refusalOfWords : sm_MI := (⟨"HerOrders", "refusalOfWords", "(II)I"⟩, prog_1_method_50_code, 3, (some .int), 3)
set_option maxRecDepth 100000 in
theorem mf_ho_refusalOfWords : sm_MF mi_ho_refusalOfWords 2 := ⟨List.mem_of_getElem? (i := 633) (by decide +kernel), List.mem_of_getElem? (i := 124) (by decide +kernel), ⟨by decide, by decide⟩, by decide +kernel⟩
set_option maxRecDepth 100000 in
theorem mv_ho_refusalOfWords : sm_MFV mi_ho_refusalOfWords := ⟨List.mem_of_getElem? (i := 632) (by decide +kernel), List.mem_of_getElem? (i := 28) (by decide +kernel)⟩
set_option maxRecDepth 100000 in
theorem ii_ho_refusalOfWords_0 : sm_D prog_1_method_50_code 0 1 1 (.iload_n 1) := ⟨by decide +kernel, rfl⟩
set_option maxRecDepth 100000 in
theorem ii_ho_refusalOfWords_1 : sm_D prog_1_method_50_code 1 2 3 (.bipush 6) := ⟨by decide +kernel, rfl⟩
set_option maxRecDepth 100000 in
theorem ii_ho_refusalOfWords_3 : sm_D prog_1_method_50_code 3 3 6 (.invokestatic 81) := ⟨by decide +kernel, rfl⟩
set_option maxRecDepth 100000 in
theorem ii_ho_refusalOfWords_6 : sm_D prog_1_method_50_code 6 3 9 (.ifCond .ne 5) := ⟨by decide +kernel, rfl⟩
set_option maxRecDepth 100000 in
theorem ii_ho_refusalOfWords_9 : sm_D prog_1_method_50_code 9 1 10 (.iconst (-1)) := ⟨by decide +kernel, rfl⟩
set_option maxRecDepth 100000 in
theorem ii_ho_refusalOfWords_10 : sm_D prog_1_method_50_code 10 1 11 (.ireturn) := ⟨by decide +kernel, rfl⟩
set_option maxRecDepth 100000 in
theorem ii_ho_refusalOfWords_11 : sm_D prog_1_method_50_code 11 1 12 (.aload_n 0) := ⟨by decide +kernel, rfl⟩
set_option maxRecDepth 100000 in
theorem ii_ho_refusalOfWords_12 : sm_D prog_1_method_50_code 12 3 15 (.getfield 31) := ⟨by decide +kernel, rfl⟩
set_option maxRecDepth 100000 in
theorem ii_ho_refusalOfWords_15 : sm_D prog_1_method_50_code 15 3 18 (.getfield 115) := ⟨by decide +kernel, rfl⟩
set_option maxRecDepth 100000 in
theorem ii_ho_refusalOfWords_18 : sm_D prog_1_method_50_code 18 3 21 (.ifCond .ne 6) := ⟨by decide +kernel, rfl⟩
set_option maxRecDepth 100000 in
theorem ii_ho_refusalOfWords_21 : sm_D prog_1_method_50_code 21 2 23 (.bipush (-4)) := ⟨by decide +kernel, rfl⟩
set_option maxRecDepth 100000 in
theorem ii_ho_refusalOfWords_23 : sm_D prog_1_method_50_code 23 1 24 (.ireturn) := ⟨by decide +kernel, rfl⟩
set_option maxRecDepth 100000 in
theorem ii_ho_refusalOfWords_24 : sm_D prog_1_method_50_code 24 1 25 (.aload_n 0) := ⟨by decide +kernel, rfl⟩
set_option maxRecDepth 100000 in
theorem ii_ho_refusalOfWords_25 : sm_D prog_1_method_50_code 25 3 28 (.getfield 11) := ⟨by decide +kernel, rfl⟩
set_option maxRecDepth 100000 in
theorem ii_ho_refusalOfWords_28 : sm_D prog_1_method_50_code 28 1 29 (.iload_n 1) := ⟨by decide +kernel, rfl⟩
set_option maxRecDepth 100000 in
theorem ii_ho_refusalOfWords_29 : sm_D prog_1_method_50_code 29 1 30 (.aaload) := ⟨by decide +kernel, rfl⟩
set_option maxRecDepth 100000 in
theorem ii_ho_refusalOfWords_30 : sm_D prog_1_method_50_code 30 3 33 (.invokevirtual 89) := ⟨by decide +kernel, rfl⟩
set_option maxRecDepth 100000 in
theorem ii_ho_refusalOfWords_33 : sm_D prog_1_method_50_code 33 3 36 (.ifCond .eq 12) := ⟨by decide +kernel, rfl⟩
set_option maxRecDepth 100000 in
theorem ii_ho_refusalOfWords_36 : sm_D prog_1_method_50_code 36 1 37 (.aload_n 0) := ⟨by decide +kernel, rfl⟩
set_option maxRecDepth 100000 in
theorem ii_ho_refusalOfWords_37 : sm_D prog_1_method_50_code 37 3 40 (.getfield 54) := ⟨by decide +kernel, rfl⟩
set_option maxRecDepth 100000 in
theorem ii_ho_refusalOfWords_40 : sm_D prog_1_method_50_code 40 1 41 (.iconst 1) := ⟨by decide +kernel, rfl⟩
set_option maxRecDepth 100000 in
theorem ii_ho_refusalOfWords_41 : sm_D prog_1_method_50_code 41 3 44 (.invokevirtual 85) := ⟨by decide +kernel, rfl⟩
set_option maxRecDepth 100000 in
theorem ii_ho_refusalOfWords_44 : sm_D prog_1_method_50_code 44 1 45 (.ireturn) := ⟨by decide +kernel, rfl⟩
set_option maxRecDepth 100000 in
theorem ii_ho_refusalOfWords_45 : sm_D prog_1_method_50_code 45 1 46 (.aload_n 0) := ⟨by decide +kernel, rfl⟩
set_option maxRecDepth 100000 in
theorem ii_ho_refusalOfWords_46 : sm_D prog_1_method_50_code 46 3 49 (.getfield 11) := ⟨by decide +kernel, rfl⟩
set_option maxRecDepth 100000 in
theorem ii_ho_refusalOfWords_49 : sm_D prog_1_method_50_code 49 1 50 (.iload_n 1) := ⟨by decide +kernel, rfl⟩
set_option maxRecDepth 100000 in
theorem ii_ho_refusalOfWords_50 : sm_D prog_1_method_50_code 50 1 51 (.aaload) := ⟨by decide +kernel, rfl⟩
set_option maxRecDepth 100000 in
theorem ii_ho_refusalOfWords_51 : sm_D prog_1_method_50_code 51 3 54 (.getfield 78) := ⟨by decide +kernel, rfl⟩
set_option maxRecDepth 100000 in
theorem ii_ho_refusalOfWords_54 : sm_D prog_1_method_50_code 54 1 55 (.iload_n 2) := ⟨by decide +kernel, rfl⟩
set_option maxRecDepth 100000 in
theorem ii_ho_refusalOfWords_55 : sm_D prog_1_method_50_code 55 3 58 (.if_icmp .le 12) := ⟨by decide +kernel, rfl⟩
set_option maxRecDepth 100000 in
theorem ii_ho_refusalOfWords_58 : sm_D prog_1_method_50_code 58 1 59 (.aload_n 0) := ⟨by decide +kernel, rfl⟩
set_option maxRecDepth 100000 in
theorem ii_ho_refusalOfWords_59 : sm_D prog_1_method_50_code 59 3 62 (.getfield 54) := ⟨by decide +kernel, rfl⟩
set_option maxRecDepth 100000 in
theorem ii_ho_refusalOfWords_62 : sm_D prog_1_method_50_code 62 1 63 (.iconst 5) := ⟨by decide +kernel, rfl⟩
set_option maxRecDepth 100000 in
theorem ii_ho_refusalOfWords_63 : sm_D prog_1_method_50_code 63 3 66 (.invokevirtual 85) := ⟨by decide +kernel, rfl⟩
set_option maxRecDepth 100000 in
theorem ii_ho_refusalOfWords_66 : sm_D prog_1_method_50_code 66 1 67 (.ireturn) := ⟨by decide +kernel, rfl⟩
set_option maxRecDepth 100000 in
theorem ii_ho_refusalOfWords_67 : sm_D prog_1_method_50_code 67 1 68 (.aload_n 0) := ⟨by decide +kernel, rfl⟩
set_option maxRecDepth 100000 in
theorem ii_ho_refusalOfWords_68 : sm_D prog_1_method_50_code 68 3 71 (.getfield 11) := ⟨by decide +kernel, rfl⟩
set_option maxRecDepth 100000 in
theorem ii_ho_refusalOfWords_71 : sm_D prog_1_method_50_code 71 1 72 (.iload_n 1) := ⟨by decide +kernel, rfl⟩
set_option maxRecDepth 100000 in
theorem ii_ho_refusalOfWords_72 : sm_D prog_1_method_50_code 72 1 73 (.aaload) := ⟨by decide +kernel, rfl⟩
set_option maxRecDepth 100000 in
theorem ii_ho_refusalOfWords_73 : sm_D prog_1_method_50_code 73 3 76 (.invokevirtual 325) := ⟨by decide +kernel, rfl⟩
set_option maxRecDepth 100000 in
theorem ii_ho_refusalOfWords_76 : sm_D prog_1_method_50_code 76 3 79 (.ifCond .eq 7) := ⟨by decide +kernel, rfl⟩
set_option maxRecDepth 100000 in
theorem ii_ho_refusalOfWords_79 : sm_D prog_1_method_50_code 79 1 80 (.iconst 0) := ⟨by decide +kernel, rfl⟩
set_option maxRecDepth 100000 in
theorem ii_ho_refusalOfWords_80 : sm_D prog_1_method_50_code 80 3 83 (.goto 11) := ⟨by decide +kernel, rfl⟩
set_option maxRecDepth 100000 in
theorem ii_ho_refusalOfWords_83 : sm_D prog_1_method_50_code 83 1 84 (.aload_n 0) := ⟨by decide +kernel, rfl⟩
set_option maxRecDepth 100000 in
theorem ii_ho_refusalOfWords_84 : sm_D prog_1_method_50_code 84 3 87 (.getfield 54) := ⟨by decide +kernel, rfl⟩
set_option maxRecDepth 100000 in
theorem ii_ho_refusalOfWords_87 : sm_D prog_1_method_50_code 87 1 88 (.iconst 3) := ⟨by decide +kernel, rfl⟩
set_option maxRecDepth 100000 in
theorem ii_ho_refusalOfWords_88 : sm_D prog_1_method_50_code 88 3 91 (.invokevirtual 85) := ⟨by decide +kernel, rfl⟩
set_option maxRecDepth 100000 in
theorem ii_ho_refusalOfWords_91 : sm_D prog_1_method_50_code 91 1 92 (.ireturn) := ⟨by decide +kernel, rfl⟩
noncomputable def ff_ho_refusalOfWords  (a1 : Int32) (a2 : Int32) (w : sm_Mem) : sm_R := (sm_cI (ff_ho_isWithin (a1) ((6 : Int32)) w) fun x1 w2 => (if x1 = (0 : Int32) then (some (.int (-1 : Int32), w2)) else (if (w2.1 36 0) = (0 : Int32) then (some (.int (-4 : Int32), w2)) else (Option.bind (sm_rr 1 a1) fun r3 => (sm_cI (sm_rc r3 2 (ff_rw_isMissing (r3) w2)) fun x4 w5 => (if x4 = (0 : Int32) then (Option.bind (sm_rr 1 a1) fun r6 => (Option.bind (sm_gI w5 r6 2 1) fun x7 => (if x7 ≤ a2 then (Option.bind (sm_rr 1 a1) fun r8 => (sm_cI (sm_rc r8 2 (ff_rw_isOfWords (r8) w5)) fun x9 w10 => (if x9 = (0 : Int32) then (sm_cI (ff_td_refuse ((3 : Int32)) w10) fun x11 w12 => (some (.int x11, w12))) else (some (.int (0 : Int32), w10))))) else (sm_cI (ff_td_refuse ((5 : Int32)) w5) fun x13 w14 => (some (.int x13, w14)))))) else (sm_cI (ff_td_refuse ((1 : Int32)) w5) fun x15 w16 => (some (.int x15, w16)))))))))
set_option maxHeartbeats 4000000 in
set_option maxRecDepth 100000 in
theorem ss_ho_refusalOfWords_0 {E : Nat × (Nat → Int32)}  (a1 : Int32) (a2 : Int32) (w : sm_Mem) : sm_Sim E (mi_ho_refusalOfWords) 0 [some (.ref 0), some (.int a1), some (.int a2)] [] w (ff_ho_refusalOfWords  a1 a2 w) := by
  unfold ff_ho_refusalOfWords
  refine sm_iload_n ii_ho_refusalOfWords_0 rfl ?_
  refine sm_bipush (6 : Int32) ii_ho_refusalOfWords_1 (by decide) ?_
  refine sm_csI [.int a1, .int (6 : Int32)] [] rfl ii_ho_refusalOfWords_3 ml_ho_81 (mf_ho_isWithin) (mv_ho_isWithin) (Nat.le_of_ble_eq_true rfl) rfl rfl rfl (mc_ho_isWithin (a1) ((6 : Int32)) w) (fun x1 w2 => ?_)
  refine sm_if_ne 11 ii_ho_refusalOfWords_6 (by decide) ?_ ?_
  · refine sm_iconst (-1 : Int32) ii_ho_refusalOfWords_9 (by decide) ?_
    exact sm_iret ii_ho_refusalOfWords_10 rfl
  · refine sm_aload_n ii_ho_refusalOfWords_11 rfl ?_
    refine sm_getR 36 ii_ho_refusalOfWords_12 fl_ho_31 (k := 0) rfl ?_
    refine sm_getI ii_ho_refusalOfWords_15 fl_ho_115 (k := 36) rfl ?_
    refine sm_if_ne 24 ii_ho_refusalOfWords_18 (by decide) ?_ ?_
    · refine sm_bipush (-4 : Int32) ii_ho_refusalOfWords_21 (by decide) ?_
      exact sm_iret ii_ho_refusalOfWords_23 rfl
    · refine sm_aload_n ii_ho_refusalOfWords_24 rfl ?_
      refine sm_getR 1 ii_ho_refusalOfWords_25 fl_ho_11 (k := 0) rfl ?_
      refine sm_iload_n ii_ho_refusalOfWords_28 rfl ?_
      refine sm_aald ii_ho_refusalOfWords_29 (fun r3 => ?_)
      refine sm_dvI [] [] rfl ii_ho_refusalOfWords_30 ml_ho_89 (mf_rw_isMissing) (mv_rw_isMissing) (Nat.le_of_ble_eq_true rfl) rfl 2 rfl rfl rfl (mc_rw_isMissing (r3) w2) (fun x4 w5 => ?_)
      refine sm_if_eq 45 ii_ho_refusalOfWords_33 (by decide) ?_ ?_
      · refine sm_aload_n ii_ho_refusalOfWords_45 rfl ?_
        refine sm_getR 1 ii_ho_refusalOfWords_46 fl_ho_11 (k := 0) rfl ?_
        refine sm_iload_n ii_ho_refusalOfWords_49 rfl ?_
        refine sm_aald ii_ho_refusalOfWords_50 (fun r6 => ?_)
        refine sm_getIs ii_ho_refusalOfWords_51 fl_ho_78 (fun x7 => ?_)
        refine sm_iload_n ii_ho_refusalOfWords_54 rfl ?_
        refine sm_icmp_le 67 ii_ho_refusalOfWords_55 (by decide) ?_ ?_
        · refine sm_aload_n ii_ho_refusalOfWords_67 rfl ?_
          refine sm_getR 1 ii_ho_refusalOfWords_68 fl_ho_11 (k := 0) rfl ?_
          refine sm_iload_n ii_ho_refusalOfWords_71 rfl ?_
          refine sm_aald ii_ho_refusalOfWords_72 (fun r8 => ?_)
          refine sm_dvI [] [] rfl ii_ho_refusalOfWords_73 ml_ho_325 (mf_rw_isOfWords) (mv_rw_isOfWords) (Nat.le_of_ble_eq_true rfl) rfl 2 rfl rfl rfl (mc_rw_isOfWords (r8) w5) (fun x9 w10 => ?_)
          refine sm_if_eq 83 ii_ho_refusalOfWords_76 (by decide) ?_ ?_
          · refine sm_aload_n ii_ho_refusalOfWords_83 rfl ?_
            refine sm_getR 60 ii_ho_refusalOfWords_84 fl_ho_54 (k := 0) rfl ?_
            refine sm_iconst (3 : Int32) ii_ho_refusalOfWords_87 (by decide) ?_
            refine sm_cvI [.int (3 : Int32)] [] rfl ii_ho_refusalOfWords_88 ml_ho_85 (mf_td_refuse) (mv_td_refuse) (Nat.le_of_ble_eq_true rfl) rfl 3 rfl rfl rfl rfl (mc_td_refuse ((3 : Int32)) w10) (fun x11 w12 => ?_)
            exact sm_iret ii_ho_refusalOfWords_91 rfl
          · refine sm_iconst (0 : Int32) ii_ho_refusalOfWords_79 (by decide) ?_
            refine sm_goto 91 ii_ho_refusalOfWords_80 (by decide) ?_
            exact sm_iret ii_ho_refusalOfWords_91 rfl
        · refine sm_aload_n ii_ho_refusalOfWords_58 rfl ?_
          refine sm_getR 60 ii_ho_refusalOfWords_59 fl_ho_54 (k := 0) rfl ?_
          refine sm_iconst (5 : Int32) ii_ho_refusalOfWords_62 (by decide) ?_
          refine sm_cvI [.int (5 : Int32)] [] rfl ii_ho_refusalOfWords_63 ml_ho_85 (mf_td_refuse) (mv_td_refuse) (Nat.le_of_ble_eq_true rfl) rfl 3 rfl rfl rfl rfl (mc_td_refuse ((5 : Int32)) w5) (fun x13 w14 => ?_)
          exact sm_iret ii_ho_refusalOfWords_66 rfl
      · refine sm_aload_n ii_ho_refusalOfWords_36 rfl ?_
        refine sm_getR 60 ii_ho_refusalOfWords_37 fl_ho_54 (k := 0) rfl ?_
        refine sm_iconst (1 : Int32) ii_ho_refusalOfWords_40 (by decide) ?_
        refine sm_cvI [.int (1 : Int32)] [] rfl ii_ho_refusalOfWords_41 ml_ho_85 (mf_td_refuse) (mv_td_refuse) (Nat.le_of_ble_eq_true rfl) rfl 3 rfl rfl rfl rfl (mc_td_refuse ((1 : Int32)) w5) (fun x15 w16 => ?_)
        exact sm_iret ii_ho_refusalOfWords_44 rfl
set_option maxHeartbeats 4000000 in
set_option maxRecDepth 100000 in
theorem mc_ho_refusalOfWords (a1 : Int32) (a2 : Int32) (w : sm_Mem) : sm_MC mi_ho_refusalOfWords [.ref 0, .int a1, .int a2] w (ff_ho_refusalOfWords a1 a2 w) := sm_MC_of (0, fun _ => 0) (by decide +kernel) (by decide) rfl (Nat.le_of_ble_eq_true rfl) (ss_ho_refusalOfWords_0 a1 a2 w)
abbrev mi_wy_clear : sm_MI := (⟨"HerOrders$Ways", "clear", "(I)V"⟩, prog_7_method_4_code, 3, none, 1)
set_option maxRecDepth 100000 in
theorem mf_wy_clear : sm_MF mi_wy_clear 1 := ⟨List.mem_of_getElem? (i := 648) (by decide +kernel), List.mem_of_getElem? (i := 129) (by decide +kernel), ⟨by decide, by decide⟩, by decide +kernel⟩
set_option maxRecDepth 100000 in
theorem mv_wy_clear : sm_MFV mi_wy_clear := ⟨List.mem_of_getElem? (i := 647) (by decide +kernel), List.mem_of_getElem? (i := 31) (by decide +kernel)⟩
set_option maxRecDepth 100000 in
theorem ii_wy_clear_0 : sm_D prog_7_method_4_code 0 1 1 (.aload_n 0) := ⟨by decide +kernel, rfl⟩
set_option maxRecDepth 100000 in
theorem ii_wy_clear_1 : sm_D prog_7_method_4_code 1 1 2 (.iload_n 1) := ⟨by decide +kernel, rfl⟩
set_option maxRecDepth 100000 in
theorem ii_wy_clear_2 : sm_D prog_7_method_4_code 2 3 5 (.putfield 63) := ⟨by decide +kernel, rfl⟩
set_option maxRecDepth 100000 in
theorem ii_wy_clear_5 : sm_D prog_7_method_4_code 5 1 6 (.iconst 0) := ⟨by decide +kernel, rfl⟩
set_option maxRecDepth 100000 in
theorem ii_wy_clear_6 : sm_D prog_7_method_4_code 6 1 7 (.istore_n 2) := ⟨by decide +kernel, rfl⟩
set_option maxRecDepth 100000 in
theorem ii_wy_clear_7 : sm_D prog_7_method_4_code 7 1 8 (.iload_n 2) := ⟨by decide +kernel, rfl⟩
set_option maxRecDepth 100000 in
theorem ii_wy_clear_8 : sm_D prog_7_method_4_code 8 1 9 (.iconst 5) := ⟨by decide +kernel, rfl⟩
set_option maxRecDepth 100000 in
theorem ii_wy_clear_9 : sm_D prog_7_method_4_code 9 3 12 (.if_icmp .gt 16) := ⟨by decide +kernel, rfl⟩
set_option maxRecDepth 100000 in
theorem ii_wy_clear_12 : sm_D prog_7_method_4_code 12 1 13 (.aload_n 0) := ⟨by decide +kernel, rfl⟩
set_option maxRecDepth 100000 in
theorem ii_wy_clear_13 : sm_D prog_7_method_4_code 13 3 16 (.getfield 25) := ⟨by decide +kernel, rfl⟩
set_option maxRecDepth 100000 in
theorem ii_wy_clear_16 : sm_D prog_7_method_4_code 16 1 17 (.iload_n 2) := ⟨by decide +kernel, rfl⟩
set_option maxRecDepth 100000 in
theorem ii_wy_clear_17 : sm_D prog_7_method_4_code 17 1 18 (.iconst 0) := ⟨by decide +kernel, rfl⟩
set_option maxRecDepth 100000 in
theorem ii_wy_clear_18 : sm_D prog_7_method_4_code 18 1 19 (.iastore) := ⟨by decide +kernel, rfl⟩
set_option maxRecDepth 100000 in
theorem ii_wy_clear_19 : sm_D prog_7_method_4_code 19 3 22 (.iinc 2 1) := ⟨by decide +kernel, rfl⟩
set_option maxRecDepth 100000 in
theorem ii_wy_clear_22 : sm_D prog_7_method_4_code 22 3 25 (.goto (-15)) := ⟨by decide +kernel, rfl⟩
set_option maxRecDepth 100000 in
theorem ii_wy_clear_25 : sm_D prog_7_method_4_code 25 1 26 (.iconst 0) := ⟨by decide +kernel, rfl⟩
set_option maxRecDepth 100000 in
theorem ii_wy_clear_26 : sm_D prog_7_method_4_code 26 1 27 (.istore_n 2) := ⟨by decide +kernel, rfl⟩
set_option maxRecDepth 100000 in
theorem ii_wy_clear_27 : sm_D prog_7_method_4_code 27 1 28 (.iload_n 2) := ⟨by decide +kernel, rfl⟩
set_option maxRecDepth 100000 in
theorem ii_wy_clear_28 : sm_D prog_7_method_4_code 28 1 29 (.aload_n 0) := ⟨by decide +kernel, rfl⟩
set_option maxRecDepth 100000 in
theorem ii_wy_clear_29 : sm_D prog_7_method_4_code 29 3 32 (.getfield 28) := ⟨by decide +kernel, rfl⟩
set_option maxRecDepth 100000 in
theorem ii_wy_clear_32 : sm_D prog_7_method_4_code 32 1 33 (.arraylength) := ⟨by decide +kernel, rfl⟩
set_option maxRecDepth 100000 in
theorem ii_wy_clear_33 : sm_D prog_7_method_4_code 33 3 36 (.if_icmp .ge 17) := ⟨by decide +kernel, rfl⟩
set_option maxRecDepth 100000 in
theorem ii_wy_clear_36 : sm_D prog_7_method_4_code 36 1 37 (.aload_n 0) := ⟨by decide +kernel, rfl⟩
set_option maxRecDepth 100000 in
theorem ii_wy_clear_37 : sm_D prog_7_method_4_code 37 3 40 (.getfield 28) := ⟨by decide +kernel, rfl⟩
set_option maxRecDepth 100000 in
theorem ii_wy_clear_40 : sm_D prog_7_method_4_code 40 1 41 (.iload_n 2) := ⟨by decide +kernel, rfl⟩
set_option maxRecDepth 100000 in
theorem ii_wy_clear_41 : sm_D prog_7_method_4_code 41 2 43 (.bipush (-9)) := ⟨by decide +kernel, rfl⟩
set_option maxRecDepth 100000 in
theorem ii_wy_clear_43 : sm_D prog_7_method_4_code 43 1 44 (.iastore) := ⟨by decide +kernel, rfl⟩
set_option maxRecDepth 100000 in
theorem ii_wy_clear_44 : sm_D prog_7_method_4_code 44 3 47 (.iinc 2 1) := ⟨by decide +kernel, rfl⟩
set_option maxRecDepth 100000 in
theorem ii_wy_clear_47 : sm_D prog_7_method_4_code 47 3 50 (.goto (-20)) := ⟨by decide +kernel, rfl⟩
set_option maxRecDepth 100000 in
theorem ii_wy_clear_50 : sm_D prog_7_method_4_code 50 1 51 (.aload_n 0) := ⟨by decide +kernel, rfl⟩
set_option maxRecDepth 100000 in
theorem ii_wy_clear_51 : sm_D prog_7_method_4_code 51 2 53 (.bipush (-9)) := ⟨by decide +kernel, rfl⟩
set_option maxRecDepth 100000 in
theorem ii_wy_clear_53 : sm_D prog_7_method_4_code 53 3 56 (.putfield 66) := ⟨by decide +kernel, rfl⟩
set_option maxRecDepth 100000 in
theorem ii_wy_clear_56 : sm_D prog_7_method_4_code 56 1 57 (.aload_n 0) := ⟨by decide +kernel, rfl⟩
set_option maxRecDepth 100000 in
theorem ii_wy_clear_57 : sm_D prog_7_method_4_code 57 2 59 (.bipush (-9)) := ⟨by decide +kernel, rfl⟩
set_option maxRecDepth 100000 in
theorem ii_wy_clear_59 : sm_D prog_7_method_4_code 59 3 62 (.putfield 69) := ⟨by decide +kernel, rfl⟩
set_option maxRecDepth 100000 in
theorem ii_wy_clear_62 : sm_D prog_7_method_4_code 62 1 63 (.aload_n 0) := ⟨by decide +kernel, rfl⟩
set_option maxRecDepth 100000 in
theorem ii_wy_clear_63 : sm_D prog_7_method_4_code 63 1 64 (.iconst (-1)) := ⟨by decide +kernel, rfl⟩
set_option maxRecDepth 100000 in
theorem ii_wy_clear_64 : sm_D prog_7_method_4_code 64 3 67 (.putfield 72) := ⟨by decide +kernel, rfl⟩
set_option maxRecDepth 100000 in
theorem ii_wy_clear_67 : sm_D prog_7_method_4_code 67 1 68 (.aload_n 0) := ⟨by decide +kernel, rfl⟩
set_option maxRecDepth 100000 in
theorem ii_wy_clear_68 : sm_D prog_7_method_4_code 68 1 69 (.iconst 0) := ⟨by decide +kernel, rfl⟩
set_option maxRecDepth 100000 in
theorem ii_wy_clear_69 : sm_D prog_7_method_4_code 69 3 72 (.putfield 75) := ⟨by decide +kernel, rfl⟩
set_option maxRecDepth 100000 in
theorem ii_wy_clear_72 : sm_D prog_7_method_4_code 72 1 73 (.aload_n 0) := ⟨by decide +kernel, rfl⟩
set_option maxRecDepth 100000 in
theorem ii_wy_clear_73 : sm_D prog_7_method_4_code 73 2 75 (.bipush (-9)) := ⟨by decide +kernel, rfl⟩
set_option maxRecDepth 100000 in
theorem ii_wy_clear_75 : sm_D prog_7_method_4_code 75 3 78 (.putfield 78) := ⟨by decide +kernel, rfl⟩
set_option maxRecDepth 100000 in
theorem ii_wy_clear_78 : sm_D prog_7_method_4_code 78 1 79 (.return_) := ⟨by decide +kernel, rfl⟩
noncomputable def ff_wy_clear_27_b  (self27 : Int32 → sm_Mem → sm_R) (a2 : Int32) (w : sm_Mem) : sm_R := (Option.bind (sm_al 54) fun x1 => (if x1 ≤ a2 then (sm_let (sm_wI w 49 8 (-9 : Int32)) fun w2 => (sm_let (sm_wI w2 49 9 (-9 : Int32)) fun w3 => (sm_let (sm_wI w3 49 10 (-1 : Int32)) fun w4 => (sm_let (sm_wI w4 49 11 (0 : Int32)) fun w5 => (sm_let (sm_wI w5 49 13 (-9 : Int32)) fun w6 => (some (.null, w6))))))) else (Option.bind (sm_wr w 54 64 a2 (-9 : Int32)) fun w7 => self27 ((a2 + (1 : Int32))) w7)))
noncomputable def ff_wy_clear_27_f  : Nat → Int32 → sm_Mem → sm_R
  | 0, _, _ => none
  | n + 1, a2, w => ff_wy_clear_27_b  (ff_wy_clear_27_f  n) a2 w
noncomputable def ff_wy_clear_27  (a2 : Int32) (w : sm_Mem) : sm_R := ff_wy_clear_27_f  sm_N a2 w
set_option maxHeartbeats 4000000 in
set_option maxRecDepth 100000 in
theorem ss_wy_clear_27_b {E : Nat × (Nat → Int32)}  (self27 : Int32 → sm_Mem → sm_R) (hself27 : ∀ (a2 : Int32) (w : sm_Mem), sm_Sim E (mi_wy_clear) 27 [some (.ref 49), none, some (.int a2)] [] w (self27 a2 w)) (a2 : Int32) (w : sm_Mem) : sm_Sim E (mi_wy_clear) 27 [some (.ref 49), none, some (.int a2)] [] w (ff_wy_clear_27_b  self27 a2 w) := by
  unfold ff_wy_clear_27_b
  refine sm_iload_n ii_wy_clear_27 rfl ?_
  refine sm_aload_n ii_wy_clear_28 rfl ?_
  refine sm_getR 54 ii_wy_clear_29 fl_wy_28 (k := 49) rfl ?_
  refine sm_alen ii_wy_clear_32 (fun x1 => ?_)
  refine sm_icmp_ge 50 ii_wy_clear_33 (by decide) ?_ ?_
  · refine sm_aload_n ii_wy_clear_50 rfl ?_
    refine sm_bipush (-9 : Int32) ii_wy_clear_51 (by decide) ?_
    refine sm_putI ii_wy_clear_53 fp_wy_66 (k := 49) rfl (fun w2 => ?_)
    refine sm_aload_n ii_wy_clear_56 rfl ?_
    refine sm_bipush (-9 : Int32) ii_wy_clear_57 (by decide) ?_
    refine sm_putI ii_wy_clear_59 fp_wy_69 (k := 49) rfl (fun w3 => ?_)
    refine sm_aload_n ii_wy_clear_62 rfl ?_
    refine sm_iconst (-1 : Int32) ii_wy_clear_63 (by decide) ?_
    refine sm_putI ii_wy_clear_64 fp_wy_72 (k := 49) rfl (fun w4 => ?_)
    refine sm_aload_n ii_wy_clear_67 rfl ?_
    refine sm_iconst (0 : Int32) ii_wy_clear_68 (by decide) ?_
    refine sm_putI ii_wy_clear_69 fp_wy_75 (k := 49) rfl (fun w5 => ?_)
    refine sm_aload_n ii_wy_clear_72 rfl ?_
    refine sm_bipush (-9 : Int32) ii_wy_clear_73 (by decide) ?_
    refine sm_putI ii_wy_clear_75 fp_wy_78 (k := 49) rfl (fun w6 => ?_)
    exact sm_vret ii_wy_clear_78 rfl
  · refine sm_aload_n ii_wy_clear_36 rfl ?_
    refine sm_getR 54 ii_wy_clear_37 fl_wy_28 (k := 49) rfl ?_
    refine sm_iload_n ii_wy_clear_40 rfl ?_
    refine sm_bipush (-9 : Int32) ii_wy_clear_41 (by decide) ?_
    refine sm_iast ii_wy_clear_43 (k := 54) rfl (fun w7 => ?_)
    refine sm_iinc (a2 + (1 : Int32)) [some (.ref 49), none, some (.int (a2 + (1 : Int32)))] ii_wy_clear_44 rfl rfl rfl rfl ?_
    refine sm_goto 27 ii_wy_clear_47 (by decide) ?_
    exact hself27 ((a2 + (1 : Int32))) w7
set_option maxHeartbeats 4000000 in
set_option maxRecDepth 100000 in
theorem ss_wy_clear_27_f {E : Nat × (Nat → Int32)}  : ∀ (n : Nat) (a2 : Int32) (w : sm_Mem), sm_Sim E (mi_wy_clear) 27 [some (.ref 49), none, some (.int a2)] [] w (ff_wy_clear_27_f  n a2 w)
  | 0, _, _ => fun _ _ h => by cases h
  | n + 1, a2, w => ss_wy_clear_27_b  _ (ss_wy_clear_27_f  n) a2 w
set_option maxHeartbeats 4000000 in
set_option maxRecDepth 100000 in
theorem ss_wy_clear_27 {E : Nat × (Nat → Int32)}  (a2 : Int32) (w : sm_Mem) : sm_Sim E (mi_wy_clear) 27 [some (.ref 49), none, some (.int a2)] [] w (ff_wy_clear_27  a2 w) := ss_wy_clear_27_f  sm_N a2 w
noncomputable def ff_wy_clear_7_b  (self7 : Int32 → sm_Mem → sm_R) (a2 : Int32) (w : sm_Mem) : sm_R := (if (5 : Int32) < a2 then ff_wy_clear_27 ((0 : Int32)) w else (Option.bind (sm_wr w 53 6 a2 (0 : Int32)) fun w8 => self7 ((a2 + (1 : Int32))) w8))
noncomputable def ff_wy_clear_7_f  : Nat → Int32 → sm_Mem → sm_R
  | 0, _, _ => none
  | n + 1, a2, w => ff_wy_clear_7_b  (ff_wy_clear_7_f  n) a2 w
noncomputable def ff_wy_clear_7  (a2 : Int32) (w : sm_Mem) : sm_R := ff_wy_clear_7_f  sm_N a2 w
set_option maxHeartbeats 4000000 in
set_option maxRecDepth 100000 in
theorem ss_wy_clear_7_b {E : Nat × (Nat → Int32)}  (self7 : Int32 → sm_Mem → sm_R) (hself7 : ∀ (a2 : Int32) (w : sm_Mem), sm_Sim E (mi_wy_clear) 7 [some (.ref 49), none, some (.int a2)] [] w (self7 a2 w)) (a2 : Int32) (w : sm_Mem) : sm_Sim E (mi_wy_clear) 7 [some (.ref 49), none, some (.int a2)] [] w (ff_wy_clear_7_b  self7 a2 w) := by
  unfold ff_wy_clear_7_b
  refine sm_iload_n ii_wy_clear_7 rfl ?_
  refine sm_iconst (5 : Int32) ii_wy_clear_8 (by decide) ?_
  refine sm_icmp_gt 25 ii_wy_clear_9 (by decide) ?_ ?_
  · refine sm_iconst (0 : Int32) ii_wy_clear_25 (by decide) ?_
    refine sm_istore_n [some (.ref 49), none, some (.int (0 : Int32))] ii_wy_clear_26 rfl rfl ?_
    exact ss_wy_clear_27 ((0 : Int32)) w
  · refine sm_aload_n ii_wy_clear_12 rfl ?_
    refine sm_getR 53 ii_wy_clear_13 fl_wy_25 (k := 49) rfl ?_
    refine sm_iload_n ii_wy_clear_16 rfl ?_
    refine sm_iconst (0 : Int32) ii_wy_clear_17 (by decide) ?_
    refine sm_iast ii_wy_clear_18 (k := 53) rfl (fun w8 => ?_)
    refine sm_iinc (a2 + (1 : Int32)) [some (.ref 49), none, some (.int (a2 + (1 : Int32)))] ii_wy_clear_19 rfl rfl rfl rfl ?_
    refine sm_goto 7 ii_wy_clear_22 (by decide) ?_
    exact hself7 ((a2 + (1 : Int32))) w8
set_option maxHeartbeats 4000000 in
set_option maxRecDepth 100000 in
theorem ss_wy_clear_7_f {E : Nat × (Nat → Int32)}  : ∀ (n : Nat) (a2 : Int32) (w : sm_Mem), sm_Sim E (mi_wy_clear) 7 [some (.ref 49), none, some (.int a2)] [] w (ff_wy_clear_7_f  n a2 w)
  | 0, _, _ => fun _ _ h => by cases h
  | n + 1, a2, w => ss_wy_clear_7_b  _ (ss_wy_clear_7_f  n) a2 w
set_option maxHeartbeats 4000000 in
set_option maxRecDepth 100000 in
theorem ss_wy_clear_7 {E : Nat × (Nat → Int32)}  (a2 : Int32) (w : sm_Mem) : sm_Sim E (mi_wy_clear) 7 [some (.ref 49), none, some (.int a2)] [] w (ff_wy_clear_7  a2 w) := ss_wy_clear_7_f  sm_N a2 w
noncomputable def ff_wy_clear  (a1 : Int32) (w : sm_Mem) : sm_R := (sm_let (sm_wI w 49 12 a1) fun w9 => ff_wy_clear_7 ((0 : Int32)) w9)
set_option maxHeartbeats 4000000 in
set_option maxRecDepth 100000 in
theorem ss_wy_clear_0 {E : Nat × (Nat → Int32)}  (a1 : Int32) (w : sm_Mem) : sm_Sim E (mi_wy_clear) 0 [some (.ref 49), some (.int a1), none] [] w (ff_wy_clear  a1 w) := by
  unfold ff_wy_clear
  refine sm_aload_n ii_wy_clear_0 rfl ?_
  refine sm_iload_n ii_wy_clear_1 rfl ?_
  refine sm_putI ii_wy_clear_2 fp_wy_63 (k := 49) rfl (fun w9 => ?_)
  refine sm_iconst (0 : Int32) ii_wy_clear_5 (by decide) ?_
  refine sm_istore_n [some (.ref 49), some (.int a1), some (.int (0 : Int32))] ii_wy_clear_6 rfl rfl ?_
  refine sm_msk [true, false, true] [some (.ref 49), none, some (.int (0 : Int32))] rfl ?_
  exact ss_wy_clear_7 ((0 : Int32)) w9
set_option maxHeartbeats 4000000 in
set_option maxRecDepth 100000 in
theorem mc_wy_clear (a1 : Int32) (w : sm_Mem) : sm_MC mi_wy_clear [.ref 49, .int a1] w (ff_wy_clear a1 w) := sm_MC_of (0, fun _ => 0) (by decide +kernel) (by decide) rfl (Nat.le_of_ble_eq_true rfl) (ss_wy_clear_0 a1 w)
abbrev mi_wy_isLess : sm_MI := (⟨"HerOrders$Ways", "isLess", "(II)Z"⟩, prog_7_method_8_code, 4, (some .boolean), 2)
set_option maxRecDepth 100000 in
theorem mf_wy_isLess : sm_MF mi_wy_isLess 2 := ⟨List.mem_of_getElem? (i := 664) (by decide +kernel), List.mem_of_getElem? (i := 129) (by decide +kernel), ⟨by decide, by decide⟩, by decide +kernel⟩
set_option maxRecDepth 100000 in
theorem mv_wy_isLess : sm_MFS mi_wy_isLess := List.mem_of_getElem? (i := 663) (by decide +kernel)
set_option maxRecDepth 100000 in
theorem ii_wy_isLess_0 : sm_D prog_7_method_8_code 0 1 1 (.iload_n 0) := ⟨by decide +kernel, rfl⟩
set_option maxRecDepth 100000 in
theorem ii_wy_isLess_1 : sm_D prog_7_method_8_code 1 3 4 (.invokestatic 102) := ⟨by decide +kernel, rfl⟩
set_option maxRecDepth 100000 in
theorem ii_wy_isLess_4 : sm_D prog_7_method_8_code 4 1 5 (.istore_n 2) := ⟨by decide +kernel, rfl⟩
set_option maxRecDepth 100000 in
theorem ii_wy_isLess_5 : sm_D prog_7_method_8_code 5 1 6 (.iload_n 1) := ⟨by decide +kernel, rfl⟩
set_option maxRecDepth 100000 in
theorem ii_wy_isLess_6 : sm_D prog_7_method_8_code 6 3 9 (.invokestatic 102) := ⟨by decide +kernel, rfl⟩
set_option maxRecDepth 100000 in
theorem ii_wy_isLess_9 : sm_D prog_7_method_8_code 9 1 10 (.istore_n 3) := ⟨by decide +kernel, rfl⟩
set_option maxRecDepth 100000 in
theorem ii_wy_isLess_10 : sm_D prog_7_method_8_code 10 1 11 (.iload_n 2) := ⟨by decide +kernel, rfl⟩
set_option maxRecDepth 100000 in
theorem ii_wy_isLess_11 : sm_D prog_7_method_8_code 11 1 12 (.iload_n 3) := ⟨by decide +kernel, rfl⟩
set_option maxRecDepth 100000 in
theorem ii_wy_isLess_12 : sm_D prog_7_method_8_code 12 3 15 (.if_icmp .lt 13) := ⟨by decide +kernel, rfl⟩
set_option maxRecDepth 100000 in
theorem ii_wy_isLess_15 : sm_D prog_7_method_8_code 15 1 16 (.iload_n 2) := ⟨by decide +kernel, rfl⟩
set_option maxRecDepth 100000 in
theorem ii_wy_isLess_16 : sm_D prog_7_method_8_code 16 1 17 (.iload_n 3) := ⟨by decide +kernel, rfl⟩
set_option maxRecDepth 100000 in
theorem ii_wy_isLess_17 : sm_D prog_7_method_8_code 17 3 20 (.if_icmp .ne 12) := ⟨by decide +kernel, rfl⟩
set_option maxRecDepth 100000 in
theorem ii_wy_isLess_20 : sm_D prog_7_method_8_code 20 1 21 (.iload_n 0) := ⟨by decide +kernel, rfl⟩
set_option maxRecDepth 100000 in
theorem ii_wy_isLess_21 : sm_D prog_7_method_8_code 21 1 22 (.iload_n 1) := ⟨by decide +kernel, rfl⟩
set_option maxRecDepth 100000 in
theorem ii_wy_isLess_22 : sm_D prog_7_method_8_code 22 3 25 (.if_icmp .ge 7) := ⟨by decide +kernel, rfl⟩
set_option maxRecDepth 100000 in
theorem ii_wy_isLess_25 : sm_D prog_7_method_8_code 25 1 26 (.iconst 1) := ⟨by decide +kernel, rfl⟩
set_option maxRecDepth 100000 in
theorem ii_wy_isLess_26 : sm_D prog_7_method_8_code 26 3 29 (.goto 4) := ⟨by decide +kernel, rfl⟩
set_option maxRecDepth 100000 in
theorem ii_wy_isLess_29 : sm_D prog_7_method_8_code 29 1 30 (.iconst 0) := ⟨by decide +kernel, rfl⟩
set_option maxRecDepth 100000 in
theorem ii_wy_isLess_30 : sm_D prog_7_method_8_code 30 1 31 (.ireturn) := ⟨by decide +kernel, rfl⟩
noncomputable def ff_wy_isLess  (a0 : Int32) (a1 : Int32) (w : sm_Mem) : sm_R := (sm_cI (ff_ig_bitCount (a0) w) fun x1 w2 => (sm_cI (ff_ig_bitCount (a1) w2) fun x3 w4 => (if x1 < x3 then (some (.int (1 : Int32), w4)) else (if x1 = x3 then (if a1 ≤ a0 then (some (.int (0 : Int32), w4)) else (some (.int (1 : Int32), w4))) else (some (.int (0 : Int32), w4))))))
set_option maxHeartbeats 4000000 in
set_option maxRecDepth 100000 in
theorem ss_wy_isLess_0 {E : Nat × (Nat → Int32)}  (a0 : Int32) (a1 : Int32) (w : sm_Mem) : sm_Sim E (mi_wy_isLess) 0 [some (.int a0), some (.int a1), none, none] [] w (ff_wy_isLess  a0 a1 w) := by
  unfold ff_wy_isLess
  refine sm_iload_n ii_wy_isLess_0 rfl ?_
  refine sm_csI [.int a0] [] rfl ii_wy_isLess_1 ml_wy_102 (mf_ig_bitCount) (mv_ig_bitCount) (Nat.le_of_ble_eq_true rfl) rfl rfl rfl (mc_ig_bitCount (a0) w) (fun x1 w2 => ?_)
  refine sm_istore_n [some (.int a0), some (.int a1), some (.int x1), none] ii_wy_isLess_4 rfl rfl ?_
  refine sm_iload_n ii_wy_isLess_5 rfl ?_
  refine sm_csI [.int a1] [] rfl ii_wy_isLess_6 ml_wy_102 (mf_ig_bitCount) (mv_ig_bitCount) (Nat.le_of_ble_eq_true rfl) rfl rfl rfl (mc_ig_bitCount (a1) w2) (fun x3 w4 => ?_)
  refine sm_istore_n [some (.int a0), some (.int a1), some (.int x1), some (.int x3)] ii_wy_isLess_9 rfl rfl ?_
  refine sm_iload_n ii_wy_isLess_10 rfl ?_
  refine sm_iload_n ii_wy_isLess_11 rfl ?_
  refine sm_icmp_lt 25 ii_wy_isLess_12 (by decide) ?_ ?_
  · refine sm_iconst (1 : Int32) ii_wy_isLess_25 (by decide) ?_
    refine sm_goto 30 ii_wy_isLess_26 (by decide) ?_
    exact sm_zret1 ii_wy_isLess_30 rfl (by decide)
  · refine sm_iload_n ii_wy_isLess_15 rfl ?_
    refine sm_iload_n ii_wy_isLess_16 rfl ?_
    refine sm_icmp_ne 29 ii_wy_isLess_17 (by decide) ?_ ?_
    · refine sm_iload_n ii_wy_isLess_20 rfl ?_
      refine sm_iload_n ii_wy_isLess_21 rfl ?_
      refine sm_icmp_ge 29 ii_wy_isLess_22 (by decide) ?_ ?_
      · refine sm_iconst (0 : Int32) ii_wy_isLess_29 (by decide) ?_
        exact sm_zret1 ii_wy_isLess_30 rfl (by decide)
      · refine sm_iconst (1 : Int32) ii_wy_isLess_25 (by decide) ?_
        refine sm_goto 30 ii_wy_isLess_26 (by decide) ?_
        exact sm_zret1 ii_wy_isLess_30 rfl (by decide)
    · refine sm_iconst (0 : Int32) ii_wy_isLess_29 (by decide) ?_
      exact sm_zret1 ii_wy_isLess_30 rfl (by decide)
set_option maxHeartbeats 4000000 in
set_option maxRecDepth 100000 in
theorem mc_wy_isLess (a0 : Int32) (a1 : Int32) (w : sm_Mem) : sm_MC mi_wy_isLess [.int a0, .int a1] w (ff_wy_isLess a0 a1 w) := sm_MC_of (0, fun _ => 0) (by decide +kernel) (by decide) rfl (Nat.le_of_ble_eq_true rfl) (ss_wy_isLess_0 a0 a1 w)
abbrev mi_wy_weighGuest : sm_MI := (⟨"HerOrders$Ways", "weighGuest", "()V"⟩, prog_7_method_7_code, 3, none, 3)
set_option maxRecDepth 100000 in
theorem mf_wy_weighGuest : sm_MF mi_wy_weighGuest 0 := ⟨List.mem_of_getElem? (i := 661) (by decide +kernel), List.mem_of_getElem? (i := 129) (by decide +kernel), ⟨by decide, by decide⟩, by decide +kernel⟩
set_option maxRecDepth 100000 in
theorem mv_wy_weighGuest : sm_MFV mi_wy_weighGuest := ⟨List.mem_of_getElem? (i := 660) (by decide +kernel), List.mem_of_getElem? (i := 34) (by decide +kernel)⟩
set_option maxRecDepth 100000 in
theorem ii_wy_weighGuest_0 : sm_D prog_7_method_7_code 0 1 1 (.iconst 0) := ⟨by decide +kernel, rfl⟩
set_option maxRecDepth 100000 in
theorem ii_wy_weighGuest_1 : sm_D prog_7_method_7_code 1 1 2 (.istore_n 1) := ⟨by decide +kernel, rfl⟩
set_option maxRecDepth 100000 in
theorem ii_wy_weighGuest_2 : sm_D prog_7_method_7_code 2 1 3 (.iconst 0) := ⟨by decide +kernel, rfl⟩
set_option maxRecDepth 100000 in
theorem ii_wy_weighGuest_3 : sm_D prog_7_method_7_code 3 1 4 (.istore_n 2) := ⟨by decide +kernel, rfl⟩
set_option maxRecDepth 100000 in
theorem ii_wy_weighGuest_4 : sm_D prog_7_method_7_code 4 1 5 (.iload_n 2) := ⟨by decide +kernel, rfl⟩
set_option maxRecDepth 100000 in
theorem ii_wy_weighGuest_5 : sm_D prog_7_method_7_code 5 1 6 (.aload_n 0) := ⟨by decide +kernel, rfl⟩
set_option maxRecDepth 100000 in
theorem ii_wy_weighGuest_6 : sm_D prog_7_method_7_code 6 3 9 (.getfield 49) := ⟨by decide +kernel, rfl⟩
set_option maxRecDepth 100000 in
theorem ii_wy_weighGuest_9 : sm_D prog_7_method_7_code 9 3 12 (.if_icmp .ge 33) := ⟨by decide +kernel, rfl⟩
set_option maxRecDepth 100000 in
theorem ii_wy_weighGuest_12 : sm_D prog_7_method_7_code 12 1 13 (.aload_n 0) := ⟨by decide +kernel, rfl⟩
set_option maxRecDepth 100000 in
theorem ii_wy_weighGuest_13 : sm_D prog_7_method_7_code 13 3 16 (.getfield 22) := ⟨by decide +kernel, rfl⟩
set_option maxRecDepth 100000 in
theorem ii_wy_weighGuest_16 : sm_D prog_7_method_7_code 16 1 17 (.iload_n 2) := ⟨by decide +kernel, rfl⟩
set_option maxRecDepth 100000 in
theorem ii_wy_weighGuest_17 : sm_D prog_7_method_7_code 17 1 18 (.iaload) := ⟨by decide +kernel, rfl⟩
set_option maxRecDepth 100000 in
theorem ii_wy_weighGuest_18 : sm_D prog_7_method_7_code 18 1 19 (.aload_n 0) := ⟨by decide +kernel, rfl⟩
set_option maxRecDepth 100000 in
theorem ii_wy_weighGuest_19 : sm_D prog_7_method_7_code 19 3 22 (.getfield 63) := ⟨by decide +kernel, rfl⟩
set_option maxRecDepth 100000 in
theorem ii_wy_weighGuest_22 : sm_D prog_7_method_7_code 22 3 25 (.if_icmp .ne 14) := ⟨by decide +kernel, rfl⟩
set_option maxRecDepth 100000 in
theorem ii_wy_weighGuest_25 : sm_D prog_7_method_7_code 25 1 26 (.iload_n 1) := ⟨by decide +kernel, rfl⟩
set_option maxRecDepth 100000 in
theorem ii_wy_weighGuest_26 : sm_D prog_7_method_7_code 26 1 27 (.iconst 1) := ⟨by decide +kernel, rfl⟩
set_option maxRecDepth 100000 in
theorem ii_wy_weighGuest_27 : sm_D prog_7_method_7_code 27 1 28 (.aload_n 0) := ⟨by decide +kernel, rfl⟩
set_option maxRecDepth 100000 in
theorem ii_wy_weighGuest_28 : sm_D prog_7_method_7_code 28 3 31 (.getfield 15) := ⟨by decide +kernel, rfl⟩
set_option maxRecDepth 100000 in
theorem ii_wy_weighGuest_31 : sm_D prog_7_method_7_code 31 1 32 (.iload_n 2) := ⟨by decide +kernel, rfl⟩
set_option maxRecDepth 100000 in
theorem ii_wy_weighGuest_32 : sm_D prog_7_method_7_code 32 1 33 (.iaload) := ⟨by decide +kernel, rfl⟩
set_option maxRecDepth 100000 in
theorem ii_wy_weighGuest_33 : sm_D prog_7_method_7_code 33 1 34 (.ishl) := ⟨by decide +kernel, rfl⟩
set_option maxRecDepth 100000 in
theorem ii_wy_weighGuest_34 : sm_D prog_7_method_7_code 34 1 35 (.ior) := ⟨by decide +kernel, rfl⟩
set_option maxRecDepth 100000 in
theorem ii_wy_weighGuest_35 : sm_D prog_7_method_7_code 35 1 36 (.istore_n 1) := ⟨by decide +kernel, rfl⟩
set_option maxRecDepth 100000 in
theorem ii_wy_weighGuest_36 : sm_D prog_7_method_7_code 36 3 39 (.iinc 2 1) := ⟨by decide +kernel, rfl⟩
set_option maxRecDepth 100000 in
theorem ii_wy_weighGuest_39 : sm_D prog_7_method_7_code 39 3 42 (.goto (-35)) := ⟨by decide +kernel, rfl⟩
set_option maxRecDepth 100000 in
theorem ii_wy_weighGuest_42 : sm_D prog_7_method_7_code 42 1 43 (.aload_n 0) := ⟨by decide +kernel, rfl⟩
set_option maxRecDepth 100000 in
theorem ii_wy_weighGuest_43 : sm_D prog_7_method_7_code 43 3 46 (.getfield 78) := ⟨by decide +kernel, rfl⟩
set_option maxRecDepth 100000 in
theorem ii_wy_weighGuest_46 : sm_D prog_7_method_7_code 46 2 48 (.bipush (-9)) := ⟨by decide +kernel, rfl⟩
set_option maxRecDepth 100000 in
theorem ii_wy_weighGuest_48 : sm_D prog_7_method_7_code 48 3 51 (.if_icmp .eq 14) := ⟨by decide +kernel, rfl⟩
set_option maxRecDepth 100000 in
theorem ii_wy_weighGuest_51 : sm_D prog_7_method_7_code 51 1 52 (.iload_n 1) := ⟨by decide +kernel, rfl⟩
set_option maxRecDepth 100000 in
theorem ii_wy_weighGuest_52 : sm_D prog_7_method_7_code 52 1 53 (.aload_n 0) := ⟨by decide +kernel, rfl⟩
set_option maxRecDepth 100000 in
theorem ii_wy_weighGuest_53 : sm_D prog_7_method_7_code 53 3 56 (.getfield 78) := ⟨by decide +kernel, rfl⟩
set_option maxRecDepth 100000 in
theorem ii_wy_weighGuest_56 : sm_D prog_7_method_7_code 56 3 59 (.invokestatic 111) := ⟨by decide +kernel, rfl⟩
set_option maxRecDepth 100000 in
theorem ii_wy_weighGuest_59 : sm_D prog_7_method_7_code 59 3 62 (.ifCond .eq 8) := ⟨by decide +kernel, rfl⟩
set_option maxRecDepth 100000 in
theorem ii_wy_weighGuest_62 : sm_D prog_7_method_7_code 62 1 63 (.aload_n 0) := ⟨by decide +kernel, rfl⟩
set_option maxRecDepth 100000 in
theorem ii_wy_weighGuest_63 : sm_D prog_7_method_7_code 63 1 64 (.iload_n 1) := ⟨by decide +kernel, rfl⟩
set_option maxRecDepth 100000 in
theorem ii_wy_weighGuest_64 : sm_D prog_7_method_7_code 64 3 67 (.putfield 78) := ⟨by decide +kernel, rfl⟩
set_option maxRecDepth 100000 in
theorem ii_wy_weighGuest_67 : sm_D prog_7_method_7_code 67 1 68 (.return_) := ⟨by decide +kernel, rfl⟩
noncomputable def ff_wy_weighGuest_62  (a1 : Int32) (w : sm_Mem) : sm_R := (sm_let (sm_wI w 49 13 a1) fun w1 => (some (.null, w1)))
set_option maxHeartbeats 4000000 in
set_option maxRecDepth 100000 in
theorem ss_wy_weighGuest_62 {E : Nat × (Nat → Int32)}  (a1 : Int32) (w : sm_Mem) : sm_Sim E (mi_wy_weighGuest) 62 [some (.ref 49), some (.int a1), none] [] w (ff_wy_weighGuest_62  a1 w) := by
  unfold ff_wy_weighGuest_62
  refine sm_aload_n ii_wy_weighGuest_62 rfl ?_
  refine sm_iload_n ii_wy_weighGuest_63 rfl ?_
  refine sm_putI ii_wy_weighGuest_64 fp_wy_78 (k := 49) rfl (fun w1 => ?_)
  exact sm_vret ii_wy_weighGuest_67 rfl
noncomputable def ff_wy_weighGuest_4_b  (self4 : Int32 → Int32 → sm_Mem → sm_R) (a1 : Int32) (a2 : Int32) (w : sm_Mem) : sm_R := (if (w.1 49 3) ≤ a2 then (if (w.1 49 13) = (-9 : Int32) then ff_wy_weighGuest_62 (a1) w else (sm_cI (ff_wy_isLess (a1) ((w.1 49 13)) w) fun x2 w3 => (if x2 = (0 : Int32) then (some (.null, w3)) else ff_wy_weighGuest_62 (a1) w3))) else (Option.bind (sm_rd w 52 5 a2) fun x4 => (if x4 = (w.1 49 12) then (Option.bind (sm_rd w 50 5 a2) fun x5 => self4 ((a1 ||| ((1 : Int32) <<< (x5 &&& (31 : Int32))))) ((a2 + (1 : Int32))) w) else self4 (a1) ((a2 + (1 : Int32))) w)))
noncomputable def ff_wy_weighGuest_4_f  : Nat → Int32 → Int32 → sm_Mem → sm_R
  | 0, _, _, _ => none
  | n + 1, a1, a2, w => ff_wy_weighGuest_4_b  (ff_wy_weighGuest_4_f  n) a1 a2 w
noncomputable def ff_wy_weighGuest_4  (a1 : Int32) (a2 : Int32) (w : sm_Mem) : sm_R := ff_wy_weighGuest_4_f  sm_N a1 a2 w
set_option maxHeartbeats 4000000 in
set_option maxRecDepth 100000 in
theorem ss_wy_weighGuest_4_b {E : Nat × (Nat → Int32)}  (self4 : Int32 → Int32 → sm_Mem → sm_R) (hself4 : ∀ (a1 : Int32) (a2 : Int32) (w : sm_Mem), sm_Sim E (mi_wy_weighGuest) 4 [some (.ref 49), some (.int a1), some (.int a2)] [] w (self4 a1 a2 w)) (a1 : Int32) (a2 : Int32) (w : sm_Mem) : sm_Sim E (mi_wy_weighGuest) 4 [some (.ref 49), some (.int a1), some (.int a2)] [] w (ff_wy_weighGuest_4_b  self4 a1 a2 w) := by
  unfold ff_wy_weighGuest_4_b
  refine sm_iload_n ii_wy_weighGuest_4 rfl ?_
  refine sm_aload_n ii_wy_weighGuest_5 rfl ?_
  refine sm_getI ii_wy_weighGuest_6 fl_wy_49 (k := 49) rfl ?_
  refine sm_icmp_ge 42 ii_wy_weighGuest_9 (by decide) ?_ ?_
  · refine sm_aload_n ii_wy_weighGuest_42 rfl ?_
    refine sm_getI ii_wy_weighGuest_43 fl_wy_78 (k := 49) rfl ?_
    refine sm_bipush (-9 : Int32) ii_wy_weighGuest_46 (by decide) ?_
    refine sm_icmp_eq 62 ii_wy_weighGuest_48 (by decide) ?_ ?_
    · refine sm_msk [true, true, false] [some (.ref 49), some (.int a1), none] rfl ?_
      exact ss_wy_weighGuest_62 (a1) w
    · refine sm_iload_n ii_wy_weighGuest_51 rfl ?_
      refine sm_aload_n ii_wy_weighGuest_52 rfl ?_
      refine sm_getI ii_wy_weighGuest_53 fl_wy_78 (k := 49) rfl ?_
      refine sm_csI [.int a1, .int (w.1 49 13)] [] rfl ii_wy_weighGuest_56 ml_wy_111 (mf_wy_isLess) (mv_wy_isLess) (Nat.le_of_ble_eq_true rfl) rfl rfl rfl (mc_wy_isLess (a1) ((w.1 49 13)) w) (fun x2 w3 => ?_)
      refine sm_if_eq 67 ii_wy_weighGuest_59 (by decide) ?_ ?_
      · exact sm_vret ii_wy_weighGuest_67 rfl
      · refine sm_msk [true, true, false] [some (.ref 49), some (.int a1), none] rfl ?_
        exact ss_wy_weighGuest_62 (a1) w3
  · refine sm_aload_n ii_wy_weighGuest_12 rfl ?_
    refine sm_getR 52 ii_wy_weighGuest_13 fl_wy_22 (k := 49) rfl ?_
    refine sm_iload_n ii_wy_weighGuest_16 rfl ?_
    refine sm_iald ii_wy_weighGuest_17 (k := 52) rfl (fun x4 => ?_)
    refine sm_aload_n ii_wy_weighGuest_18 rfl ?_
    refine sm_getI ii_wy_weighGuest_19 fl_wy_63 (k := 49) rfl ?_
    refine sm_icmp_ne 36 ii_wy_weighGuest_22 (by decide) ?_ ?_
    · refine sm_iload_n ii_wy_weighGuest_25 rfl ?_
      refine sm_iconst (1 : Int32) ii_wy_weighGuest_26 (by decide) ?_
      refine sm_aload_n ii_wy_weighGuest_27 rfl ?_
      refine sm_getR 50 ii_wy_weighGuest_28 fl_wy_15 (k := 49) rfl ?_
      refine sm_iload_n ii_wy_weighGuest_31 rfl ?_
      refine sm_iald ii_wy_weighGuest_32 (k := 50) rfl (fun x5 => ?_)
      refine sm_ishl ii_wy_weighGuest_33 ?_
      refine sm_ior ii_wy_weighGuest_34 ?_
      refine sm_istore_n [some (.ref 49), some (.int (a1 ||| ((1 : Int32) <<< (x5 &&& (31 : Int32))))), some (.int a2)] ii_wy_weighGuest_35 rfl rfl ?_
      refine sm_iinc (a2 + (1 : Int32)) [some (.ref 49), some (.int (a1 ||| ((1 : Int32) <<< (x5 &&& (31 : Int32))))), some (.int (a2 + (1 : Int32)))] ii_wy_weighGuest_36 rfl rfl rfl rfl ?_
      refine sm_goto 4 ii_wy_weighGuest_39 (by decide) ?_
      exact hself4 ((a1 ||| ((1 : Int32) <<< (x5 &&& (31 : Int32))))) ((a2 + (1 : Int32))) w
    · refine sm_iinc (a2 + (1 : Int32)) [some (.ref 49), some (.int a1), some (.int (a2 + (1 : Int32)))] ii_wy_weighGuest_36 rfl rfl rfl rfl ?_
      refine sm_goto 4 ii_wy_weighGuest_39 (by decide) ?_
      exact hself4 (a1) ((a2 + (1 : Int32))) w
set_option maxHeartbeats 4000000 in
set_option maxRecDepth 100000 in
theorem ss_wy_weighGuest_4_f {E : Nat × (Nat → Int32)}  : ∀ (n : Nat) (a1 : Int32) (a2 : Int32) (w : sm_Mem), sm_Sim E (mi_wy_weighGuest) 4 [some (.ref 49), some (.int a1), some (.int a2)] [] w (ff_wy_weighGuest_4_f  n a1 a2 w)
  | 0, _, _, _ => fun _ _ h => by cases h
  | n + 1, a1, a2, w => ss_wy_weighGuest_4_b  _ (ss_wy_weighGuest_4_f  n) a1 a2 w
set_option maxHeartbeats 4000000 in
set_option maxRecDepth 100000 in
theorem ss_wy_weighGuest_4 {E : Nat × (Nat → Int32)}  (a1 : Int32) (a2 : Int32) (w : sm_Mem) : sm_Sim E (mi_wy_weighGuest) 4 [some (.ref 49), some (.int a1), some (.int a2)] [] w (ff_wy_weighGuest_4  a1 a2 w) := ss_wy_weighGuest_4_f  sm_N a1 a2 w
noncomputable def ff_wy_weighGuest   (w : sm_Mem) : sm_R := ff_wy_weighGuest_4 ((0 : Int32)) ((0 : Int32)) w
set_option maxHeartbeats 4000000 in
set_option maxRecDepth 100000 in
theorem ss_wy_weighGuest_0 {E : Nat × (Nat → Int32)}   (w : sm_Mem) : sm_Sim E (mi_wy_weighGuest) 0 [some (.ref 49), none, none] [] w (ff_wy_weighGuest   w) := by
  unfold ff_wy_weighGuest
  refine sm_iconst (0 : Int32) ii_wy_weighGuest_0 (by decide) ?_
  refine sm_istore_n [some (.ref 49), some (.int (0 : Int32)), none] ii_wy_weighGuest_1 rfl rfl ?_
  refine sm_iconst (0 : Int32) ii_wy_weighGuest_2 (by decide) ?_
  refine sm_istore_n [some (.ref 49), some (.int (0 : Int32)), some (.int (0 : Int32))] ii_wy_weighGuest_3 rfl rfl ?_
  exact ss_wy_weighGuest_4 ((0 : Int32)) ((0 : Int32)) w
set_option maxHeartbeats 4000000 in
set_option maxRecDepth 100000 in
theorem mc_wy_weighGuest  (w : sm_Mem) : sm_MC mi_wy_weighGuest [.ref 49] w (ff_wy_weighGuest  w) := sm_MC_of (0, fun _ => 0) (by decide +kernel) (by decide) rfl (Nat.le_of_ble_eq_true rfl) (ss_wy_weighGuest_0  w)
