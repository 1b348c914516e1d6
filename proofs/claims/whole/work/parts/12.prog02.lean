/-! the program, by a program: functions of its methods and that the methods do them -/
set_option maxRecDepth 100000 in
theorem fl_ho_31 : sm_FL "HerOrders" 31 6 2 := ⟨RX6, TX6, 7, rfl, by decide, rfl, sm_inX6, Or.inl (List.mem_of_getElem? (i := 365) (by decide +kernel))⟩
set_option maxRecDepth 100000 in
theorem fl_ho_115 : sm_FL "HerOrders" 115 1 0 := ⟨RX1, TX1, 13, rfl, by decide, rfl, sm_inX1, Or.inr ⟨"HerOrders", List.mem_of_getElem? (i := 205) (by decide +kernel)⟩⟩
set_option maxRecDepth 100000 in
theorem fl_ho_23 : sm_FL "HerOrders" 23 6 3 := ⟨RX6, TX6, 7, rfl, by decide, rfl, sm_inX6, Or.inl (List.mem_of_getElem? (i := 366) (by decide +kernel))⟩
set_option maxRecDepth 100000 in
theorem fp_ho_114 : sm_FP "HerOrders" 114 0 3 .int := ⟨RX0, TX0, 4, tyX0, rfl, by decide, rfl, sm_inX0, tyX0_ok, nmX0, rfl, by decide +kernel, Or.inr ⟨"HerOrders", List.mem_of_getElem? (i := 184) (by decide +kernel)⟩⟩
set_option maxRecDepth 100000 in
theorem ml_ho_110 : sm_ML "HerOrders" 110 ⟨"HerOrders$House", "settle", "(LHerOrders$Row;)V"⟩ := Or.inr ⟨"HerOrders", List.mem_of_getElem? (i := 477) (by decide +kernel)⟩
set_option maxRecDepth 100000 in
theorem fl_mo_135 : sm_FL "HerOrdersModel" 135 7 1 := ⟨RX7, TX7, 30, rfl, by decide, rfl, sm_inX7, Or.inl (List.mem_of_getElem? (i := 943) (by decide +kernel))⟩
set_option maxRecDepth 100000 in
theorem fl_mo_7 : sm_FL "HerOrdersModel" 7 7 0 := ⟨RX7, TX7, 30, rfl, by decide, rfl, sm_inX7, Or.inl (List.mem_of_getElem? (i := 942) (by decide +kernel))⟩
set_option maxRecDepth 100000 in
theorem fl_mo_13 : sm_FL "HerOrdersModel" 13 7 2 := ⟨RX7, TX7, 30, rfl, by decide, rfl, sm_inX7, Or.inl (List.mem_of_getElem? (i := 944) (by decide +kernel))⟩
set_option maxRecDepth 100000 in
theorem fl_mo_16 : sm_FL "HerOrdersModel" 16 7 3 := ⟨RX7, TX7, 30, rfl, by decide, rfl, sm_inX7, Or.inl (List.mem_of_getElem? (i := 945) (by decide +kernel))⟩
set_option maxRecDepth 100000 in
theorem fl_mo_19 : sm_FL "HerOrdersModel" 19 7 4 := ⟨RX7, TX7, 30, rfl, by decide, rfl, sm_inX7, Or.inl (List.mem_of_getElem? (i := 946) (by decide +kernel))⟩
set_option maxRecDepth 100000 in
theorem fp_mo_135 : sm_FP "HerOrdersModel" 135 7 1 .int := ⟨RX7, TX7, 30, tyX7, rfl, by decide, rfl, sm_inX7, tyX7_ok, nmX7, rfl, by decide +kernel, Or.inl (List.mem_of_getElem? (i := 943) (by decide +kernel))⟩
set_option maxRecDepth 100000 in
theorem ml_hs_129 : sm_ML "HerOrders$House" 129 ⟨"HerOrders$House", "saidBy", "(I)I"⟩ := Or.inl (List.mem_of_getElem? (i := 509) (by decide +kernel))
set_option maxRecDepth 100000 in
theorem ml_ho_118 : sm_ML "HerOrders" 118 ⟨"HerOrders", "isSpeaker", "(I)Z"⟩ := Or.inl (List.mem_of_getElem? (i := 501) (by decide +kernel))
set_option maxRecDepth 100000 in
theorem ml_ho_122 : sm_ML "HerOrders" 122 ⟨"HerOrders$House", "factOf", "(II)I"⟩ := Or.inr ⟨"HerOrders", List.mem_of_getElem? (i := 505) (by decide +kernel)⟩
set_option maxRecDepth 100000 in
theorem ml_mo_160 : sm_ML "HerOrdersModel" 160 ⟨"HerOrdersModel", "isSpeaker", "(I)Z"⟩ := Or.inl (List.mem_of_getElem? (i := 1131) (by decide +kernel))
set_option maxRecDepth 100000 in
theorem ml_mo_163 : sm_ML "HerOrdersModel" 163 ⟨"HerOrdersModel", "toldOf", "(II)I"⟩ := Or.inl (List.mem_of_getElem? (i := 1135) (by decide +kernel))
set_option maxRecDepth 100000 in
theorem ml_hs_113 : sm_ML "HerOrders$House" 113 ⟨"HerOrders$House", "lastWord", "()I"⟩ := Or.inl (List.mem_of_getElem? (i := 524) (by decide +kernel))
set_option maxRecDepth 100000 in
theorem ml_hs_117 : sm_ML "HerOrders$House" 117 ⟨"HerOrders$House", "isAble", "(IIII)Z"⟩ := Or.inl (List.mem_of_getElem? (i := 528) (by decide +kernel))
set_option maxRecDepth 100000 in
theorem mq_hs_121 : Cond.methodLink "HerOrders$House" 121 Lib.Math.abs.name ∈ lw_tbl := List.mem_of_getElem? (i := 548) (by decide +kernel)
set_option maxRecDepth 100000 in
theorem mq_st_abs : Cond.static Lib.Math.abs.name ∈ lw_tbl := List.mem_of_getElem? (i := 549) (by decide +kernel)
set_option maxRecDepth 100000 in
theorem mq_co_abs : Cond.code Lib.Math.abs.name Lib.Math.abs.code 1 (some .int) ∈ lw_tbl := List.mem_of_getElem? (i := 550) (by decide +kernel)
set_option maxRecDepth 100000 in
theorem ml_hs_109 : sm_ML "HerOrders$House" 109 ⟨"HerOrders$House", "isFree", "(I)Z"⟩ := Or.inl (List.mem_of_getElem? (i := 544) (by decide +kernel))
set_option maxRecDepth 100000 in
theorem ml_hs_82 : sm_ML "HerOrders$House" 82 ⟨"HerOrders$House", "can", "(II)Z"⟩ := Or.inl (List.mem_of_getElem? (i := 540) (by decide +kernel))
set_option maxRecDepth 100000 in
theorem ml_hs_126 : sm_ML "HerOrders$House" 126 ⟨"HerOrders$House", "sayable", "(I)I"⟩ := Or.inl (List.mem_of_getElem? (i := 536) (by decide +kernel))
set_option maxRecDepth 100000 in
theorem fl_ho_126 : sm_FL "HerOrders" 126 1 1 := ⟨RX1, TX1, 13, rfl, by decide, rfl, sm_inX1, Or.inr ⟨"HerOrders", List.mem_of_getElem? (i := 207) (by decide +kernel)⟩⟩
set_option maxRecDepth 100000 in
theorem ml_ho_129 : sm_ML "HerOrders" 129 ⟨"HerOrders", "isOf", "(II)Z"⟩ := Or.inl (List.mem_of_getElem? (i := 517) (by decide +kernel))
set_option maxRecDepth 100000 in
theorem ml_ho_132 : sm_ML "HerOrders" 132 ⟨"HerOrders$House", "echoesOf", "(I)I"⟩ := Or.inr ⟨"HerOrders", List.mem_of_getElem? (i := 520) (by decide +kernel)⟩
set_option maxRecDepth 100000 in
theorem fl_ho_135 : sm_FL "HerOrders" 135 1 7 := ⟨RX1, TX1, 13, rfl, by decide, rfl, sm_inX1, Or.inr ⟨"HerOrders", List.mem_of_getElem? (i := 217) (by decide +kernel)⟩⟩
set_option maxRecDepth 100000 in
theorem ml_ho_138 : sm_ML "HerOrders" 138 ⟨"HerOrders$House", "othersWhoCan", "(I)I"⟩ := Or.inr ⟨"HerOrders", List.mem_of_getElem? (i := 532) (by decide +kernel)⟩
set_option maxRecDepth 100000 in
theorem fl_ho_141 : sm_FL "HerOrders" 141 1 2 := ⟨RX1, TX1, 13, rfl, by decide, rfl, sm_inX1, Or.inr ⟨"HerOrders", List.mem_of_getElem? (i := 209) (by decide +kernel)⟩⟩
set_option maxRecDepth 100000 in
theorem ml_ho_144 : sm_ML "HerOrders" 144 ⟨"java/lang/Integer", "bitCount", "(I)I"⟩ := Or.inl (List.mem_of_getElem? (i := 551) (by decide +kernel))
set_option maxRecDepth 100000 in
theorem ml_ho_149 : sm_ML "HerOrders" 149 ⟨"HerOrders$House", "othersInRoom", "(I)I"⟩ := Or.inr ⟨"HerOrders", List.mem_of_getElem? (i := 557) (by decide +kernel)⟩
abbrev mi_ho_house : sm_MI := (⟨"HerOrders", "house", "(I)I"⟩, prog_1_method_11_code, 4, (some .int), 5)
set_option maxRecDepth 100000 in
theorem mf_ho_house : sm_MF mi_ho_house 1 := ⟨List.mem_of_getElem? (i := 476) (by decide +kernel), List.mem_of_getElem? (i := 124) (by decide +kernel), ⟨by decide, by decide⟩, by decide +kernel⟩
set_option maxRecDepth 100000 in
theorem mv_ho_house : sm_MFV mi_ho_house := ⟨List.mem_of_getElem? (i := 474) (by decide +kernel), List.mem_of_getElem? (i := 475) (by decide +kernel)⟩
set_option maxRecDepth 100000 in
theorem ii_ho_house_0 : sm_D prog_1_method_11_code 0 1 1 (.aload_n 0) := ⟨by decide +kernel, rfl⟩
set_option maxRecDepth 100000 in
theorem ii_ho_house_1 : sm_D prog_1_method_11_code 1 1 2 (.aload_n 0) := ⟨by decide +kernel, rfl⟩
set_option maxRecDepth 100000 in
theorem ii_ho_house_2 : sm_D prog_1_method_11_code 2 3 5 (.getfield 18) := ⟨by decide +kernel, rfl⟩
set_option maxRecDepth 100000 in
theorem ii_ho_house_5 : sm_D prog_1_method_11_code 5 1 6 (.iload_n 1) := ⟨by decide +kernel, rfl⟩
set_option maxRecDepth 100000 in
theorem ii_ho_house_6 : sm_D prog_1_method_11_code 6 3 9 (.invokevirtual 74) := ⟨by decide +kernel, rfl⟩
set_option maxRecDepth 100000 in
theorem ii_ho_house_9 : sm_D prog_1_method_11_code 9 1 10 (.istore_n 2) := ⟨by decide +kernel, rfl⟩
set_option maxRecDepth 100000 in
theorem ii_ho_house_10 : sm_D prog_1_method_11_code 10 1 11 (.iload_n 2) := ⟨by decide +kernel, rfl⟩
set_option maxRecDepth 100000 in
theorem ii_ho_house_11 : sm_D prog_1_method_11_code 11 3 14 (.ifCond .eq 5) := ⟨by decide +kernel, rfl⟩
set_option maxRecDepth 100000 in
theorem ii_ho_house_14 : sm_D prog_1_method_11_code 14 1 15 (.iload_n 2) := ⟨by decide +kernel, rfl⟩
set_option maxRecDepth 100000 in
theorem ii_ho_house_15 : sm_D prog_1_method_11_code 15 1 16 (.ireturn) := ⟨by decide +kernel, rfl⟩
set_option maxRecDepth 100000 in
theorem ii_ho_house_16 : sm_D prog_1_method_11_code 16 1 17 (.aload_n 0) := ⟨by decide +kernel, rfl⟩
set_option maxRecDepth 100000 in
theorem ii_ho_house_17 : sm_D prog_1_method_11_code 17 3 20 (.getfield 18) := ⟨by decide +kernel, rfl⟩
set_option maxRecDepth 100000 in
theorem ii_ho_house_20 : sm_D prog_1_method_11_code 20 1 21 (.iload_n 1) := ⟨by decide +kernel, rfl⟩
set_option maxRecDepth 100000 in
theorem ii_ho_house_21 : sm_D prog_1_method_11_code 21 1 22 (.aaload) := ⟨by decide +kernel, rfl⟩
set_option maxRecDepth 100000 in
theorem ii_ho_house_22 : sm_D prog_1_method_11_code 22 3 25 (.invokestatic 106) := ⟨by decide +kernel, rfl⟩
set_option maxRecDepth 100000 in
theorem ii_ho_house_25 : sm_D prog_1_method_11_code 25 2 27 (.bipush (-9)) := ⟨by decide +kernel, rfl⟩
set_option maxRecDepth 100000 in
theorem ii_ho_house_27 : sm_D prog_1_method_11_code 27 3 30 (.if_icmp .eq 6) := ⟨by decide +kernel, rfl⟩
set_option maxRecDepth 100000 in
theorem ii_ho_house_30 : sm_D prog_1_method_11_code 30 2 32 (.bipush (-4)) := ⟨by decide +kernel, rfl⟩
set_option maxRecDepth 100000 in
theorem ii_ho_house_32 : sm_D prog_1_method_11_code 32 1 33 (.ireturn) := ⟨by decide +kernel, rfl⟩
set_option maxRecDepth 100000 in
theorem ii_ho_house_33 : sm_D prog_1_method_11_code 33 1 34 (.aload_n 0) := ⟨by decide +kernel, rfl⟩
set_option maxRecDepth 100000 in
theorem ii_ho_house_34 : sm_D prog_1_method_11_code 34 3 37 (.getfield 31) := ⟨by decide +kernel, rfl⟩
set_option maxRecDepth 100000 in
theorem ii_ho_house_37 : sm_D prog_1_method_11_code 37 1 38 (.aload_n 0) := ⟨by decide +kernel, rfl⟩
set_option maxRecDepth 100000 in
theorem ii_ho_house_38 : sm_D prog_1_method_11_code 38 3 41 (.getfield 18) := ⟨by decide +kernel, rfl⟩
set_option maxRecDepth 100000 in
theorem ii_ho_house_41 : sm_D prog_1_method_11_code 41 1 42 (.iload_n 1) := ⟨by decide +kernel, rfl⟩
set_option maxRecDepth 100000 in
theorem ii_ho_house_42 : sm_D prog_1_method_11_code 42 1 43 (.aaload) := ⟨by decide +kernel, rfl⟩
set_option maxRecDepth 100000 in
theorem ii_ho_house_43 : sm_D prog_1_method_11_code 43 3 46 (.invokevirtual 110) := ⟨by decide +kernel, rfl⟩
set_option maxRecDepth 100000 in
theorem ii_ho_house_46 : sm_D prog_1_method_11_code 46 1 47 (.iconst 0) := ⟨by decide +kernel, rfl⟩
set_option maxRecDepth 100000 in
theorem ii_ho_house_47 : sm_D prog_1_method_11_code 47 1 48 (.istore_n 3) := ⟨by decide +kernel, rfl⟩
set_option maxRecDepth 100000 in
theorem ii_ho_house_48 : sm_D prog_1_method_11_code 48 1 49 (.iload_n 3) := ⟨by decide +kernel, rfl⟩
set_option maxRecDepth 100000 in
theorem ii_ho_house_49 : sm_D prog_1_method_11_code 49 1 50 (.iconst 3) := ⟨by decide +kernel, rfl⟩
set_option maxRecDepth 100000 in
theorem ii_ho_house_50 : sm_D prog_1_method_11_code 50 3 53 (.if_icmp .ge 20) := ⟨by decide +kernel, rfl⟩
set_option maxRecDepth 100000 in
theorem ii_ho_house_53 : sm_D prog_1_method_11_code 53 1 54 (.aload_n 0) := ⟨by decide +kernel, rfl⟩
set_option maxRecDepth 100000 in
theorem ii_ho_house_54 : sm_D prog_1_method_11_code 54 3 57 (.getfield 23) := ⟨by decide +kernel, rfl⟩
set_option maxRecDepth 100000 in
theorem ii_ho_house_57 : sm_D prog_1_method_11_code 57 1 58 (.iload_n 3) := ⟨by decide +kernel, rfl⟩
set_option maxRecDepth 100000 in
theorem ii_ho_house_58 : sm_D prog_1_method_11_code 58 1 59 (.aaload) := ⟨by decide +kernel, rfl⟩
set_option maxRecDepth 100000 in
theorem ii_ho_house_59 : sm_D prog_1_method_11_code 59 2 61 (.bipush (-9)) := ⟨by decide +kernel, rfl⟩
set_option maxRecDepth 100000 in
theorem ii_ho_house_61 : sm_D prog_1_method_11_code 61 3 64 (.putfield 114) := ⟨by decide +kernel, rfl⟩
set_option maxRecDepth 100000 in
theorem ii_ho_house_64 : sm_D prog_1_method_11_code 64 3 67 (.iinc 3 1) := ⟨by decide +kernel, rfl⟩
set_option maxRecDepth 100000 in
theorem ii_ho_house_67 : sm_D prog_1_method_11_code 67 3 70 (.goto (-19)) := ⟨by decide +kernel, rfl⟩
set_option maxRecDepth 100000 in
theorem ii_ho_house_70 : sm_D prog_1_method_11_code 70 1 71 (.aload_n 0) := ⟨by decide +kernel, rfl⟩
set_option maxRecDepth 100000 in
theorem ii_ho_house_71 : sm_D prog_1_method_11_code 71 3 74 (.getfield 31) := ⟨by decide +kernel, rfl⟩
set_option maxRecDepth 100000 in
theorem ii_ho_house_74 : sm_D prog_1_method_11_code 74 3 77 (.getfield 115) := ⟨by decide +kernel, rfl⟩
set_option maxRecDepth 100000 in
theorem ii_ho_house_77 : sm_D prog_1_method_11_code 77 1 78 (.ireturn) := ⟨by decide +kernel, rfl⟩
noncomputable def ff_ho_house_48_b  (self48 : Int32 → sm_Mem → sm_R) (a3 : Int32) (w : sm_Mem) : sm_R := (if (3 : Int32) ≤ a3 then (some (.int (w.1 36 0), w)) else (Option.bind (sm_rr 23 a3) fun r1 => (Option.bind (sm_pI w r1 0 3 (-9 : Int32)) fun w2 => self48 ((a3 + (1 : Int32))) w2)))
noncomputable def ff_ho_house_48_f  : Nat → Int32 → sm_Mem → sm_R
  | 0, _, _ => none
  | n + 1, a3, w => ff_ho_house_48_b  (ff_ho_house_48_f  n) a3 w
noncomputable def ff_ho_house_48  (a3 : Int32) (w : sm_Mem) : sm_R := ff_ho_house_48_f  sm_N a3 w
set_option maxHeartbeats 4000000 in
set_option maxRecDepth 100000 in
theorem ss_ho_house_48_b {E : Nat × (Nat → Int32)}  (self48 : Int32 → sm_Mem → sm_R) (hself48 : ∀ (a3 : Int32) (w : sm_Mem), sm_Sim E (mi_ho_house) 48 [some (.ref 0), none, none, some (.int a3)] [] w (self48 a3 w)) (a3 : Int32) (w : sm_Mem) : sm_Sim E (mi_ho_house) 48 [some (.ref 0), none, none, some (.int a3)] [] w (ff_ho_house_48_b  self48 a3 w) := by
  unfold ff_ho_house_48_b
  refine sm_iload_n ii_ho_house_48 rfl ?_
  refine sm_iconst (3 : Int32) ii_ho_house_49 (by decide) ?_
  refine sm_icmp_ge 70 ii_ho_house_50 (by decide) ?_ ?_
  · refine sm_aload_n ii_ho_house_70 rfl ?_
    refine sm_getR 36 ii_ho_house_71 fl_ho_31 (k := 0) rfl ?_
    refine sm_getI ii_ho_house_74 fl_ho_115 (k := 36) rfl ?_
    exact sm_iret ii_ho_house_77 rfl
  · refine sm_aload_n ii_ho_house_53 rfl ?_
    refine sm_getR 23 ii_ho_house_54 fl_ho_23 (k := 0) rfl ?_
    refine sm_iload_n ii_ho_house_57 rfl ?_
    refine sm_aald ii_ho_house_58 (fun r1 => ?_)
    refine sm_bipush (-9 : Int32) ii_ho_house_59 (by decide) ?_
    refine sm_putIs ii_ho_house_61 fp_ho_114 (fun w2 => ?_)
    refine sm_iinc (a3 + (1 : Int32)) [some (.ref 0), none, none, some (.int (a3 + (1 : Int32)))] ii_ho_house_64 rfl rfl rfl rfl ?_
    refine sm_goto 48 ii_ho_house_67 (by decide) ?_
    exact hself48 ((a3 + (1 : Int32))) w2
set_option maxHeartbeats 4000000 in
set_option maxRecDepth 100000 in
theorem ss_ho_house_48_f {E : Nat × (Nat → Int32)}  : ∀ (n : Nat) (a3 : Int32) (w : sm_Mem), sm_Sim E (mi_ho_house) 48 [some (.ref 0), none, none, some (.int a3)] [] w (ff_ho_house_48_f  n a3 w)
  | 0, _, _ => fun _ _ h => by cases h
  | n + 1, a3, w => ss_ho_house_48_b  _ (ss_ho_house_48_f  n) a3 w
set_option maxHeartbeats 4000000 in
set_option maxRecDepth 100000 in
theorem ss_ho_house_48 {E : Nat × (Nat → Int32)}  (a3 : Int32) (w : sm_Mem) : sm_Sim E (mi_ho_house) 48 [some (.ref 0), none, none, some (.int a3)] [] w (ff_ho_house_48  a3 w) := ss_ho_house_48_f  sm_N a3 w
noncomputable def ff_ho_house  (a1 : Int32) (w : sm_Mem) : sm_R := (sm_cI (ff_ho_refusalOfMissing (14) (a1) w) fun x3 w4 => (if x3 = (0 : Int32) then (Option.bind (sm_rr 14 a1) fun r5 => (sm_cI (ff_ho_faultOf (r5) w4) fun x6 w7 => (if x6 = (-9 : Int32) then (Option.bind (sm_rr 14 a1) fun r8 => (sm_cV (ff_hs_settle (r8) w7) fun w10 => ff_ho_house_48 ((0 : Int32)) w10)) else (some (.int (-4 : Int32), w7))))) else (some (.int x3, w4))))
set_option maxHeartbeats 4000000 in
set_option maxRecDepth 100000 in
theorem ss_ho_house_0 {E : Nat × (Nat → Int32)}  (a1 : Int32) (w : sm_Mem) : sm_Sim E (mi_ho_house) 0 [some (.ref 0), some (.int a1), none, none] [] w (ff_ho_house  a1 w) := by
  unfold ff_ho_house
  refine sm_aload_n ii_ho_house_0 rfl ?_
  refine sm_aload_n ii_ho_house_1 rfl ?_
  refine sm_getR 14 ii_ho_house_2 fl_ho_18 (k := 0) rfl ?_
  refine sm_iload_n ii_ho_house_5 rfl ?_
  refine sm_cvI [.ref 14, .int a1] [] rfl ii_ho_house_6 ml_ho_74 (mf_ho_refusalOfMissing) (mv_ho_refusalOfMissing) (Nat.le_of_ble_eq_true rfl) rfl 6 rfl rfl rfl rfl (mc_ho_refusalOfMissing (14) (a1) w) (fun x3 w4 => ?_)
  refine sm_istore_n [some (.ref 0), some (.int a1), some (.int x3), none] ii_ho_house_9 rfl rfl ?_
  refine sm_iload_n ii_ho_house_10 rfl ?_
  refine sm_if_eq 16 ii_ho_house_11 (by decide) ?_ ?_
  · refine sm_aload_n ii_ho_house_16 rfl ?_
    refine sm_getR 14 ii_ho_house_17 fl_ho_18 (k := 0) rfl ?_
    refine sm_iload_n ii_ho_house_20 rfl ?_
    refine sm_aald ii_ho_house_21 (fun r5 => ?_)
    refine sm_csI [.ref r5] [] rfl ii_ho_house_22 ml_ho_106 (mf_ho_faultOf) (mv_ho_faultOf) (Nat.le_of_ble_eq_true rfl) rfl rfl rfl (mc_ho_faultOf (r5) w4) (fun x6 w7 => ?_)
    refine sm_bipush (-9 : Int32) ii_ho_house_25 (by decide) ?_
    refine sm_icmp_eq 33 ii_ho_house_27 (by decide) ?_ ?_
    · refine sm_aload_n ii_ho_house_33 rfl ?_
      refine sm_getR 36 ii_ho_house_34 fl_ho_31 (k := 0) rfl ?_
      refine sm_aload_n ii_ho_house_37 rfl ?_
      refine sm_getR 14 ii_ho_house_38 fl_ho_18 (k := 0) rfl ?_
      refine sm_iload_n ii_ho_house_41 rfl ?_
      refine sm_aald ii_ho_house_42 (fun r8 => ?_)
      refine sm_cvV [.ref r8] [] rfl ii_ho_house_43 ml_ho_110 (mf_hs_settle) (mv_hs_settle) (Nat.le_of_ble_eq_true rfl) rfl 1 rfl rfl rfl rfl (mc_hs_settle (r8) w7) (fun w10 => ?_)
      refine sm_iconst (0 : Int32) ii_ho_house_46 (by decide) ?_
      refine sm_istore_n [some (.ref 0), some (.int a1), some (.int x3), some (.int (0 : Int32))] ii_ho_house_47 rfl rfl ?_
      refine sm_msk [true, false, false, true] [some (.ref 0), none, none, some (.int (0 : Int32))] rfl ?_
      exact ss_ho_house_48 ((0 : Int32)) w10
    · refine sm_bipush (-4 : Int32) ii_ho_house_30 (by decide) ?_
      exact sm_iret ii_ho_house_32 rfl
  · refine sm_iload_n ii_ho_house_14 rfl ?_
    exact sm_iret ii_ho_house_15 rfl
set_option maxHeartbeats 4000000 in
set_option maxRecDepth 100000 in
theorem mc_ho_house (a1 : Int32) (w : sm_Mem) : sm_MC mi_ho_house [.ref 0, .int a1] w (ff_ho_house a1 w) := sm_MC_of (0, fun _ => 0) (by decide +kernel) (by decide) rfl (Nat.le_of_ble_eq_true rfl) (ss_ho_house_0 a1 w)
abbrev mi_mo_house : sm_MI := (⟨"HerOrdersModel", "house", "(I)I"⟩, prog_9_method_27_code, 3, (some .int), 5)
set_option maxRecDepth 100000 in
theorem mf_mo_house : sm_MF mi_mo_house 1 := ⟨List.mem_of_getElem? (i := 1126) (by decide +kernel), List.mem_of_getElem? (i := 132) (by decide +kernel), ⟨by decide, by decide⟩, by decide +kernel⟩
set_option maxRecDepth 100000 in
theorem mv_mo_house : sm_MFV mi_mo_house := ⟨List.mem_of_getElem? (i := 1124) (by decide +kernel), List.mem_of_getElem? (i := 1125) (by decide +kernel)⟩
set_option maxRecDepth 100000 in
theorem ii_mo_house_0 : sm_D prog_9_method_27_code 0 1 1 (.iload_n 1) := ⟨by decide +kernel, rfl⟩
set_option maxRecDepth 100000 in
theorem ii_mo_house_1 : sm_D prog_9_method_27_code 1 3 4 (.invokestatic 100) := ⟨by decide +kernel, rfl⟩
set_option maxRecDepth 100000 in
theorem ii_mo_house_4 : sm_D prog_9_method_27_code 4 3 7 (.ifCond .ne 5) := ⟨by decide +kernel, rfl⟩
set_option maxRecDepth 100000 in
theorem ii_mo_house_7 : sm_D prog_9_method_27_code 7 1 8 (.iconst (-1)) := ⟨by decide +kernel, rfl⟩
set_option maxRecDepth 100000 in
theorem ii_mo_house_8 : sm_D prog_9_method_27_code 8 1 9 (.ireturn) := ⟨by decide +kernel, rfl⟩
set_option maxRecDepth 100000 in
theorem ii_mo_house_9 : sm_D prog_9_method_27_code 9 1 10 (.aload_n 0) := ⟨by decide +kernel, rfl⟩
set_option maxRecDepth 100000 in
theorem ii_mo_house_10 : sm_D prog_9_method_27_code 10 3 13 (.getfield 28) := ⟨by decide +kernel, rfl⟩
set_option maxRecDepth 100000 in
theorem ii_mo_house_13 : sm_D prog_9_method_27_code 13 1 14 (.iload_n 1) := ⟨by decide +kernel, rfl⟩
set_option maxRecDepth 100000 in
theorem ii_mo_house_14 : sm_D prog_9_method_27_code 14 1 15 (.iaload) := ⟨by decide +kernel, rfl⟩
set_option maxRecDepth 100000 in
theorem ii_mo_house_15 : sm_D prog_9_method_27_code 15 3 18 (.ifCond .ge 9) := ⟨by decide +kernel, rfl⟩
set_option maxRecDepth 100000 in
theorem ii_mo_house_18 : sm_D prog_9_method_27_code 18 1 19 (.aload_n 0) := ⟨by decide +kernel, rfl⟩
set_option maxRecDepth 100000 in
theorem ii_mo_house_19 : sm_D prog_9_method_27_code 19 1 20 (.iconst 1) := ⟨by decide +kernel, rfl⟩
set_option maxRecDepth 100000 in
theorem ii_mo_house_20 : sm_D prog_9_method_27_code 20 3 23 (.invokevirtual 81) := ⟨by decide +kernel, rfl⟩
set_option maxRecDepth 100000 in
theorem ii_mo_house_23 : sm_D prog_9_method_27_code 23 1 24 (.ireturn) := ⟨by decide +kernel, rfl⟩
set_option maxRecDepth 100000 in
theorem ii_mo_house_24 : sm_D prog_9_method_27_code 24 1 25 (.aload_n 0) := ⟨by decide +kernel, rfl⟩
set_option maxRecDepth 100000 in
theorem ii_mo_house_25 : sm_D prog_9_method_27_code 25 1 26 (.iload_n 1) := ⟨by decide +kernel, rfl⟩
set_option maxRecDepth 100000 in
theorem ii_mo_house_26 : sm_D prog_9_method_27_code 26 3 29 (.invokevirtual 132) := ⟨by decide +kernel, rfl⟩
set_option maxRecDepth 100000 in
theorem ii_mo_house_29 : sm_D prog_9_method_27_code 29 2 31 (.bipush (-9)) := ⟨by decide +kernel, rfl⟩
set_option maxRecDepth 100000 in
theorem ii_mo_house_31 : sm_D prog_9_method_27_code 31 3 34 (.if_icmp .eq 6) := ⟨by decide +kernel, rfl⟩
set_option maxRecDepth 100000 in
theorem ii_mo_house_34 : sm_D prog_9_method_27_code 34 2 36 (.bipush (-4)) := ⟨by decide +kernel, rfl⟩
set_option maxRecDepth 100000 in
theorem ii_mo_house_36 : sm_D prog_9_method_27_code 36 1 37 (.ireturn) := ⟨by decide +kernel, rfl⟩
set_option maxRecDepth 100000 in
theorem ii_mo_house_37 : sm_D prog_9_method_27_code 37 1 38 (.iconst 0) := ⟨by decide +kernel, rfl⟩
set_option maxRecDepth 100000 in
theorem ii_mo_house_38 : sm_D prog_9_method_27_code 38 1 39 (.istore_n 2) := ⟨by decide +kernel, rfl⟩
set_option maxRecDepth 100000 in
theorem ii_mo_house_39 : sm_D prog_9_method_27_code 39 1 40 (.iload_n 2) := ⟨by decide +kernel, rfl⟩
set_option maxRecDepth 100000 in
theorem ii_mo_house_40 : sm_D prog_9_method_27_code 40 3 43 (.sipush 1272) := ⟨by decide +kernel, rfl⟩
set_option maxRecDepth 100000 in
theorem ii_mo_house_43 : sm_D prog_9_method_27_code 43 3 46 (.if_icmp .ge 16) := ⟨by decide +kernel, rfl⟩
set_option maxRecDepth 100000 in
theorem ii_mo_house_46 : sm_D prog_9_method_27_code 46 1 47 (.aload_n 0) := ⟨by decide +kernel, rfl⟩
set_option maxRecDepth 100000 in
theorem ii_mo_house_47 : sm_D prog_9_method_27_code 47 3 50 (.getfield 7) := ⟨by decide +kernel, rfl⟩
set_option maxRecDepth 100000 in
theorem ii_mo_house_50 : sm_D prog_9_method_27_code 50 1 51 (.iload_n 2) := ⟨by decide +kernel, rfl⟩
set_option maxRecDepth 100000 in
theorem ii_mo_house_51 : sm_D prog_9_method_27_code 51 1 52 (.iconst 0) := ⟨by decide +kernel, rfl⟩
set_option maxRecDepth 100000 in
theorem ii_mo_house_52 : sm_D prog_9_method_27_code 52 1 53 (.iastore) := ⟨by decide +kernel, rfl⟩
set_option maxRecDepth 100000 in
theorem ii_mo_house_53 : sm_D prog_9_method_27_code 53 3 56 (.iinc 2 1) := ⟨by decide +kernel, rfl⟩
set_option maxRecDepth 100000 in
theorem ii_mo_house_56 : sm_D prog_9_method_27_code 56 3 59 (.goto (-17)) := ⟨by decide +kernel, rfl⟩
set_option maxRecDepth 100000 in
theorem ii_mo_house_59 : sm_D prog_9_method_27_code 59 1 60 (.aload_n 0) := ⟨by decide +kernel, rfl⟩
set_option maxRecDepth 100000 in
theorem ii_mo_house_60 : sm_D prog_9_method_27_code 60 1 61 (.aload_n 0) := ⟨by decide +kernel, rfl⟩
set_option maxRecDepth 100000 in
theorem ii_mo_house_61 : sm_D prog_9_method_27_code 61 3 64 (.getfield 116) := ⟨by decide +kernel, rfl⟩
set_option maxRecDepth 100000 in
theorem ii_mo_house_64 : sm_D prog_9_method_27_code 64 3 67 (.putfield 135) := ⟨by decide +kernel, rfl⟩
set_option maxRecDepth 100000 in
theorem ii_mo_house_67 : sm_D prog_9_method_27_code 67 1 68 (.iconst 0) := ⟨by decide +kernel, rfl⟩
set_option maxRecDepth 100000 in
theorem ii_mo_house_68 : sm_D prog_9_method_27_code 68 1 69 (.istore_n 2) := ⟨by decide +kernel, rfl⟩
set_option maxRecDepth 100000 in
theorem ii_mo_house_69 : sm_D prog_9_method_27_code 69 1 70 (.iload_n 2) := ⟨by decide +kernel, rfl⟩
set_option maxRecDepth 100000 in
theorem ii_mo_house_70 : sm_D prog_9_method_27_code 70 1 71 (.aload_n 0) := ⟨by decide +kernel, rfl⟩
set_option maxRecDepth 100000 in
theorem ii_mo_house_71 : sm_D prog_9_method_27_code 71 3 74 (.getfield 135) := ⟨by decide +kernel, rfl⟩
set_option maxRecDepth 100000 in
theorem ii_mo_house_74 : sm_D prog_9_method_27_code 74 3 77 (.if_icmp .ge 89) := ⟨by decide +kernel, rfl⟩
set_option maxRecDepth 100000 in
theorem ii_mo_house_77 : sm_D prog_9_method_27_code 77 1 78 (.aload_n 0) := ⟨by decide +kernel, rfl⟩
set_option maxRecDepth 100000 in
theorem ii_mo_house_78 : sm_D prog_9_method_27_code 78 3 81 (.getfield 13) := ⟨by decide +kernel, rfl⟩
set_option maxRecDepth 100000 in
theorem ii_mo_house_81 : sm_D prog_9_method_27_code 81 1 82 (.iload_n 2) := ⟨by decide +kernel, rfl⟩
set_option maxRecDepth 100000 in
theorem ii_mo_house_82 : sm_D prog_9_method_27_code 82 1 83 (.aload_n 0) := ⟨by decide +kernel, rfl⟩
set_option maxRecDepth 100000 in
theorem ii_mo_house_83 : sm_D prog_9_method_27_code 83 3 86 (.getfield 41) := ⟨by decide +kernel, rfl⟩
set_option maxRecDepth 100000 in
theorem ii_mo_house_86 : sm_D prog_9_method_27_code 86 1 87 (.iconst 4) := ⟨by decide +kernel, rfl⟩
set_option maxRecDepth 100000 in
theorem ii_mo_house_87 : sm_D prog_9_method_27_code 87 1 88 (.iload_n 2) := ⟨by decide +kernel, rfl⟩
set_option maxRecDepth 100000 in
theorem ii_mo_house_88 : sm_D prog_9_method_27_code 88 1 89 (.imul) := ⟨by decide +kernel, rfl⟩
set_option maxRecDepth 100000 in
theorem ii_mo_house_89 : sm_D prog_9_method_27_code 89 1 90 (.iaload) := ⟨by decide +kernel, rfl⟩
set_option maxRecDepth 100000 in
theorem ii_mo_house_90 : sm_D prog_9_method_27_code 90 1 91 (.iastore) := ⟨by decide +kernel, rfl⟩
set_option maxRecDepth 100000 in
theorem ii_mo_house_91 : sm_D prog_9_method_27_code 91 1 92 (.aload_n 0) := ⟨by decide +kernel, rfl⟩
set_option maxRecDepth 100000 in
theorem ii_mo_house_92 : sm_D prog_9_method_27_code 92 3 95 (.getfield 16) := ⟨by decide +kernel, rfl⟩
set_option maxRecDepth 100000 in
theorem ii_mo_house_95 : sm_D prog_9_method_27_code 95 1 96 (.iload_n 2) := ⟨by decide +kernel, rfl⟩
set_option maxRecDepth 100000 in
theorem ii_mo_house_96 : sm_D prog_9_method_27_code 96 1 97 (.aload_n 0) := ⟨by decide +kernel, rfl⟩
set_option maxRecDepth 100000 in
theorem ii_mo_house_97 : sm_D prog_9_method_27_code 97 3 100 (.getfield 41) := ⟨by decide +kernel, rfl⟩
set_option maxRecDepth 100000 in
theorem ii_mo_house_100 : sm_D prog_9_method_27_code 100 1 101 (.iconst 4) := ⟨by decide +kernel, rfl⟩
set_option maxRecDepth 100000 in
theorem ii_mo_house_101 : sm_D prog_9_method_27_code 101 1 102 (.iload_n 2) := ⟨by decide +kernel, rfl⟩
set_option maxRecDepth 100000 in
theorem ii_mo_house_102 : sm_D prog_9_method_27_code 102 1 103 (.imul) := ⟨by decide +kernel, rfl⟩
set_option maxRecDepth 100000 in
theorem ii_mo_house_103 : sm_D prog_9_method_27_code 103 1 104 (.iconst 1) := ⟨by decide +kernel, rfl⟩
set_option maxRecDepth 100000 in
theorem ii_mo_house_104 : sm_D prog_9_method_27_code 104 1 105 (.iadd) := ⟨by decide +kernel, rfl⟩
set_option maxRecDepth 100000 in
theorem ii_mo_house_105 : sm_D prog_9_method_27_code 105 1 106 (.iaload) := ⟨by decide +kernel, rfl⟩
set_option maxRecDepth 100000 in
theorem ii_mo_house_106 : sm_D prog_9_method_27_code 106 1 107 (.iastore) := ⟨by decide +kernel, rfl⟩
set_option maxRecDepth 100000 in
theorem ii_mo_house_107 : sm_D prog_9_method_27_code 107 1 108 (.aload_n 0) := ⟨by decide +kernel, rfl⟩
set_option maxRecDepth 100000 in
theorem ii_mo_house_108 : sm_D prog_9_method_27_code 108 3 111 (.getfield 7) := ⟨by decide +kernel, rfl⟩
set_option maxRecDepth 100000 in
theorem ii_mo_house_111 : sm_D prog_9_method_27_code 111 2 113 (.bipush 20) := ⟨by decide +kernel, rfl⟩
set_option maxRecDepth 100000 in
theorem ii_mo_house_113 : sm_D prog_9_method_27_code 113 1 114 (.iload_n 2) := ⟨by decide +kernel, rfl⟩
set_option maxRecDepth 100000 in
theorem ii_mo_house_114 : sm_D prog_9_method_27_code 114 1 115 (.iadd) := ⟨by decide +kernel, rfl⟩
set_option maxRecDepth 100000 in
theorem ii_mo_house_115 : sm_D prog_9_method_27_code 115 1 116 (.aload_n 0) := ⟨by decide +kernel, rfl⟩
set_option maxRecDepth 100000 in
theorem ii_mo_house_116 : sm_D prog_9_method_27_code 116 3 119 (.getfield 41) := ⟨by decide +kernel, rfl⟩
set_option maxRecDepth 100000 in
theorem ii_mo_house_119 : sm_D prog_9_method_27_code 119 1 120 (.iconst 4) := ⟨by decide +kernel, rfl⟩
set_option maxRecDepth 100000 in
theorem ii_mo_house_120 : sm_D prog_9_method_27_code 120 1 121 (.iload_n 2) := ⟨by decide +kernel, rfl⟩
set_option maxRecDepth 100000 in
theorem ii_mo_house_121 : sm_D prog_9_method_27_code 121 1 122 (.imul) := ⟨by decide +kernel, rfl⟩
set_option maxRecDepth 100000 in
theorem ii_mo_house_122 : sm_D prog_9_method_27_code 122 1 123 (.iconst 2) := ⟨by decide +kernel, rfl⟩
set_option maxRecDepth 100000 in
theorem ii_mo_house_123 : sm_D prog_9_method_27_code 123 1 124 (.iadd) := ⟨by decide +kernel, rfl⟩
set_option maxRecDepth 100000 in
theorem ii_mo_house_124 : sm_D prog_9_method_27_code 124 1 125 (.iaload) := ⟨by decide +kernel, rfl⟩
set_option maxRecDepth 100000 in
theorem ii_mo_house_125 : sm_D prog_9_method_27_code 125 1 126 (.iastore) := ⟨by decide +kernel, rfl⟩
set_option maxRecDepth 100000 in
theorem ii_mo_house_126 : sm_D prog_9_method_27_code 126 1 127 (.aload_n 0) := ⟨by decide +kernel, rfl⟩
set_option maxRecDepth 100000 in
theorem ii_mo_house_127 : sm_D prog_9_method_27_code 127 3 130 (.getfield 19) := ⟨by decide +kernel, rfl⟩
set_option maxRecDepth 100000 in
theorem ii_mo_house_130 : sm_D prog_9_method_27_code 130 1 131 (.iload_n 2) := ⟨by decide +kernel, rfl⟩
set_option maxRecDepth 100000 in
theorem ii_mo_house_131 : sm_D prog_9_method_27_code 131 1 132 (.aload_n 0) := ⟨by decide +kernel, rfl⟩
set_option maxRecDepth 100000 in
theorem ii_mo_house_132 : sm_D prog_9_method_27_code 132 3 135 (.getfield 41) := ⟨by decide +kernel, rfl⟩
set_option maxRecDepth 100000 in
theorem ii_mo_house_135 : sm_D prog_9_method_27_code 135 1 136 (.iconst 4) := ⟨by decide +kernel, rfl⟩
set_option maxRecDepth 100000 in
theorem ii_mo_house_136 : sm_D prog_9_method_27_code 136 1 137 (.iload_n 2) := ⟨by decide +kernel, rfl⟩
set_option maxRecDepth 100000 in
theorem ii_mo_house_137 : sm_D prog_9_method_27_code 137 1 138 (.imul) := ⟨by decide +kernel, rfl⟩
set_option maxRecDepth 100000 in
theorem ii_mo_house_138 : sm_D prog_9_method_27_code 138 1 139 (.iconst 3) := ⟨by decide +kernel, rfl⟩
set_option maxRecDepth 100000 in
theorem ii_mo_house_139 : sm_D prog_9_method_27_code 139 1 140 (.iadd) := ⟨by decide +kernel, rfl⟩
set_option maxRecDepth 100000 in
theorem ii_mo_house_140 : sm_D prog_9_method_27_code 140 1 141 (.iaload) := ⟨by decide +kernel, rfl⟩
set_option maxRecDepth 100000 in
theorem ii_mo_house_141 : sm_D prog_9_method_27_code 141 1 142 (.iastore) := ⟨by decide +kernel, rfl⟩
set_option maxRecDepth 100000 in
theorem ii_mo_house_142 : sm_D prog_9_method_27_code 142 1 143 (.aload_n 0) := ⟨by decide +kernel, rfl⟩
set_option maxRecDepth 100000 in
theorem ii_mo_house_143 : sm_D prog_9_method_27_code 143 3 146 (.getfield 7) := ⟨by decide +kernel, rfl⟩
set_option maxRecDepth 100000 in
theorem ii_mo_house_146 : sm_D prog_9_method_27_code 146 2 148 (.bipush 26) := ⟨by decide +kernel, rfl⟩
set_option maxRecDepth 100000 in
theorem ii_mo_house_148 : sm_D prog_9_method_27_code 148 1 149 (.iload_n 2) := ⟨by decide +kernel, rfl⟩
set_option maxRecDepth 100000 in
theorem ii_mo_house_149 : sm_D prog_9_method_27_code 149 1 150 (.iadd) := ⟨by decide +kernel, rfl⟩
set_option maxRecDepth 100000 in
theorem ii_mo_house_150 : sm_D prog_9_method_27_code 150 1 151 (.aload_n 0) := ⟨by decide +kernel, rfl⟩
set_option maxRecDepth 100000 in
theorem ii_mo_house_151 : sm_D prog_9_method_27_code 151 3 154 (.getfield 19) := ⟨by decide +kernel, rfl⟩
set_option maxRecDepth 100000 in
theorem ii_mo_house_154 : sm_D prog_9_method_27_code 154 1 155 (.iload_n 2) := ⟨by decide +kernel, rfl⟩
set_option maxRecDepth 100000 in
theorem ii_mo_house_155 : sm_D prog_9_method_27_code 155 1 156 (.iaload) := ⟨by decide +kernel, rfl⟩
set_option maxRecDepth 100000 in
theorem ii_mo_house_156 : sm_D prog_9_method_27_code 156 1 157 (.iastore) := ⟨by decide +kernel, rfl⟩
set_option maxRecDepth 100000 in
theorem ii_mo_house_157 : sm_D prog_9_method_27_code 157 3 160 (.iinc 2 1) := ⟨by decide +kernel, rfl⟩
set_option maxRecDepth 100000 in
theorem ii_mo_house_160 : sm_D prog_9_method_27_code 160 3 163 (.goto (-91)) := ⟨by decide +kernel, rfl⟩
set_option maxRecDepth 100000 in
theorem ii_mo_house_163 : sm_D prog_9_method_27_code 163 1 164 (.iconst 1) := ⟨by decide +kernel, rfl⟩
set_option maxRecDepth 100000 in
theorem ii_mo_house_164 : sm_D prog_9_method_27_code 164 1 165 (.istore_n 2) := ⟨by decide +kernel, rfl⟩
set_option maxRecDepth 100000 in
theorem ii_mo_house_165 : sm_D prog_9_method_27_code 165 1 166 (.iload_n 2) := ⟨by decide +kernel, rfl⟩
set_option maxRecDepth 100000 in
theorem ii_mo_house_166 : sm_D prog_9_method_27_code 166 1 167 (.iconst 4) := ⟨by decide +kernel, rfl⟩
set_option maxRecDepth 100000 in
theorem ii_mo_house_167 : sm_D prog_9_method_27_code 167 3 170 (.if_icmp .ge 22) := ⟨by decide +kernel, rfl⟩
set_option maxRecDepth 100000 in
theorem ii_mo_house_170 : sm_D prog_9_method_27_code 170 1 171 (.aload_n 0) := ⟨by decide +kernel, rfl⟩
set_option maxRecDepth 100000 in
theorem ii_mo_house_171 : sm_D prog_9_method_27_code 171 3 174 (.getfield 7) := ⟨by decide +kernel, rfl⟩
set_option maxRecDepth 100000 in
theorem ii_mo_house_174 : sm_D prog_9_method_27_code 174 3 177 (.sipush 1272) := ⟨by decide +kernel, rfl⟩
set_option maxRecDepth 100000 in
theorem ii_mo_house_177 : sm_D prog_9_method_27_code 177 1 178 (.iload_n 2) := ⟨by decide +kernel, rfl⟩
set_option maxRecDepth 100000 in
theorem ii_mo_house_178 : sm_D prog_9_method_27_code 178 1 179 (.imul) := ⟨by decide +kernel, rfl⟩
set_option maxRecDepth 100000 in
theorem ii_mo_house_179 : sm_D prog_9_method_27_code 179 1 180 (.iconst 0) := ⟨by decide +kernel, rfl⟩
set_option maxRecDepth 100000 in
theorem ii_mo_house_180 : sm_D prog_9_method_27_code 180 1 181 (.iadd) := ⟨by decide +kernel, rfl⟩
set_option maxRecDepth 100000 in
theorem ii_mo_house_181 : sm_D prog_9_method_27_code 181 1 182 (.iconst (-1)) := ⟨by decide +kernel, rfl⟩
set_option maxRecDepth 100000 in
theorem ii_mo_house_182 : sm_D prog_9_method_27_code 182 1 183 (.iastore) := ⟨by decide +kernel, rfl⟩
set_option maxRecDepth 100000 in
theorem ii_mo_house_183 : sm_D prog_9_method_27_code 183 3 186 (.iinc 2 1) := ⟨by decide +kernel, rfl⟩
set_option maxRecDepth 100000 in
theorem ii_mo_house_186 : sm_D prog_9_method_27_code 186 3 189 (.goto (-21)) := ⟨by decide +kernel, rfl⟩
set_option maxRecDepth 100000 in
theorem ii_mo_house_189 : sm_D prog_9_method_27_code 189 1 190 (.aload_n 0) := ⟨by decide +kernel, rfl⟩
set_option maxRecDepth 100000 in
theorem ii_mo_house_190 : sm_D prog_9_method_27_code 190 3 193 (.getfield 135) := ⟨by decide +kernel, rfl⟩
set_option maxRecDepth 100000 in
theorem ii_mo_house_193 : sm_D prog_9_method_27_code 193 1 194 (.ireturn) := ⟨by decide +kernel, rfl⟩
noncomputable def ff_mo_house_165_b  (self165 : Int32 → sm_Mem → sm_R) (a2 : Int32) (w : sm_Mem) : sm_R := (if (4 : Int32) ≤ a2 then (some (.int (w.1 62 1), w)) else (Option.bind (sm_wr w 63 5184 (((1272 : Int32) * a2) + (0 : Int32)) (-1 : Int32)) fun w1 => self165 ((a2 + (1 : Int32))) w1))
noncomputable def ff_mo_house_165_f  : Nat → Int32 → sm_Mem → sm_R
  | 0, _, _ => none
  | n + 1, a2, w => ff_mo_house_165_b  (ff_mo_house_165_f  n) a2 w
noncomputable def ff_mo_house_165  (a2 : Int32) (w : sm_Mem) : sm_R := ff_mo_house_165_f  sm_N a2 w
set_option maxHeartbeats 4000000 in
set_option maxRecDepth 100000 in
theorem ss_mo_house_165_b {E : Nat × (Nat → Int32)}  (self165 : Int32 → sm_Mem → sm_R) (hself165 : ∀ (a2 : Int32) (w : sm_Mem), sm_Sim E (mi_mo_house) 165 [some (.ref 62), none, some (.int a2)] [] w (self165 a2 w)) (a2 : Int32) (w : sm_Mem) : sm_Sim E (mi_mo_house) 165 [some (.ref 62), none, some (.int a2)] [] w (ff_mo_house_165_b  self165 a2 w) := by
  unfold ff_mo_house_165_b
  refine sm_iload_n ii_mo_house_165 rfl ?_
  refine sm_iconst (4 : Int32) ii_mo_house_166 (by decide) ?_
  refine sm_icmp_ge 189 ii_mo_house_167 (by decide) ?_ ?_
  · refine sm_aload_n ii_mo_house_189 rfl ?_
    refine sm_getI ii_mo_house_190 fl_mo_135 (k := 62) rfl ?_
    exact sm_iret ii_mo_house_193 rfl
  · refine sm_aload_n ii_mo_house_170 rfl ?_
    refine sm_getR 63 ii_mo_house_171 fl_mo_7 (k := 62) rfl ?_
    refine sm_sipush (1272 : Int32) ii_mo_house_174 (by decide) ?_
    refine sm_iload_n ii_mo_house_177 rfl ?_
    refine sm_imul ii_mo_house_178 ?_
    refine sm_iconst (0 : Int32) ii_mo_house_179 (by decide) ?_
    refine sm_iadd ii_mo_house_180 ?_
    refine sm_iconst (-1 : Int32) ii_mo_house_181 (by decide) ?_
    refine sm_iast ii_mo_house_182 (k := 63) rfl (fun w1 => ?_)
    refine sm_iinc (a2 + (1 : Int32)) [some (.ref 62), none, some (.int (a2 + (1 : Int32)))] ii_mo_house_183 rfl rfl rfl rfl ?_
    refine sm_goto 165 ii_mo_house_186 (by decide) ?_
    exact hself165 ((a2 + (1 : Int32))) w1
set_option maxHeartbeats 4000000 in
set_option maxRecDepth 100000 in
theorem ss_mo_house_165_f {E : Nat × (Nat → Int32)}  : ∀ (n : Nat) (a2 : Int32) (w : sm_Mem), sm_Sim E (mi_mo_house) 165 [some (.ref 62), none, some (.int a2)] [] w (ff_mo_house_165_f  n a2 w)
  | 0, _, _ => fun _ _ h => by cases h
  | n + 1, a2, w => ss_mo_house_165_b  _ (ss_mo_house_165_f  n) a2 w
set_option maxHeartbeats 4000000 in
set_option maxRecDepth 100000 in
theorem ss_mo_house_165 {E : Nat × (Nat → Int32)}  (a2 : Int32) (w : sm_Mem) : sm_Sim E (mi_mo_house) 165 [some (.ref 62), none, some (.int a2)] [] w (ff_mo_house_165  a2 w) := ss_mo_house_165_f  sm_N a2 w
noncomputable def ff_mo_house_69_b  (self69 : Int32 → sm_Mem → sm_R) (a2 : Int32) (w : sm_Mem) : sm_R := (if (w.1 62 1) ≤ a2 then ff_mo_house_165 ((1 : Int32)) w else (Option.bind (sm_rd w 72 24 ((4 : Int32) * a2)) fun x2 => (Option.bind (sm_wr w 64 7 a2 x2) fun w3 => (Option.bind (sm_rd w3 72 24 (((4 : Int32) * a2) + (1 : Int32))) fun x4 => (Option.bind (sm_wr w3 65 7 a2 x4) fun w5 => (Option.bind (sm_rd w5 72 24 (((4 : Int32) * a2) + (2 : Int32))) fun x6 => (Option.bind (sm_wr w5 63 5184 ((20 : Int32) + a2) x6) fun w7 => (Option.bind (sm_rd w7 72 24 (((4 : Int32) * a2) + (3 : Int32))) fun x8 => (Option.bind (sm_wr w7 66 6 a2 x8) fun w9 => (Option.bind (sm_rd w9 66 6 a2) fun x10 => (Option.bind (sm_wr w9 63 5184 ((26 : Int32) + a2) x10) fun w11 => self69 ((a2 + (1 : Int32))) w11)))))))))))
noncomputable def ff_mo_house_69_f  : Nat → Int32 → sm_Mem → sm_R
  | 0, _, _ => none
  | n + 1, a2, w => ff_mo_house_69_b  (ff_mo_house_69_f  n) a2 w
noncomputable def ff_mo_house_69  (a2 : Int32) (w : sm_Mem) : sm_R := ff_mo_house_69_f  sm_N a2 w
set_option maxHeartbeats 4000000 in
set_option maxRecDepth 100000 in
theorem ss_mo_house_69_b {E : Nat × (Nat → Int32)}  (self69 : Int32 → sm_Mem → sm_R) (hself69 : ∀ (a2 : Int32) (w : sm_Mem), sm_Sim E (mi_mo_house) 69 [some (.ref 62), none, some (.int a2)] [] w (self69 a2 w)) (a2 : Int32) (w : sm_Mem) : sm_Sim E (mi_mo_house) 69 [some (.ref 62), none, some (.int a2)] [] w (ff_mo_house_69_b  self69 a2 w) := by
  unfold ff_mo_house_69_b
  refine sm_iload_n ii_mo_house_69 rfl ?_
  refine sm_aload_n ii_mo_house_70 rfl ?_
  refine sm_getI ii_mo_house_71 fl_mo_135 (k := 62) rfl ?_
  refine sm_icmp_ge 163 ii_mo_house_74 (by decide) ?_ ?_
  · refine sm_iconst (1 : Int32) ii_mo_house_163 (by decide) ?_
    refine sm_istore_n [some (.ref 62), none, some (.int (1 : Int32))] ii_mo_house_164 rfl rfl ?_
    exact ss_mo_house_165 ((1 : Int32)) w
  · refine sm_aload_n ii_mo_house_77 rfl ?_
    refine sm_getR 64 ii_mo_house_78 fl_mo_13 (k := 62) rfl ?_
    refine sm_iload_n ii_mo_house_81 rfl ?_
    refine sm_aload_n ii_mo_house_82 rfl ?_
    refine sm_getR 72 ii_mo_house_83 fl_mo_41 (k := 62) rfl ?_
    refine sm_iconst (4 : Int32) ii_mo_house_86 (by decide) ?_
    refine sm_iload_n ii_mo_house_87 rfl ?_
    refine sm_imul ii_mo_house_88 ?_
    refine sm_iald ii_mo_house_89 (k := 72) rfl (fun x2 => ?_)
    refine sm_iast ii_mo_house_90 (k := 64) rfl (fun w3 => ?_)
    refine sm_aload_n ii_mo_house_91 rfl ?_
    refine sm_getR 65 ii_mo_house_92 fl_mo_16 (k := 62) rfl ?_
    refine sm_iload_n ii_mo_house_95 rfl ?_
    refine sm_aload_n ii_mo_house_96 rfl ?_
    refine sm_getR 72 ii_mo_house_97 fl_mo_41 (k := 62) rfl ?_
    refine sm_iconst (4 : Int32) ii_mo_house_100 (by decide) ?_
    refine sm_iload_n ii_mo_house_101 rfl ?_
    refine sm_imul ii_mo_house_102 ?_
    refine sm_iconst (1 : Int32) ii_mo_house_103 (by decide) ?_
    refine sm_iadd ii_mo_house_104 ?_
    refine sm_iald ii_mo_house_105 (k := 72) rfl (fun x4 => ?_)
    refine sm_iast ii_mo_house_106 (k := 65) rfl (fun w5 => ?_)
    refine sm_aload_n ii_mo_house_107 rfl ?_
    refine sm_getR 63 ii_mo_house_108 fl_mo_7 (k := 62) rfl ?_
    refine sm_bipush (20 : Int32) ii_mo_house_111 (by decide) ?_
    refine sm_iload_n ii_mo_house_113 rfl ?_
    refine sm_iadd ii_mo_house_114 ?_
    refine sm_aload_n ii_mo_house_115 rfl ?_
    refine sm_getR 72 ii_mo_house_116 fl_mo_41 (k := 62) rfl ?_
    refine sm_iconst (4 : Int32) ii_mo_house_119 (by decide) ?_
    refine sm_iload_n ii_mo_house_120 rfl ?_
    refine sm_imul ii_mo_house_121 ?_
    refine sm_iconst (2 : Int32) ii_mo_house_122 (by decide) ?_
    refine sm_iadd ii_mo_house_123 ?_
    refine sm_iald ii_mo_house_124 (k := 72) rfl (fun x6 => ?_)
    refine sm_iast ii_mo_house_125 (k := 63) rfl (fun w7 => ?_)
    refine sm_aload_n ii_mo_house_126 rfl ?_
    refine sm_getR 66 ii_mo_house_127 fl_mo_19 (k := 62) rfl ?_
    refine sm_iload_n ii_mo_house_130 rfl ?_
    refine sm_aload_n ii_mo_house_131 rfl ?_
    refine sm_getR 72 ii_mo_house_132 fl_mo_41 (k := 62) rfl ?_
    refine sm_iconst (4 : Int32) ii_mo_house_135 (by decide) ?_
    refine sm_iload_n ii_mo_house_136 rfl ?_
    refine sm_imul ii_mo_house_137 ?_
    refine sm_iconst (3 : Int32) ii_mo_house_138 (by decide) ?_
    refine sm_iadd ii_mo_house_139 ?_
    refine sm_iald ii_mo_house_140 (k := 72) rfl (fun x8 => ?_)
    refine sm_iast ii_mo_house_141 (k := 66) rfl (fun w9 => ?_)
    refine sm_aload_n ii_mo_house_142 rfl ?_
    refine sm_getR 63 ii_mo_house_143 fl_mo_7 (k := 62) rfl ?_
    refine sm_bipush (26 : Int32) ii_mo_house_146 (by decide) ?_
    refine sm_iload_n ii_mo_house_148 rfl ?_
    refine sm_iadd ii_mo_house_149 ?_
    refine sm_aload_n ii_mo_house_150 rfl ?_
    refine sm_getR 66 ii_mo_house_151 fl_mo_19 (k := 62) rfl ?_
    refine sm_iload_n ii_mo_house_154 rfl ?_
    refine sm_iald ii_mo_house_155 (k := 66) rfl (fun x10 => ?_)
    refine sm_iast ii_mo_house_156 (k := 63) rfl (fun w11 => ?_)
    refine sm_iinc (a2 + (1 : Int32)) [some (.ref 62), none, some (.int (a2 + (1 : Int32)))] ii_mo_house_157 rfl rfl rfl rfl ?_
    refine sm_goto 69 ii_mo_house_160 (by decide) ?_
    exact hself69 ((a2 + (1 : Int32))) w11
set_option maxHeartbeats 4000000 in
set_option maxRecDepth 100000 in
theorem ss_mo_house_69_f {E : Nat × (Nat → Int32)}  : ∀ (n : Nat) (a2 : Int32) (w : sm_Mem), sm_Sim E (mi_mo_house) 69 [some (.ref 62), none, some (.int a2)] [] w (ff_mo_house_69_f  n a2 w)
  | 0, _, _ => fun _ _ h => by cases h
  | n + 1, a2, w => ss_mo_house_69_b  _ (ss_mo_house_69_f  n) a2 w
set_option maxHeartbeats 4000000 in
set_option maxRecDepth 100000 in
theorem ss_mo_house_69 {E : Nat × (Nat → Int32)}  (a2 : Int32) (w : sm_Mem) : sm_Sim E (mi_mo_house) 69 [some (.ref 62), none, some (.int a2)] [] w (ff_mo_house_69  a2 w) := ss_mo_house_69_f  sm_N a2 w
noncomputable def ff_mo_house_39_b  (self39 : Int32 → sm_Mem → sm_R) (a2 : Int32) (w : sm_Mem) : sm_R := (if (1272 : Int32) ≤ a2 then (sm_let (sm_wI w 62 1 (w.1 62 18)) fun w12 => ff_mo_house_69 ((0 : Int32)) w12) else (Option.bind (sm_wr w 63 5184 a2 (0 : Int32)) fun w13 => self39 ((a2 + (1 : Int32))) w13))
noncomputable def ff_mo_house_39_f  : Nat → Int32 → sm_Mem → sm_R
  | 0, _, _ => none
  | n + 1, a2, w => ff_mo_house_39_b  (ff_mo_house_39_f  n) a2 w
noncomputable def ff_mo_house_39  (a2 : Int32) (w : sm_Mem) : sm_R := ff_mo_house_39_f  sm_N a2 w
set_option maxHeartbeats 4000000 in
set_option maxRecDepth 100000 in
theorem ss_mo_house_39_b {E : Nat × (Nat → Int32)}  (self39 : Int32 → sm_Mem → sm_R) (hself39 : ∀ (a2 : Int32) (w : sm_Mem), sm_Sim E (mi_mo_house) 39 [some (.ref 62), none, some (.int a2)] [] w (self39 a2 w)) (a2 : Int32) (w : sm_Mem) : sm_Sim E (mi_mo_house) 39 [some (.ref 62), none, some (.int a2)] [] w (ff_mo_house_39_b  self39 a2 w) := by
  unfold ff_mo_house_39_b
  refine sm_iload_n ii_mo_house_39 rfl ?_
  refine sm_sipush (1272 : Int32) ii_mo_house_40 (by decide) ?_
  refine sm_icmp_ge 59 ii_mo_house_43 (by decide) ?_ ?_
  · refine sm_aload_n ii_mo_house_59 rfl ?_
    refine sm_aload_n ii_mo_house_60 rfl ?_
    refine sm_getI ii_mo_house_61 fl_mo_116 (k := 62) rfl ?_
    refine sm_putI ii_mo_house_64 fp_mo_135 (k := 62) rfl (fun w12 => ?_)
    refine sm_iconst (0 : Int32) ii_mo_house_67 (by decide) ?_
    refine sm_istore_n [some (.ref 62), none, some (.int (0 : Int32))] ii_mo_house_68 rfl rfl ?_
    exact ss_mo_house_69 ((0 : Int32)) w12
  · refine sm_aload_n ii_mo_house_46 rfl ?_
    refine sm_getR 63 ii_mo_house_47 fl_mo_7 (k := 62) rfl ?_
    refine sm_iload_n ii_mo_house_50 rfl ?_
    refine sm_iconst (0 : Int32) ii_mo_house_51 (by decide) ?_
    refine sm_iast ii_mo_house_52 (k := 63) rfl (fun w13 => ?_)
    refine sm_iinc (a2 + (1 : Int32)) [some (.ref 62), none, some (.int (a2 + (1 : Int32)))] ii_mo_house_53 rfl rfl rfl rfl ?_
    refine sm_goto 39 ii_mo_house_56 (by decide) ?_
    exact hself39 ((a2 + (1 : Int32))) w13
set_option maxHeartbeats 4000000 in
set_option maxRecDepth 100000 in
theorem ss_mo_house_39_f {E : Nat × (Nat → Int32)}  : ∀ (n : Nat) (a2 : Int32) (w : sm_Mem), sm_Sim E (mi_mo_house) 39 [some (.ref 62), none, some (.int a2)] [] w (ff_mo_house_39_f  n a2 w)
  | 0, _, _ => fun _ _ h => by cases h
  | n + 1, a2, w => ss_mo_house_39_b  _ (ss_mo_house_39_f  n) a2 w
set_option maxHeartbeats 4000000 in
set_option maxRecDepth 100000 in
theorem ss_mo_house_39 {E : Nat × (Nat → Int32)}  (a2 : Int32) (w : sm_Mem) : sm_Sim E (mi_mo_house) 39 [some (.ref 62), none, some (.int a2)] [] w (ff_mo_house_39  a2 w) := ss_mo_house_39_f  sm_N a2 w
noncomputable def ff_mo_house  (a1 : Int32) (w : sm_Mem) : sm_R := (sm_cI (ff_mo_isText (a1) w) fun x14 w15 => (if x14 = (0 : Int32) then (some (.int (-1 : Int32), w15)) else (Option.bind (sm_rd w15 69 4 a1) fun x16 => (if (0 : Int32) ≤ x16 then (sm_cI (ff_mo_faultOf (a1) w15) fun x17 w18 => (if x17 = (-9 : Int32) then ff_mo_house_39 ((0 : Int32)) w18 else (some (.int (-4 : Int32), w18)))) else (sm_cI (ff_mo_find ((1 : Int32)) w15) fun x19 w20 => (some (.int x19, w20)))))))
set_option maxHeartbeats 4000000 in
set_option maxRecDepth 100000 in
theorem ss_mo_house_0 {E : Nat × (Nat → Int32)}  (a1 : Int32) (w : sm_Mem) : sm_Sim E (mi_mo_house) 0 [some (.ref 62), some (.int a1), none] [] w (ff_mo_house  a1 w) := by
  unfold ff_mo_house
  refine sm_iload_n ii_mo_house_0 rfl ?_
  refine sm_csI [.int a1] [] rfl ii_mo_house_1 ml_mo_100 (mf_mo_isText) (mv_mo_isText) (Nat.le_of_ble_eq_true rfl) rfl rfl rfl (mc_mo_isText (a1) w) (fun x14 w15 => ?_)
  refine sm_if_ne 9 ii_mo_house_4 (by decide) ?_ ?_
  · refine sm_iconst (-1 : Int32) ii_mo_house_7 (by decide) ?_
    exact sm_iret ii_mo_house_8 rfl
  · refine sm_aload_n ii_mo_house_9 rfl ?_
    refine sm_getR 69 ii_mo_house_10 fl_mo_28 (k := 62) rfl ?_
    refine sm_iload_n ii_mo_house_13 rfl ?_
    refine sm_iald ii_mo_house_14 (k := 69) rfl (fun x16 => ?_)
    refine sm_if_ge 24 ii_mo_house_15 (by decide) ?_ ?_
    · refine sm_aload_n ii_mo_house_24 rfl ?_
      refine sm_iload_n ii_mo_house_25 rfl ?_
      refine sm_cvI [.int a1] [] rfl ii_mo_house_26 ml_mo_132 (mf_mo_faultOf) (mv_mo_faultOf) (Nat.le_of_ble_eq_true rfl) rfl 7 rfl rfl rfl rfl (mc_mo_faultOf (a1) w15) (fun x17 w18 => ?_)
      refine sm_bipush (-9 : Int32) ii_mo_house_29 (by decide) ?_
      refine sm_icmp_eq 37 ii_mo_house_31 (by decide) ?_ ?_
      · refine sm_iconst (0 : Int32) ii_mo_house_37 (by decide) ?_
        refine sm_istore_n [some (.ref 62), some (.int a1), some (.int (0 : Int32))] ii_mo_house_38 rfl rfl ?_
        refine sm_msk [true, false, true] [some (.ref 62), none, some (.int (0 : Int32))] rfl ?_
        exact ss_mo_house_39 ((0 : Int32)) w18
      · refine sm_bipush (-4 : Int32) ii_mo_house_34 (by decide) ?_
        exact sm_iret ii_mo_house_36 rfl
    · refine sm_aload_n ii_mo_house_18 rfl ?_
      refine sm_iconst (1 : Int32) ii_mo_house_19 (by decide) ?_
      refine sm_cvI [.int (1 : Int32)] [] rfl ii_mo_house_20 ml_mo_81 (mf_mo_find) (mv_mo_find) (Nat.le_of_ble_eq_true rfl) rfl 7 rfl rfl rfl rfl (mc_mo_find ((1 : Int32)) w15) (fun x19 w20 => ?_)
      exact sm_iret ii_mo_house_23 rfl
set_option maxHeartbeats 4000000 in
set_option maxRecDepth 100000 in
theorem mc_mo_house (a1 : Int32) (w : sm_Mem) : sm_MC mi_mo_house [.ref 62, .int a1] w (ff_mo_house a1 w) := sm_MC_of (0, fun _ => 0) (by decide +kernel) (by decide) rfl (Nat.le_of_ble_eq_true rfl) (ss_mo_house_0 a1 w)
abbrev mi_ho_isSpeaker : sm_MI := (⟨"HerOrders", "isSpeaker", "(I)Z"⟩, prog_1_method_47_code, 2, (some .boolean), 2)
set_option maxRecDepth 100000 in
theorem mf_ho_isSpeaker : sm_MF mi_ho_isSpeaker 1 := ⟨List.mem_of_getElem? (i := 504) (by decide +kernel), List.mem_of_getElem? (i := 124) (by decide +kernel), ⟨by decide, by decide⟩, by decide +kernel⟩
set_option maxRecDepth 100000 in
theorem mv_ho_isSpeaker : sm_MFV mi_ho_isSpeaker := ⟨List.mem_of_getElem? (i := 503) (by decide +kernel), List.mem_of_getElem? (i := 12) (by decide +kernel)⟩
set_option maxRecDepth 100000 in
theorem ii_ho_isSpeaker_0 : sm_D prog_1_method_47_code 0 1 1 (.iload_n 1) := ⟨by decide +kernel, rfl⟩
set_option maxRecDepth 100000 in
theorem ii_ho_isSpeaker_1 : sm_D prog_1_method_47_code 1 1 2 (.aload_n 0) := ⟨by decide +kernel, rfl⟩
set_option maxRecDepth 100000 in
theorem ii_ho_isSpeaker_2 : sm_D prog_1_method_47_code 2 3 5 (.getfield 31) := ⟨by decide +kernel, rfl⟩
set_option maxRecDepth 100000 in
theorem ii_ho_isSpeaker_5 : sm_D prog_1_method_47_code 5 3 8 (.getfield 115) := ⟨by decide +kernel, rfl⟩
set_option maxRecDepth 100000 in
theorem ii_ho_isSpeaker_8 : sm_D prog_1_method_47_code 8 3 11 (.invokestatic 81) := ⟨by decide +kernel, rfl⟩
set_option maxRecDepth 100000 in
theorem ii_ho_isSpeaker_11 : sm_D prog_1_method_47_code 11 1 12 (.ireturn) := ⟨by decide +kernel, rfl⟩
noncomputable def ff_ho_isSpeaker  (a1 : Int32) (w : sm_Mem) : sm_R := (sm_cI (ff_ho_isWithin (a1) ((w.1 36 0)) w) fun x1 w2 => (sm_rz x1 w2))
set_option maxHeartbeats 4000000 in
set_option maxRecDepth 100000 in
theorem ss_ho_isSpeaker_0 {E : Nat × (Nat → Int32)}  (a1 : Int32) (w : sm_Mem) : sm_Sim E (mi_ho_isSpeaker) 0 [some (.ref 0), some (.int a1)] [] w (ff_ho_isSpeaker  a1 w) := by
  unfold ff_ho_isSpeaker
  refine sm_iload_n ii_ho_isSpeaker_0 rfl ?_
  refine sm_aload_n ii_ho_isSpeaker_1 rfl ?_
  refine sm_getR 36 ii_ho_isSpeaker_2 fl_ho_31 (k := 0) rfl ?_
  refine sm_getI ii_ho_isSpeaker_5 fl_ho_115 (k := 36) rfl ?_
  refine sm_csI [.int a1, .int (w.1 36 0)] [] rfl ii_ho_isSpeaker_8 ml_ho_81 (mf_ho_isWithin) (mv_ho_isWithin) (Nat.le_of_ble_eq_true rfl) rfl rfl rfl (mc_ho_isWithin (a1) ((w.1 36 0)) w) (fun x1 w2 => ?_)
  exact sm_zret ii_ho_isSpeaker_11 rfl
set_option maxHeartbeats 4000000 in
set_option maxRecDepth 100000 in
theorem mc_ho_isSpeaker (a1 : Int32) (w : sm_Mem) : sm_MC mi_ho_isSpeaker [.ref 0, .int a1] w (ff_ho_isSpeaker a1 w) := sm_MC_of (0, fun _ => 0) (by decide +kernel) (by decide) rfl (Nat.le_of_ble_eq_true rfl) (ss_ho_isSpeaker_0 a1 w)
abbrev mi_hs_saidBy : sm_MI := (⟨"HerOrders$House", "saidBy", "(I)I"⟩, prog_3_method_23_code, 4, (some .int), 1)
set_option maxRecDepth 100000 in
theorem mf_hs_saidBy : sm_MF mi_hs_saidBy 1 := ⟨List.mem_of_getElem? (i := 512) (by decide +kernel), List.mem_of_getElem? (i := 128) (by decide +kernel), ⟨by decide, by decide⟩, by decide +kernel⟩
set_option maxRecDepth 100000 in
theorem mv_hs_saidBy : sm_MFV mi_hs_saidBy := ⟨List.mem_of_getElem? (i := 511) (by decide +kernel), List.mem_of_getElem? (i := 14) (by decide +kernel)⟩
set_option maxRecDepth 100000 in
theorem ii_hs_saidBy_0 : sm_D prog_3_method_23_code 0 1 1 (.iconst 0) := ⟨by decide +kernel, rfl⟩
set_option maxRecDepth 100000 in
theorem ii_hs_saidBy_1 : sm_D prog_3_method_23_code 1 1 2 (.istore_n 2) := ⟨by decide +kernel, rfl⟩
set_option maxRecDepth 100000 in
theorem ii_hs_saidBy_2 : sm_D prog_3_method_23_code 2 1 3 (.iconst 0) := ⟨by decide +kernel, rfl⟩
set_option maxRecDepth 100000 in
theorem ii_hs_saidBy_3 : sm_D prog_3_method_23_code 3 1 4 (.istore_n 3) := ⟨by decide +kernel, rfl⟩
set_option maxRecDepth 100000 in
theorem ii_hs_saidBy_4 : sm_D prog_3_method_23_code 4 1 5 (.iload_n 3) := ⟨by decide +kernel, rfl⟩
set_option maxRecDepth 100000 in
theorem ii_hs_saidBy_5 : sm_D prog_3_method_23_code 5 1 6 (.aload_n 0) := ⟨by decide +kernel, rfl⟩
set_option maxRecDepth 100000 in
theorem ii_hs_saidBy_6 : sm_D prog_3_method_23_code 6 3 9 (.getfield 89) := ⟨by decide +kernel, rfl⟩
set_option maxRecDepth 100000 in
theorem ii_hs_saidBy_9 : sm_D prog_3_method_23_code 9 3 12 (.if_icmp .ge 22) := ⟨by decide +kernel, rfl⟩
set_option maxRecDepth 100000 in
theorem ii_hs_saidBy_12 : sm_D prog_3_method_23_code 12 1 13 (.aload_n 0) := ⟨by decide +kernel, rfl⟩
set_option maxRecDepth 100000 in
theorem ii_hs_saidBy_13 : sm_D prog_3_method_23_code 13 3 16 (.getfield 33) := ⟨by decide +kernel, rfl⟩
set_option maxRecDepth 100000 in
theorem ii_hs_saidBy_16 : sm_D prog_3_method_23_code 16 1 17 (.iload_n 3) := ⟨by decide +kernel, rfl⟩
set_option maxRecDepth 100000 in
theorem ii_hs_saidBy_17 : sm_D prog_3_method_23_code 17 1 18 (.iaload) := ⟨by decide +kernel, rfl⟩
set_option maxRecDepth 100000 in
theorem ii_hs_saidBy_18 : sm_D prog_3_method_23_code 18 1 19 (.iload_n 1) := ⟨by decide +kernel, rfl⟩
set_option maxRecDepth 100000 in
theorem ii_hs_saidBy_19 : sm_D prog_3_method_23_code 19 3 22 (.if_icmp .ne 6) := ⟨by decide +kernel, rfl⟩
set_option maxRecDepth 100000 in
theorem ii_hs_saidBy_22 : sm_D prog_3_method_23_code 22 3 25 (.iinc 2 1) := ⟨by decide +kernel, rfl⟩
set_option maxRecDepth 100000 in
theorem ii_hs_saidBy_25 : sm_D prog_3_method_23_code 25 3 28 (.iinc 3 1) := ⟨by decide +kernel, rfl⟩
set_option maxRecDepth 100000 in
theorem ii_hs_saidBy_28 : sm_D prog_3_method_23_code 28 3 31 (.goto (-24)) := ⟨by decide +kernel, rfl⟩
set_option maxRecDepth 100000 in
theorem ii_hs_saidBy_31 : sm_D prog_3_method_23_code 31 1 32 (.iload_n 2) := ⟨by decide +kernel, rfl⟩
set_option maxRecDepth 100000 in
theorem ii_hs_saidBy_32 : sm_D prog_3_method_23_code 32 1 33 (.ireturn) := ⟨by decide +kernel, rfl⟩
noncomputable def ff_hs_saidBy_4_b  (self4 : Int32 → Int32 → Int32 → sm_Mem → sm_R) (a1 : Int32) (a2 : Int32) (a3 : Int32) (w : sm_Mem) : sm_R := (if (w.1 36 11) ≤ a3 then (some (.int a2, w)) else (Option.bind (sm_rd w 44 8 a3) fun x1 => (if x1 = a1 then self4 (a1) ((a2 + (1 : Int32))) ((a3 + (1 : Int32))) w else self4 (a1) (a2) ((a3 + (1 : Int32))) w)))
noncomputable def ff_hs_saidBy_4_f  : Nat → Int32 → Int32 → Int32 → sm_Mem → sm_R
  | 0, _, _, _, _ => none
  | n + 1, a1, a2, a3, w => ff_hs_saidBy_4_b  (ff_hs_saidBy_4_f  n) a1 a2 a3 w
noncomputable def ff_hs_saidBy_4  (a1 : Int32) (a2 : Int32) (a3 : Int32) (w : sm_Mem) : sm_R := ff_hs_saidBy_4_f  sm_N a1 a2 a3 w
set_option maxHeartbeats 4000000 in
set_option maxRecDepth 100000 in
theorem ss_hs_saidBy_4_b {E : Nat × (Nat → Int32)}  (self4 : Int32 → Int32 → Int32 → sm_Mem → sm_R) (hself4 : ∀ (a1 : Int32) (a2 : Int32) (a3 : Int32) (w : sm_Mem), sm_Sim E (mi_hs_saidBy) 4 [some (.ref 36), some (.int a1), some (.int a2), some (.int a3)] [] w (self4 a1 a2 a3 w)) (a1 : Int32) (a2 : Int32) (a3 : Int32) (w : sm_Mem) : sm_Sim E (mi_hs_saidBy) 4 [some (.ref 36), some (.int a1), some (.int a2), some (.int a3)] [] w (ff_hs_saidBy_4_b  self4 a1 a2 a3 w) := by
  unfold ff_hs_saidBy_4_b
  refine sm_iload_n ii_hs_saidBy_4 rfl ?_
  refine sm_aload_n ii_hs_saidBy_5 rfl ?_
  refine sm_getI ii_hs_saidBy_6 fl_hs_89 (k := 36) rfl ?_
  refine sm_icmp_ge 31 ii_hs_saidBy_9 (by decide) ?_ ?_
  · refine sm_iload_n ii_hs_saidBy_31 rfl ?_
    exact sm_iret ii_hs_saidBy_32 rfl
  · refine sm_aload_n ii_hs_saidBy_12 rfl ?_
    refine sm_getR 44 ii_hs_saidBy_13 fl_hs_33 (k := 36) rfl ?_
    refine sm_iload_n ii_hs_saidBy_16 rfl ?_
    refine sm_iald ii_hs_saidBy_17 (k := 44) rfl (fun x1 => ?_)
    refine sm_iload_n ii_hs_saidBy_18 rfl ?_
    refine sm_icmp_ne 25 ii_hs_saidBy_19 (by decide) ?_ ?_
    · refine sm_iinc (a2 + (1 : Int32)) [some (.ref 36), some (.int a1), some (.int (a2 + (1 : Int32))), some (.int a3)] ii_hs_saidBy_22 rfl rfl rfl rfl ?_
      refine sm_iinc (a3 + (1 : Int32)) [some (.ref 36), some (.int a1), some (.int (a2 + (1 : Int32))), some (.int (a3 + (1 : Int32)))] ii_hs_saidBy_25 rfl rfl rfl rfl ?_
      refine sm_goto 4 ii_hs_saidBy_28 (by decide) ?_
      exact hself4 (a1) ((a2 + (1 : Int32))) ((a3 + (1 : Int32))) w
    · refine sm_iinc (a3 + (1 : Int32)) [some (.ref 36), some (.int a1), some (.int a2), some (.int (a3 + (1 : Int32)))] ii_hs_saidBy_25 rfl rfl rfl rfl ?_
      refine sm_goto 4 ii_hs_saidBy_28 (by decide) ?_
      exact hself4 (a1) (a2) ((a3 + (1 : Int32))) w
set_option maxHeartbeats 4000000 in
set_option maxRecDepth 100000 in
theorem ss_hs_saidBy_4_f {E : Nat × (Nat → Int32)}  : ∀ (n : Nat) (a1 : Int32) (a2 : Int32) (a3 : Int32) (w : sm_Mem), sm_Sim E (mi_hs_saidBy) 4 [some (.ref 36), some (.int a1), some (.int a2), some (.int a3)] [] w (ff_hs_saidBy_4_f  n a1 a2 a3 w)
  | 0, _, _, _, _ => fun _ _ h => by cases h
  | n + 1, a1, a2, a3, w => ss_hs_saidBy_4_b  _ (ss_hs_saidBy_4_f  n) a1 a2 a3 w
set_option maxHeartbeats 4000000 in
set_option maxRecDepth 100000 in
theorem ss_hs_saidBy_4 {E : Nat × (Nat → Int32)}  (a1 : Int32) (a2 : Int32) (a3 : Int32) (w : sm_Mem) : sm_Sim E (mi_hs_saidBy) 4 [some (.ref 36), some (.int a1), some (.int a2), some (.int a3)] [] w (ff_hs_saidBy_4  a1 a2 a3 w) := ss_hs_saidBy_4_f  sm_N a1 a2 a3 w
noncomputable def ff_hs_saidBy  (a1 : Int32) (w : sm_Mem) : sm_R := ff_hs_saidBy_4 (a1) ((0 : Int32)) ((0 : Int32)) w
set_option maxHeartbeats 4000000 in
set_option maxRecDepth 100000 in
theorem ss_hs_saidBy_0 {E : Nat × (Nat → Int32)}  (a1 : Int32) (w : sm_Mem) : sm_Sim E (mi_hs_saidBy) 0 [some (.ref 36), some (.int a1), none, none] [] w (ff_hs_saidBy  a1 w) := by
  unfold ff_hs_saidBy
  refine sm_iconst (0 : Int32) ii_hs_saidBy_0 (by decide) ?_
  refine sm_istore_n [some (.ref 36), some (.int a1), some (.int (0 : Int32)), none] ii_hs_saidBy_1 rfl rfl ?_
  refine sm_iconst (0 : Int32) ii_hs_saidBy_2 (by decide) ?_
  refine sm_istore_n [some (.ref 36), some (.int a1), some (.int (0 : Int32)), some (.int (0 : Int32))] ii_hs_saidBy_3 rfl rfl ?_
  exact ss_hs_saidBy_4 (a1) ((0 : Int32)) ((0 : Int32)) w
set_option maxHeartbeats 4000000 in
set_option maxRecDepth 100000 in
theorem mc_hs_saidBy (a1 : Int32) (w : sm_Mem) : sm_MC mi_hs_saidBy [.ref 36, .int a1] w (ff_hs_saidBy a1 w) := sm_MC_of (0, fun _ => 0) (by decide +kernel) (by decide) rfl (Nat.le_of_ble_eq_true rfl) (ss_hs_saidBy_0 a1 w)
abbrev mi_hs_factOf : sm_MI := (⟨"HerOrders$House", "factOf", "(II)I"⟩, prog_3_method_24_code, 3, (some .int), 2)
set_option maxRecDepth 100000 in
theorem mf_hs_factOf : sm_MF mi_hs_factOf 2 := ⟨List.mem_of_getElem? (i := 508) (by decide +kernel), List.mem_of_getElem? (i := 128) (by decide +kernel), ⟨by decide, by decide⟩, by decide +kernel⟩
set_option maxRecDepth 100000 in
theorem mv_hs_factOf : sm_MFV mi_hs_factOf := ⟨List.mem_of_getElem? (i := 507) (by decide +kernel), List.mem_of_getElem? (i := 13) (by decide +kernel)⟩
set_option maxRecDepth 100000 in
theorem ii_hs_factOf_0 : sm_D prog_3_method_24_code 0 1 1 (.iload_n 2) := ⟨by decide +kernel, rfl⟩
set_option maxRecDepth 100000 in
theorem ii_hs_factOf_1 : sm_D prog_3_method_24_code 1 35 36 (.tableswitch 70 0 4 #[35, 42, 49, 56, 63]) := ⟨by decide +kernel, rfl⟩
set_option maxRecDepth 100000 in
theorem ii_hs_factOf_36 : sm_D prog_3_method_24_code 36 1 37 (.aload_n 0) := ⟨by decide +kernel, rfl⟩
set_option maxRecDepth 100000 in
theorem ii_hs_factOf_37 : sm_D prog_3_method_24_code 37 3 40 (.getfield 9) := ⟨by decide +kernel, rfl⟩
set_option maxRecDepth 100000 in
theorem ii_hs_factOf_40 : sm_D prog_3_method_24_code 40 1 41 (.iload_n 1) := ⟨by decide +kernel, rfl⟩
set_option maxRecDepth 100000 in
theorem ii_hs_factOf_41 : sm_D prog_3_method_24_code 41 1 42 (.iaload) := ⟨by decide +kernel, rfl⟩
set_option maxRecDepth 100000 in
theorem ii_hs_factOf_42 : sm_D prog_3_method_24_code 42 1 43 (.ireturn) := ⟨by decide +kernel, rfl⟩
set_option maxRecDepth 100000 in
theorem ii_hs_factOf_43 : sm_D prog_3_method_24_code 43 1 44 (.aload_n 0) := ⟨by decide +kernel, rfl⟩
set_option maxRecDepth 100000 in
theorem ii_hs_factOf_44 : sm_D prog_3_method_24_code 44 3 47 (.getfield 15) := ⟨by decide +kernel, rfl⟩
set_option maxRecDepth 100000 in
theorem ii_hs_factOf_47 : sm_D prog_3_method_24_code 47 1 48 (.iload_n 1) := ⟨by decide +kernel, rfl⟩
set_option maxRecDepth 100000 in
theorem ii_hs_factOf_48 : sm_D prog_3_method_24_code 48 1 49 (.iaload) := ⟨by decide +kernel, rfl⟩
set_option maxRecDepth 100000 in
theorem ii_hs_factOf_49 : sm_D prog_3_method_24_code 49 1 50 (.ireturn) := ⟨by decide +kernel, rfl⟩
set_option maxRecDepth 100000 in
theorem ii_hs_factOf_50 : sm_D prog_3_method_24_code 50 1 51 (.aload_n 0) := ⟨by decide +kernel, rfl⟩
set_option maxRecDepth 100000 in
theorem ii_hs_factOf_51 : sm_D prog_3_method_24_code 51 3 54 (.getfield 24) := ⟨by decide +kernel, rfl⟩
set_option maxRecDepth 100000 in
theorem ii_hs_factOf_54 : sm_D prog_3_method_24_code 54 1 55 (.iload_n 1) := ⟨by decide +kernel, rfl⟩
set_option maxRecDepth 100000 in
theorem ii_hs_factOf_55 : sm_D prog_3_method_24_code 55 1 56 (.iaload) := ⟨by decide +kernel, rfl⟩
set_option maxRecDepth 100000 in
theorem ii_hs_factOf_56 : sm_D prog_3_method_24_code 56 1 57 (.ireturn) := ⟨by decide +kernel, rfl⟩
set_option maxRecDepth 100000 in
theorem ii_hs_factOf_57 : sm_D prog_3_method_24_code 57 1 58 (.aload_n 0) := ⟨by decide +kernel, rfl⟩
set_option maxRecDepth 100000 in
theorem ii_hs_factOf_58 : sm_D prog_3_method_24_code 58 3 61 (.getfield 21) := ⟨by decide +kernel, rfl⟩
set_option maxRecDepth 100000 in
theorem ii_hs_factOf_61 : sm_D prog_3_method_24_code 61 1 62 (.iload_n 1) := ⟨by decide +kernel, rfl⟩
set_option maxRecDepth 100000 in
theorem ii_hs_factOf_62 : sm_D prog_3_method_24_code 62 1 63 (.iaload) := ⟨by decide +kernel, rfl⟩
set_option maxRecDepth 100000 in
theorem ii_hs_factOf_63 : sm_D prog_3_method_24_code 63 1 64 (.ireturn) := ⟨by decide +kernel, rfl⟩
set_option maxRecDepth 100000 in
theorem ii_hs_factOf_64 : sm_D prog_3_method_24_code 64 1 65 (.aload_n 0) := ⟨by decide +kernel, rfl⟩
set_option maxRecDepth 100000 in
theorem ii_hs_factOf_65 : sm_D prog_3_method_24_code 65 3 68 (.getfield 27) := ⟨by decide +kernel, rfl⟩
set_option maxRecDepth 100000 in
theorem ii_hs_factOf_68 : sm_D prog_3_method_24_code 68 1 69 (.iload_n 1) := ⟨by decide +kernel, rfl⟩
set_option maxRecDepth 100000 in
theorem ii_hs_factOf_69 : sm_D prog_3_method_24_code 69 1 70 (.iaload) := ⟨by decide +kernel, rfl⟩
set_option maxRecDepth 100000 in
theorem ii_hs_factOf_70 : sm_D prog_3_method_24_code 70 1 71 (.ireturn) := ⟨by decide +kernel, rfl⟩
set_option maxRecDepth 100000 in
theorem ii_hs_factOf_71 : sm_D prog_3_method_24_code 71 1 72 (.aload_n 0) := ⟨by decide +kernel, rfl⟩
set_option maxRecDepth 100000 in
theorem ii_hs_factOf_72 : sm_D prog_3_method_24_code 72 1 73 (.iload_n 1) := ⟨by decide +kernel, rfl⟩
set_option maxRecDepth 100000 in
theorem ii_hs_factOf_73 : sm_D prog_3_method_24_code 73 3 76 (.invokevirtual 129) := ⟨by decide +kernel, rfl⟩
set_option maxRecDepth 100000 in
theorem ii_hs_factOf_76 : sm_D prog_3_method_24_code 76 1 77 (.ireturn) := ⟨by decide +kernel, rfl⟩
noncomputable def ff_hs_factOf  (a1 : Int32) (a2 : Int32) (w : sm_Mem) : sm_R := (sm_sw a2 (0) [((Option.bind (sm_rd w 37 6 a1) fun x1 => (some (.int x1, w)))), ((Option.bind (sm_rd w 38 6 a1) fun x2 => (some (.int x2, w)))), ((Option.bind (sm_rd w 41 6 a1) fun x3 => (some (.int x3, w)))), ((Option.bind (sm_rd w 40 6 a1) fun x4 => (some (.int x4, w)))), ((Option.bind (sm_rd w 42 6 a1) fun x5 => (some (.int x5, w))))] ((sm_cI (ff_hs_saidBy (a1) w) fun x6 w7 => (some (.int x6, w7)))))
set_option maxHeartbeats 4000000 in
set_option maxRecDepth 100000 in
theorem ss_hs_factOf_0 {E : Nat × (Nat → Int32)}  (a1 : Int32) (a2 : Int32) (w : sm_Mem) : sm_Sim E (mi_hs_factOf) 0 [some (.ref 36), some (.int a1), some (.int a2)] [] w (ff_hs_factOf  a1 a2 w) := by
  unfold ff_hs_factOf
  refine sm_iload_n ii_hs_factOf_0 rfl ?_
  refine sm_table [36, 43, 50, 57, 64] 71 ii_hs_factOf_1 rfl rfl rfl ⟨?_, ?_, ?_, ?_, ?_, trivial⟩ ?_
  · refine sm_aload_n ii_hs_factOf_36 rfl ?_
    refine sm_getR 37 ii_hs_factOf_37 fl_hs_9 (k := 36) rfl ?_
    refine sm_iload_n ii_hs_factOf_40 rfl ?_
    refine sm_iald ii_hs_factOf_41 (k := 37) rfl (fun x1 => ?_)
    exact sm_iret ii_hs_factOf_42 rfl
  · refine sm_aload_n ii_hs_factOf_43 rfl ?_
    refine sm_getR 38 ii_hs_factOf_44 fl_hs_15 (k := 36) rfl ?_
    refine sm_iload_n ii_hs_factOf_47 rfl ?_
    refine sm_iald ii_hs_factOf_48 (k := 38) rfl (fun x2 => ?_)
    exact sm_iret ii_hs_factOf_49 rfl
  · refine sm_aload_n ii_hs_factOf_50 rfl ?_
    refine sm_getR 41 ii_hs_factOf_51 fl_hs_24 (k := 36) rfl ?_
    refine sm_iload_n ii_hs_factOf_54 rfl ?_
    refine sm_iald ii_hs_factOf_55 (k := 41) rfl (fun x3 => ?_)
    exact sm_iret ii_hs_factOf_56 rfl
  · refine sm_aload_n ii_hs_factOf_57 rfl ?_
    refine sm_getR 40 ii_hs_factOf_58 fl_hs_21 (k := 36) rfl ?_
    refine sm_iload_n ii_hs_factOf_61 rfl ?_
    refine sm_iald ii_hs_factOf_62 (k := 40) rfl (fun x4 => ?_)
    exact sm_iret ii_hs_factOf_63 rfl
  · refine sm_aload_n ii_hs_factOf_64 rfl ?_
    refine sm_getR 42 ii_hs_factOf_65 fl_hs_27 (k := 36) rfl ?_
    refine sm_iload_n ii_hs_factOf_68 rfl ?_
    refine sm_iald ii_hs_factOf_69 (k := 42) rfl (fun x5 => ?_)
    exact sm_iret ii_hs_factOf_70 rfl
  · refine sm_aload_n ii_hs_factOf_71 rfl ?_
    refine sm_iload_n ii_hs_factOf_72 rfl ?_
    refine sm_cvI [.int a1] [] rfl ii_hs_factOf_73 ml_hs_129 (mf_hs_saidBy) (mv_hs_saidBy) (Nat.le_of_ble_eq_true rfl) rfl 1 rfl rfl rfl rfl (mc_hs_saidBy (a1) w) (fun x6 w7 => ?_)
    exact sm_iret ii_hs_factOf_76 rfl
set_option maxHeartbeats 4000000 in
set_option maxRecDepth 100000 in
theorem mc_hs_factOf (a1 : Int32) (a2 : Int32) (w : sm_Mem) : sm_MC mi_hs_factOf [.ref 36, .int a1, .int a2] w (ff_hs_factOf a1 a2 w) := sm_MC_of (0, fun _ => 0) (by decide +kernel) (by decide) rfl (Nat.le_of_ble_eq_true rfl) (ss_hs_factOf_0 a1 a2 w)
abbrev mi_ho_speaker : sm_MI := (⟨"HerOrders", "speaker", "(II)I"⟩, prog_1_method_12_code, 3, (some .int), 3)
set_option maxRecDepth 100000 in
theorem mf_ho_speaker : sm_MF mi_ho_speaker 2 := ⟨List.mem_of_getElem? (i := 500) (by decide +kernel), List.mem_of_getElem? (i := 124) (by decide +kernel), ⟨by decide, by decide⟩, by decide +kernel⟩
set_option maxRecDepth 100000 in
theorem mv_ho_speaker : sm_MFV mi_ho_speaker := ⟨List.mem_of_getElem? (i := 498) (by decide +kernel), List.mem_of_getElem? (i := 499) (by decide +kernel)⟩
set_option maxRecDepth 100000 in
theorem ii_ho_speaker_0 : sm_D prog_1_method_12_code 0 1 1 (.aload_n 0) := ⟨by decide +kernel, rfl⟩
set_option maxRecDepth 100000 in
theorem ii_ho_speaker_1 : sm_D prog_1_method_12_code 1 1 2 (.iload_n 1) := ⟨by decide +kernel, rfl⟩
set_option maxRecDepth 100000 in
theorem ii_ho_speaker_2 : sm_D prog_1_method_12_code 2 3 5 (.invokevirtual 118) := ⟨by decide +kernel, rfl⟩
set_option maxRecDepth 100000 in
theorem ii_ho_speaker_5 : sm_D prog_1_method_12_code 5 3 8 (.ifCond .eq 12) := ⟨by decide +kernel, rfl⟩
set_option maxRecDepth 100000 in
theorem ii_ho_speaker_8 : sm_D prog_1_method_12_code 8 1 9 (.iload_n 2) := ⟨by decide +kernel, rfl⟩
set_option maxRecDepth 100000 in
theorem ii_ho_speaker_9 : sm_D prog_1_method_12_code 9 2 11 (.bipush 6) := ⟨by decide +kernel, rfl⟩
set_option maxRecDepth 100000 in
theorem ii_ho_speaker_11 : sm_D prog_1_method_12_code 11 3 14 (.invokestatic 81) := ⟨by decide +kernel, rfl⟩
set_option maxRecDepth 100000 in
theorem ii_ho_speaker_14 : sm_D prog_1_method_12_code 14 3 17 (.ifCond .ne 5) := ⟨by decide +kernel, rfl⟩
set_option maxRecDepth 100000 in
theorem ii_ho_speaker_17 : sm_D prog_1_method_12_code 17 1 18 (.iconst (-1)) := ⟨by decide +kernel, rfl⟩
set_option maxRecDepth 100000 in
theorem ii_ho_speaker_18 : sm_D prog_1_method_12_code 18 1 19 (.ireturn) := ⟨by decide +kernel, rfl⟩
set_option maxRecDepth 100000 in
theorem ii_ho_speaker_19 : sm_D prog_1_method_12_code 19 1 20 (.aload_n 0) := ⟨by decide +kernel, rfl⟩
set_option maxRecDepth 100000 in
theorem ii_ho_speaker_20 : sm_D prog_1_method_12_code 20 3 23 (.getfield 54) := ⟨by decide +kernel, rfl⟩
set_option maxRecDepth 100000 in
theorem ii_ho_speaker_23 : sm_D prog_1_method_12_code 23 1 24 (.aload_n 0) := ⟨by decide +kernel, rfl⟩
set_option maxRecDepth 100000 in
theorem ii_ho_speaker_24 : sm_D prog_1_method_12_code 24 3 27 (.getfield 31) := ⟨by decide +kernel, rfl⟩
set_option maxRecDepth 100000 in
theorem ii_ho_speaker_27 : sm_D prog_1_method_12_code 27 1 28 (.iload_n 1) := ⟨by decide +kernel, rfl⟩
set_option maxRecDepth 100000 in
theorem ii_ho_speaker_28 : sm_D prog_1_method_12_code 28 1 29 (.iload_n 2) := ⟨by decide +kernel, rfl⟩
set_option maxRecDepth 100000 in
theorem ii_ho_speaker_29 : sm_D prog_1_method_12_code 29 3 32 (.invokevirtual 122) := ⟨by decide +kernel, rfl⟩
set_option maxRecDepth 100000 in
theorem ii_ho_speaker_32 : sm_D prog_1_method_12_code 32 3 35 (.putfield 70) := ⟨by decide +kernel, rfl⟩
set_option maxRecDepth 100000 in
theorem ii_ho_speaker_35 : sm_D prog_1_method_12_code 35 1 36 (.iconst 1) := ⟨by decide +kernel, rfl⟩
set_option maxRecDepth 100000 in
theorem ii_ho_speaker_36 : sm_D prog_1_method_12_code 36 1 37 (.ireturn) := ⟨by decide +kernel, rfl⟩
noncomputable def ff_ho_speaker  (a1 : Int32) (a2 : Int32) (w : sm_Mem) : sm_R := (sm_cI (ff_ho_isSpeaker (a1) w) fun x1 w2 => (if x1 = (0 : Int32) then (some (.int (-1 : Int32), w2)) else (sm_cI (ff_ho_isWithin (a2) ((6 : Int32)) w2) fun x3 w4 => (if x3 = (0 : Int32) then (some (.int (-1 : Int32), w4)) else (sm_cI (ff_hs_factOf (a1) (a2) w4) fun x5 w6 => (sm_let (sm_wI w6 60 0 x5) fun w7 => (some (.int (1 : Int32), w7))))))))
set_option maxHeartbeats 4000000 in
set_option maxRecDepth 100000 in
theorem ss_ho_speaker_0 {E : Nat × (Nat → Int32)}  (a1 : Int32) (a2 : Int32) (w : sm_Mem) : sm_Sim E (mi_ho_speaker) 0 [some (.ref 0), some (.int a1), some (.int a2)] [] w (ff_ho_speaker  a1 a2 w) := by
  unfold ff_ho_speaker
  refine sm_aload_n ii_ho_speaker_0 rfl ?_
  refine sm_iload_n ii_ho_speaker_1 rfl ?_
  refine sm_cvI [.int a1] [] rfl ii_ho_speaker_2 ml_ho_118 (mf_ho_isSpeaker) (mv_ho_isSpeaker) (Nat.le_of_ble_eq_true rfl) rfl 6 rfl rfl rfl rfl (mc_ho_isSpeaker (a1) w) (fun x1 w2 => ?_)
  refine sm_if_eq 17 ii_ho_speaker_5 (by decide) ?_ ?_
  · refine sm_iconst (-1 : Int32) ii_ho_speaker_17 (by decide) ?_
    exact sm_iret ii_ho_speaker_18 rfl
  · refine sm_iload_n ii_ho_speaker_8 rfl ?_
    refine sm_bipush (6 : Int32) ii_ho_speaker_9 (by decide) ?_
    refine sm_csI [.int a2, .int (6 : Int32)] [] rfl ii_ho_speaker_11 ml_ho_81 (mf_ho_isWithin) (mv_ho_isWithin) (Nat.le_of_ble_eq_true rfl) rfl rfl rfl (mc_ho_isWithin (a2) ((6 : Int32)) w2) (fun x3 w4 => ?_)
    refine sm_if_ne 19 ii_ho_speaker_14 (by decide) ?_ ?_
    · refine sm_iconst (-1 : Int32) ii_ho_speaker_17 (by decide) ?_
      exact sm_iret ii_ho_speaker_18 rfl
    · refine sm_aload_n ii_ho_speaker_19 rfl ?_
      refine sm_getR 60 ii_ho_speaker_20 fl_ho_54 (k := 0) rfl ?_
      refine sm_aload_n ii_ho_speaker_23 rfl ?_
      refine sm_getR 36 ii_ho_speaker_24 fl_ho_31 (k := 0) rfl ?_
      refine sm_iload_n ii_ho_speaker_27 rfl ?_
      refine sm_iload_n ii_ho_speaker_28 rfl ?_
      refine sm_cvI [.int a1, .int a2] [.ref 60] rfl ii_ho_speaker_29 ml_ho_122 (mf_hs_factOf) (mv_hs_factOf) (Nat.le_of_ble_eq_true rfl) rfl 1 rfl rfl rfl rfl (mc_hs_factOf (a1) (a2) w4) (fun x5 w6 => ?_)
      refine sm_putI ii_ho_speaker_32 fp_ho_70 (k := 60) rfl (fun w7 => ?_)
      refine sm_iconst (1 : Int32) ii_ho_speaker_35 (by decide) ?_
      exact sm_iret ii_ho_speaker_36 rfl
set_option maxHeartbeats 4000000 in
set_option maxRecDepth 100000 in
theorem mc_ho_speaker (a1 : Int32) (a2 : Int32) (w : sm_Mem) : sm_MC mi_ho_speaker [.ref 0, .int a1, .int a2] w (ff_ho_speaker a1 a2 w) := sm_MC_of (0, fun _ => 0) (by decide +kernel) (by decide) rfl (Nat.le_of_ble_eq_true rfl) (ss_ho_speaker_0 a1 a2 w)
abbrev mi_mo_isSpeaker : sm_MI := (⟨"HerOrdersModel", "isSpeaker", "(I)Z"⟩, prog_9_method_28_code, 2, (some .boolean), 2)
set_option maxRecDepth 100000 in
theorem mf_mo_isSpeaker : sm_MF mi_mo_isSpeaker 1 := ⟨List.mem_of_getElem? (i := 1134) (by decide +kernel), List.mem_of_getElem? (i := 132) (by decide +kernel), ⟨by decide, by decide⟩, by decide +kernel⟩
set_option maxRecDepth 100000 in
theorem mv_mo_isSpeaker : sm_MFV mi_mo_isSpeaker := ⟨List.mem_of_getElem? (i := 1133) (by decide +kernel), List.mem_of_getElem? (i := 83) (by decide +kernel)⟩
set_option maxRecDepth 100000 in
theorem ii_mo_isSpeaker_0 : sm_D prog_9_method_28_code 0 1 1 (.iload_n 1) := ⟨by decide +kernel, rfl⟩
set_option maxRecDepth 100000 in
theorem ii_mo_isSpeaker_1 : sm_D prog_9_method_28_code 1 1 2 (.i2l) := ⟨by decide +kernel, rfl⟩
set_option maxRecDepth 100000 in
theorem ii_mo_isSpeaker_2 : sm_D prog_9_method_28_code 2 1 3 (.lconst 0) := ⟨by decide +kernel, rfl⟩
set_option maxRecDepth 100000 in
theorem ii_mo_isSpeaker_3 : sm_D prog_9_method_28_code 3 1 4 (.aload_n 0) := ⟨by decide +kernel, rfl⟩
set_option maxRecDepth 100000 in
theorem ii_mo_isSpeaker_4 : sm_D prog_9_method_28_code 4 3 7 (.getfield 135) := ⟨by decide +kernel, rfl⟩
set_option maxRecDepth 100000 in
theorem ii_mo_isSpeaker_7 : sm_D prog_9_method_28_code 7 1 8 (.iconst 1) := ⟨by decide +kernel, rfl⟩
set_option maxRecDepth 100000 in
theorem ii_mo_isSpeaker_8 : sm_D prog_9_method_28_code 8 1 9 (.isub) := ⟨by decide +kernel, rfl⟩
set_option maxRecDepth 100000 in
theorem ii_mo_isSpeaker_9 : sm_D prog_9_method_28_code 9 1 10 (.i2l) := ⟨by decide +kernel, rfl⟩
set_option maxRecDepth 100000 in
theorem ii_mo_isSpeaker_10 : sm_D prog_9_method_28_code 10 3 13 (.invokestatic 71) := ⟨by decide +kernel, rfl⟩
set_option maxRecDepth 100000 in
theorem ii_mo_isSpeaker_13 : sm_D prog_9_method_28_code 13 1 14 (.ireturn) := ⟨by decide +kernel, rfl⟩
noncomputable def ff_mo_isSpeaker  (a1 : Int32) (w : sm_Mem) : sm_R := (sm_cI (ff_mo_in ((Int32.toInt64 a1)) ((0 : Int64)) ((Int32.toInt64 ((w.1 62 1) - (1 : Int32)))) w) fun x1 w2 => (sm_rz x1 w2))
set_option maxHeartbeats 4000000 in
set_option maxRecDepth 100000 in
theorem ss_mo_isSpeaker_0 {E : Nat × (Nat → Int32)}  (a1 : Int32) (w : sm_Mem) : sm_Sim E (mi_mo_isSpeaker) 0 [some (.ref 62), some (.int a1)] [] w (ff_mo_isSpeaker  a1 w) := by
  unfold ff_mo_isSpeaker
  refine sm_iload_n ii_mo_isSpeaker_0 rfl ?_
  refine sm_i2l ii_mo_isSpeaker_1 ?_
  refine sm_lconst (0 : Int64) ii_mo_isSpeaker_2 (by decide) ?_
  refine sm_aload_n ii_mo_isSpeaker_3 rfl ?_
  refine sm_getI ii_mo_isSpeaker_4 fl_mo_135 (k := 62) rfl ?_
  refine sm_iconst (1 : Int32) ii_mo_isSpeaker_7 (by decide) ?_
  refine sm_isub ii_mo_isSpeaker_8 ?_
  refine sm_i2l ii_mo_isSpeaker_9 ?_
  refine sm_csI [.long (Int32.toInt64 a1), .long (0 : Int64), .long (Int32.toInt64 ((w.1 62 1) - (1 : Int32)))] [] rfl ii_mo_isSpeaker_10 ml_mo_71 (mf_mo_in) (mv_mo_in) (Nat.le_of_ble_eq_true rfl) rfl rfl rfl (mc_mo_in ((Int32.toInt64 a1)) ((0 : Int64)) ((Int32.toInt64 ((w.1 62 1) - (1 : Int32)))) w) (fun x1 w2 => ?_)
  exact sm_zret ii_mo_isSpeaker_13 rfl
set_option maxHeartbeats 4000000 in
set_option maxRecDepth 100000 in
theorem mc_mo_isSpeaker (a1 : Int32) (w : sm_Mem) : sm_MC mi_mo_isSpeaker [.ref 62, .int a1] w (ff_mo_isSpeaker a1 w) := sm_MC_of (0, fun _ => 0) (by decide +kernel) (by decide) rfl (Nat.le_of_ble_eq_true rfl) (ss_mo_isSpeaker_0 a1 w)
abbrev mi_mo_toldOf : sm_MI := (⟨"HerOrdersModel", "toldOf", "(II)I"⟩, prog_9_method_38_code, 5, (some .int), 1)
set_option maxRecDepth 100000 in
theorem mf_mo_toldOf : sm_MF mi_mo_toldOf 2 := ⟨List.mem_of_getElem? (i := 1138) (by decide +kernel), List.mem_of_getElem? (i := 132) (by decide +kernel), ⟨by decide, by decide⟩, by decide +kernel⟩
set_option maxRecDepth 100000 in
theorem mv_mo_toldOf : sm_MFV mi_mo_toldOf := ⟨List.mem_of_getElem? (i := 1137) (by decide +kernel), List.mem_of_getElem? (i := 84) (by decide +kernel)⟩
set_option maxRecDepth 100000 in
theorem ii_mo_toldOf_0 : sm_D prog_9_method_38_code 0 1 1 (.iconst 0) := ⟨by decide +kernel, rfl⟩
set_option maxRecDepth 100000 in
theorem ii_mo_toldOf_1 : sm_D prog_9_method_38_code 1 1 2 (.istore_n 3) := ⟨by decide +kernel, rfl⟩
set_option maxRecDepth 100000 in
theorem ii_mo_toldOf_2 : sm_D prog_9_method_38_code 2 1 3 (.iload_n 2) := ⟨by decide +kernel, rfl⟩
set_option maxRecDepth 100000 in
theorem ii_mo_toldOf_3 : sm_D prog_9_method_38_code 3 33 36 (.tableswitch 74 0 4 #[33, 40, 47, 57, 64]) := ⟨by decide +kernel, rfl⟩
set_option maxRecDepth 100000 in
theorem ii_mo_toldOf_36 : sm_D prog_9_method_38_code 36 1 37 (.aload_n 0) := ⟨by decide +kernel, rfl⟩
set_option maxRecDepth 100000 in
theorem ii_mo_toldOf_37 : sm_D prog_9_method_38_code 37 3 40 (.getfield 13) := ⟨by decide +kernel, rfl⟩
set_option maxRecDepth 100000 in
theorem ii_mo_toldOf_40 : sm_D prog_9_method_38_code 40 1 41 (.iload_n 1) := ⟨by decide +kernel, rfl⟩
set_option maxRecDepth 100000 in
theorem ii_mo_toldOf_41 : sm_D prog_9_method_38_code 41 1 42 (.iaload) := ⟨by decide +kernel, rfl⟩
set_option maxRecDepth 100000 in
theorem ii_mo_toldOf_42 : sm_D prog_9_method_38_code 42 1 43 (.ireturn) := ⟨by decide +kernel, rfl⟩
set_option maxRecDepth 100000 in
theorem ii_mo_toldOf_43 : sm_D prog_9_method_38_code 43 1 44 (.aload_n 0) := ⟨by decide +kernel, rfl⟩
set_option maxRecDepth 100000 in
theorem ii_mo_toldOf_44 : sm_D prog_9_method_38_code 44 3 47 (.getfield 16) := ⟨by decide +kernel, rfl⟩
set_option maxRecDepth 100000 in
theorem ii_mo_toldOf_47 : sm_D prog_9_method_38_code 47 1 48 (.iload_n 1) := ⟨by decide +kernel, rfl⟩
set_option maxRecDepth 100000 in
theorem ii_mo_toldOf_48 : sm_D prog_9_method_38_code 48 1 49 (.iaload) := ⟨by decide +kernel, rfl⟩
set_option maxRecDepth 100000 in
theorem ii_mo_toldOf_49 : sm_D prog_9_method_38_code 49 1 50 (.ireturn) := ⟨by decide +kernel, rfl⟩
set_option maxRecDepth 100000 in
theorem ii_mo_toldOf_50 : sm_D prog_9_method_38_code 50 1 51 (.aload_n 0) := ⟨by decide +kernel, rfl⟩
set_option maxRecDepth 100000 in
theorem ii_mo_toldOf_51 : sm_D prog_9_method_38_code 51 3 54 (.getfield 7) := ⟨by decide +kernel, rfl⟩
set_option maxRecDepth 100000 in
theorem ii_mo_toldOf_54 : sm_D prog_9_method_38_code 54 2 56 (.bipush 20) := ⟨by decide +kernel, rfl⟩
set_option maxRecDepth 100000 in
theorem ii_mo_toldOf_56 : sm_D prog_9_method_38_code 56 1 57 (.iload_n 1) := ⟨by decide +kernel, rfl⟩
set_option maxRecDepth 100000 in
theorem ii_mo_toldOf_57 : sm_D prog_9_method_38_code 57 1 58 (.iadd) := ⟨by decide +kernel, rfl⟩
set_option maxRecDepth 100000 in
theorem ii_mo_toldOf_58 : sm_D prog_9_method_38_code 58 1 59 (.iaload) := ⟨by decide +kernel, rfl⟩
set_option maxRecDepth 100000 in
theorem ii_mo_toldOf_59 : sm_D prog_9_method_38_code 59 1 60 (.ireturn) := ⟨by decide +kernel, rfl⟩
set_option maxRecDepth 100000 in
theorem ii_mo_toldOf_60 : sm_D prog_9_method_38_code 60 1 61 (.aload_n 0) := ⟨by decide +kernel, rfl⟩
set_option maxRecDepth 100000 in
theorem ii_mo_toldOf_61 : sm_D prog_9_method_38_code 61 3 64 (.getfield 19) := ⟨by decide +kernel, rfl⟩
set_option maxRecDepth 100000 in
theorem ii_mo_toldOf_64 : sm_D prog_9_method_38_code 64 1 65 (.iload_n 1) := ⟨by decide +kernel, rfl⟩
set_option maxRecDepth 100000 in
theorem ii_mo_toldOf_65 : sm_D prog_9_method_38_code 65 1 66 (.iaload) := ⟨by decide +kernel, rfl⟩
set_option maxRecDepth 100000 in
theorem ii_mo_toldOf_66 : sm_D prog_9_method_38_code 66 1 67 (.ireturn) := ⟨by decide +kernel, rfl⟩
set_option maxRecDepth 100000 in
theorem ii_mo_toldOf_67 : sm_D prog_9_method_38_code 67 1 68 (.aload_n 0) := ⟨by decide +kernel, rfl⟩
set_option maxRecDepth 100000 in
theorem ii_mo_toldOf_68 : sm_D prog_9_method_38_code 68 3 71 (.getfield 7) := ⟨by decide +kernel, rfl⟩
set_option maxRecDepth 100000 in
theorem ii_mo_toldOf_71 : sm_D prog_9_method_38_code 71 2 73 (.bipush 26) := ⟨by decide +kernel, rfl⟩
set_option maxRecDepth 100000 in
theorem ii_mo_toldOf_73 : sm_D prog_9_method_38_code 73 1 74 (.iload_n 1) := ⟨by decide +kernel, rfl⟩
set_option maxRecDepth 100000 in
theorem ii_mo_toldOf_74 : sm_D prog_9_method_38_code 74 1 75 (.iadd) := ⟨by decide +kernel, rfl⟩
set_option maxRecDepth 100000 in
theorem ii_mo_toldOf_75 : sm_D prog_9_method_38_code 75 1 76 (.iaload) := ⟨by decide +kernel, rfl⟩
set_option maxRecDepth 100000 in
theorem ii_mo_toldOf_76 : sm_D prog_9_method_38_code 76 1 77 (.ireturn) := ⟨by decide +kernel, rfl⟩
set_option maxRecDepth 100000 in
theorem ii_mo_toldOf_77 : sm_D prog_9_method_38_code 77 1 78 (.iconst 0) := ⟨by decide +kernel, rfl⟩
set_option maxRecDepth 100000 in
theorem ii_mo_toldOf_78 : sm_D prog_9_method_38_code 78 2 80 (.istore 4) := ⟨by decide +kernel, rfl⟩
set_option maxRecDepth 100000 in
theorem ii_mo_toldOf_80 : sm_D prog_9_method_38_code 80 2 82 (.iload 4) := ⟨by decide +kernel, rfl⟩
set_option maxRecDepth 100000 in
theorem ii_mo_toldOf_82 : sm_D prog_9_method_38_code 82 1 83 (.aload_n 0) := ⟨by decide +kernel, rfl⟩
set_option maxRecDepth 100000 in
theorem ii_mo_toldOf_83 : sm_D prog_9_method_38_code 83 3 86 (.getfield 7) := ⟨by decide +kernel, rfl⟩
set_option maxRecDepth 100000 in
theorem ii_mo_toldOf_86 : sm_D prog_9_method_38_code 86 1 87 (.iconst 2) := ⟨by decide +kernel, rfl⟩
set_option maxRecDepth 100000 in
theorem ii_mo_toldOf_87 : sm_D prog_9_method_38_code 87 1 88 (.iaload) := ⟨by decide +kernel, rfl⟩
set_option maxRecDepth 100000 in
theorem ii_mo_toldOf_88 : sm_D prog_9_method_38_code 88 3 91 (.if_icmp .ge 31) := ⟨by decide +kernel, rfl⟩
set_option maxRecDepth 100000 in
theorem ii_mo_toldOf_91 : sm_D prog_9_method_38_code 91 1 92 (.iload_n 3) := ⟨by decide +kernel, rfl⟩
set_option maxRecDepth 100000 in
theorem ii_mo_toldOf_92 : sm_D prog_9_method_38_code 92 1 93 (.aload_n 0) := ⟨by decide +kernel, rfl⟩
set_option maxRecDepth 100000 in
theorem ii_mo_toldOf_93 : sm_D prog_9_method_38_code 93 3 96 (.getfield 7) := ⟨by decide +kernel, rfl⟩
set_option maxRecDepth 100000 in
theorem ii_mo_toldOf_96 : sm_D prog_9_method_38_code 96 2 98 (.bipush 12) := ⟨by decide +kernel, rfl⟩
set_option maxRecDepth 100000 in
theorem ii_mo_toldOf_98 : sm_D prog_9_method_38_code 98 2 100 (.iload 4) := ⟨by decide +kernel, rfl⟩
set_option maxRecDepth 100000 in
theorem ii_mo_toldOf_100 : sm_D prog_9_method_38_code 100 1 101 (.iadd) := ⟨by decide +kernel, rfl⟩
set_option maxRecDepth 100000 in
theorem ii_mo_toldOf_101 : sm_D prog_9_method_38_code 101 1 102 (.iaload) := ⟨by decide +kernel, rfl⟩
set_option maxRecDepth 100000 in
theorem ii_mo_toldOf_102 : sm_D prog_9_method_38_code 102 1 103 (.iload_n 1) := ⟨by decide +kernel, rfl⟩
set_option maxRecDepth 100000 in
theorem ii_mo_toldOf_103 : sm_D prog_9_method_38_code 103 3 106 (.if_icmp .ne 7) := ⟨by decide +kernel, rfl⟩
set_option maxRecDepth 100000 in
theorem ii_mo_toldOf_106 : sm_D prog_9_method_38_code 106 1 107 (.iconst 1) := ⟨by decide +kernel, rfl⟩
set_option maxRecDepth 100000 in
theorem ii_mo_toldOf_107 : sm_D prog_9_method_38_code 107 3 110 (.goto 4) := ⟨by decide +kernel, rfl⟩
set_option maxRecDepth 100000 in
theorem ii_mo_toldOf_110 : sm_D prog_9_method_38_code 110 1 111 (.iconst 0) := ⟨by decide +kernel, rfl⟩
set_option maxRecDepth 100000 in
theorem ii_mo_toldOf_111 : sm_D prog_9_method_38_code 111 1 112 (.iadd) := ⟨by decide +kernel, rfl⟩
set_option maxRecDepth 100000 in
theorem ii_mo_toldOf_112 : sm_D prog_9_method_38_code 112 1 113 (.istore_n 3) := ⟨by decide +kernel, rfl⟩
set_option maxRecDepth 100000 in
theorem ii_mo_toldOf_113 : sm_D prog_9_method_38_code 113 3 116 (.iinc 4 1) := ⟨by decide +kernel, rfl⟩
set_option maxRecDepth 100000 in
theorem ii_mo_toldOf_116 : sm_D prog_9_method_38_code 116 3 119 (.goto (-36)) := ⟨by decide +kernel, rfl⟩
set_option maxRecDepth 100000 in
theorem ii_mo_toldOf_119 : sm_D prog_9_method_38_code 119 1 120 (.iload_n 3) := ⟨by decide +kernel, rfl⟩
set_option maxRecDepth 100000 in
theorem ii_mo_toldOf_120 : sm_D prog_9_method_38_code 120 1 121 (.ireturn) := ⟨by decide +kernel, rfl⟩
noncomputable def ff_mo_toldOf_111 (self80 : Int32 → Int32 → Int32 → sm_Mem → sm_R) (a1 : Int32) (a4 : Int32) (b0 : Int32) (b1 : Int32) (w : sm_Mem) : sm_R := self80 (a1) ((b0 + b1)) ((a4 + (1 : Int32))) w
set_option maxHeartbeats 4000000 in
set_option maxRecDepth 100000 in
theorem ss_mo_toldOf_111 {E : Nat × (Nat → Int32)} (self80 : Int32 → Int32 → Int32 → sm_Mem → sm_R) (hself80 : ∀ (a1 : Int32) (a3 : Int32) (a4 : Int32) (w : sm_Mem), sm_Sim E (mi_mo_toldOf) 80 [some (.ref 62), some (.int a1), none, some (.int a3), some (.int a4)] [] w (self80 a1 a3 a4 w)) (a1 : Int32) (a4 : Int32) (b0 : Int32) (b1 : Int32) (w : sm_Mem) : sm_Sim E (mi_mo_toldOf) 111 [some (.ref 62), some (.int a1), none, none, some (.int a4)] [.int b1, .int b0] w (ff_mo_toldOf_111 self80 a1 a4 b0 b1 w) := by
  unfold ff_mo_toldOf_111
  refine sm_iadd ii_mo_toldOf_111 ?_
  refine sm_istore_n [some (.ref 62), some (.int a1), none, some (.int (b0 + b1)), some (.int a4)] ii_mo_toldOf_112 rfl rfl ?_
  refine sm_iinc (a4 + (1 : Int32)) [some (.ref 62), some (.int a1), none, some (.int (b0 + b1)), some (.int (a4 + (1 : Int32)))] ii_mo_toldOf_113 rfl rfl rfl rfl ?_
  refine sm_goto 80 ii_mo_toldOf_116 (by decide) ?_
  exact hself80 (a1) ((b0 + b1)) ((a4 + (1 : Int32))) w
noncomputable def ff_mo_toldOf_80_b  (self80 : Int32 → Int32 → Int32 → sm_Mem → sm_R) (a1 : Int32) (a3 : Int32) (a4 : Int32) (w : sm_Mem) : sm_R := (Option.bind (sm_rd w 63 5184 (2 : Int32)) fun x1 => (if x1 ≤ a4 then (some (.int a3, w)) else (Option.bind (sm_rd w 63 5184 ((12 : Int32) + a4)) fun x2 => (if x2 = a1 then ff_mo_toldOf_111 self80 (a1) (a4) (a3) ((1 : Int32)) w else ff_mo_toldOf_111 self80 (a1) (a4) (a3) ((0 : Int32)) w))))
noncomputable def ff_mo_toldOf_80_f  : Nat → Int32 → Int32 → Int32 → sm_Mem → sm_R
  | 0, _, _, _, _ => none
  | n + 1, a1, a3, a4, w => ff_mo_toldOf_80_b  (ff_mo_toldOf_80_f  n) a1 a3 a4 w
noncomputable def ff_mo_toldOf_80  (a1 : Int32) (a3 : Int32) (a4 : Int32) (w : sm_Mem) : sm_R := ff_mo_toldOf_80_f  sm_N a1 a3 a4 w
set_option maxHeartbeats 4000000 in
set_option maxRecDepth 100000 in
theorem ss_mo_toldOf_80_b {E : Nat × (Nat → Int32)}  (self80 : Int32 → Int32 → Int32 → sm_Mem → sm_R) (hself80 : ∀ (a1 : Int32) (a3 : Int32) (a4 : Int32) (w : sm_Mem), sm_Sim E (mi_mo_toldOf) 80 [some (.ref 62), some (.int a1), none, some (.int a3), some (.int a4)] [] w (self80 a1 a3 a4 w)) (a1 : Int32) (a3 : Int32) (a4 : Int32) (w : sm_Mem) : sm_Sim E (mi_mo_toldOf) 80 [some (.ref 62), some (.int a1), none, some (.int a3), some (.int a4)] [] w (ff_mo_toldOf_80_b  self80 a1 a3 a4 w) := by
  unfold ff_mo_toldOf_80_b
  refine sm_iload ii_mo_toldOf_80 rfl ?_
  refine sm_aload_n ii_mo_toldOf_82 rfl ?_
  refine sm_getR 63 ii_mo_toldOf_83 fl_mo_7 (k := 62) rfl ?_
  refine sm_iconst (2 : Int32) ii_mo_toldOf_86 (by decide) ?_
  refine sm_iald ii_mo_toldOf_87 (k := 63) rfl (fun x1 => ?_)
  refine sm_icmp_ge 119 ii_mo_toldOf_88 (by decide) ?_ ?_
  · refine sm_iload_n ii_mo_toldOf_119 rfl ?_
    exact sm_iret ii_mo_toldOf_120 rfl
  · refine sm_iload_n ii_mo_toldOf_91 rfl ?_
    refine sm_aload_n ii_mo_toldOf_92 rfl ?_
    refine sm_getR 63 ii_mo_toldOf_93 fl_mo_7 (k := 62) rfl ?_
    refine sm_bipush (12 : Int32) ii_mo_toldOf_96 (by decide) ?_
    refine sm_iload ii_mo_toldOf_98 rfl ?_
    refine sm_iadd ii_mo_toldOf_100 ?_
    refine sm_iald ii_mo_toldOf_101 (k := 63) rfl (fun x2 => ?_)
    refine sm_iload_n ii_mo_toldOf_102 rfl ?_
    refine sm_icmp_ne 110 ii_mo_toldOf_103 (by decide) ?_ ?_
    · refine sm_iconst (1 : Int32) ii_mo_toldOf_106 (by decide) ?_
      refine sm_goto 111 ii_mo_toldOf_107 (by decide) ?_
      refine sm_msk [true, true, false, false, true] [some (.ref 62), some (.int a1), none, none, some (.int a4)] rfl ?_
      exact ss_mo_toldOf_111 self80 hself80 (a1) (a4) (a3) ((1 : Int32)) w
    · refine sm_iconst (0 : Int32) ii_mo_toldOf_110 (by decide) ?_
      refine sm_msk [true, true, false, false, true] [some (.ref 62), some (.int a1), none, none, some (.int a4)] rfl ?_
      exact ss_mo_toldOf_111 self80 hself80 (a1) (a4) (a3) ((0 : Int32)) w
set_option maxHeartbeats 4000000 in
set_option maxRecDepth 100000 in
theorem ss_mo_toldOf_80_f {E : Nat × (Nat → Int32)}  : ∀ (n : Nat) (a1 : Int32) (a3 : Int32) (a4 : Int32) (w : sm_Mem), sm_Sim E (mi_mo_toldOf) 80 [some (.ref 62), some (.int a1), none, some (.int a3), some (.int a4)] [] w (ff_mo_toldOf_80_f  n a1 a3 a4 w)
  | 0, _, _, _, _ => fun _ _ h => by cases h
  | n + 1, a1, a3, a4, w => ss_mo_toldOf_80_b  _ (ss_mo_toldOf_80_f  n) a1 a3 a4 w
set_option maxHeartbeats 4000000 in
set_option maxRecDepth 100000 in
theorem ss_mo_toldOf_80 {E : Nat × (Nat → Int32)}  (a1 : Int32) (a3 : Int32) (a4 : Int32) (w : sm_Mem) : sm_Sim E (mi_mo_toldOf) 80 [some (.ref 62), some (.int a1), none, some (.int a3), some (.int a4)] [] w (ff_mo_toldOf_80  a1 a3 a4 w) := ss_mo_toldOf_80_f  sm_N a1 a3 a4 w
noncomputable def ff_mo_toldOf  (a1 : Int32) (a2 : Int32) (w : sm_Mem) : sm_R := (sm_sw a2 (0) [((Option.bind (sm_rd w 64 7 a1) fun x3 => (some (.int x3, w)))), ((Option.bind (sm_rd w 65 7 a1) fun x4 => (some (.int x4, w)))), ((Option.bind (sm_rd w 63 5184 ((20 : Int32) + a1)) fun x5 => (some (.int x5, w)))), ((Option.bind (sm_rd w 66 6 a1) fun x6 => (some (.int x6, w)))), ((Option.bind (sm_rd w 63 5184 ((26 : Int32) + a1)) fun x7 => (some (.int x7, w))))] (ff_mo_toldOf_80 (a1) ((0 : Int32)) ((0 : Int32)) w))
set_option maxHeartbeats 4000000 in
set_option maxRecDepth 100000 in
theorem ss_mo_toldOf_0 {E : Nat × (Nat → Int32)}  (a1 : Int32) (a2 : Int32) (w : sm_Mem) : sm_Sim E (mi_mo_toldOf) 0 [some (.ref 62), some (.int a1), some (.int a2), none, none] [] w (ff_mo_toldOf  a1 a2 w) := by
  unfold ff_mo_toldOf
  refine sm_iconst (0 : Int32) ii_mo_toldOf_0 (by decide) ?_
  refine sm_istore_n [some (.ref 62), some (.int a1), some (.int a2), some (.int (0 : Int32)), none] ii_mo_toldOf_1 rfl rfl ?_
  refine sm_iload_n ii_mo_toldOf_2 rfl ?_
  refine sm_table [36, 43, 50, 60, 67] 77 ii_mo_toldOf_3 rfl rfl rfl ⟨?_, ?_, ?_, ?_, ?_, trivial⟩ ?_
  · refine sm_aload_n ii_mo_toldOf_36 rfl ?_
    refine sm_getR 64 ii_mo_toldOf_37 fl_mo_13 (k := 62) rfl ?_
    refine sm_iload_n ii_mo_toldOf_40 rfl ?_
    refine sm_iald ii_mo_toldOf_41 (k := 64) rfl (fun x3 => ?_)
    exact sm_iret ii_mo_toldOf_42 rfl
  · refine sm_aload_n ii_mo_toldOf_43 rfl ?_
    refine sm_getR 65 ii_mo_toldOf_44 fl_mo_16 (k := 62) rfl ?_
    refine sm_iload_n ii_mo_toldOf_47 rfl ?_
    refine sm_iald ii_mo_toldOf_48 (k := 65) rfl (fun x4 => ?_)
    exact sm_iret ii_mo_toldOf_49 rfl
  · refine sm_aload_n ii_mo_toldOf_50 rfl ?_
    refine sm_getR 63 ii_mo_toldOf_51 fl_mo_7 (k := 62) rfl ?_
    refine sm_bipush (20 : Int32) ii_mo_toldOf_54 (by decide) ?_
    refine sm_iload_n ii_mo_toldOf_56 rfl ?_
    refine sm_iadd ii_mo_toldOf_57 ?_
    refine sm_iald ii_mo_toldOf_58 (k := 63) rfl (fun x5 => ?_)
    exact sm_iret ii_mo_toldOf_59 rfl
  · refine sm_aload_n ii_mo_toldOf_60 rfl ?_
    refine sm_getR 66 ii_mo_toldOf_61 fl_mo_19 (k := 62) rfl ?_
    refine sm_iload_n ii_mo_toldOf_64 rfl ?_
    refine sm_iald ii_mo_toldOf_65 (k := 66) rfl (fun x6 => ?_)
    exact sm_iret ii_mo_toldOf_66 rfl
  · refine sm_aload_n ii_mo_toldOf_67 rfl ?_
    refine sm_getR 63 ii_mo_toldOf_68 fl_mo_7 (k := 62) rfl ?_
    refine sm_bipush (26 : Int32) ii_mo_toldOf_71 (by decide) ?_
    refine sm_iload_n ii_mo_toldOf_73 rfl ?_
    refine sm_iadd ii_mo_toldOf_74 ?_
    refine sm_iald ii_mo_toldOf_75 (k := 63) rfl (fun x7 => ?_)
    exact sm_iret ii_mo_toldOf_76 rfl
  · refine sm_iconst (0 : Int32) ii_mo_toldOf_77 (by decide) ?_
    refine sm_istore [some (.ref 62), some (.int a1), some (.int a2), some (.int (0 : Int32)), some (.int (0 : Int32))] ii_mo_toldOf_78 rfl rfl ?_
    refine sm_msk [true, true, false, true, true] [some (.ref 62), some (.int a1), none, some (.int (0 : Int32)), some (.int (0 : Int32))] rfl ?_
    exact ss_mo_toldOf_80 (a1) ((0 : Int32)) ((0 : Int32)) w
set_option maxHeartbeats 4000000 in
set_option maxRecDepth 100000 in
theorem mc_mo_toldOf (a1 : Int32) (a2 : Int32) (w : sm_Mem) : sm_MC mi_mo_toldOf [.ref 62, .int a1, .int a2] w (ff_mo_toldOf a1 a2 w) := sm_MC_of (0, fun _ => 0) (by decide +kernel) (by decide) rfl (Nat.le_of_ble_eq_true rfl) (ss_mo_toldOf_0 a1 a2 w)
abbrev mi_mo_speaker : sm_MI := (⟨"HerOrdersModel", "speaker", "(II)I"⟩, prog_9_method_39_code, 3, (some .int), 3)
set_option maxRecDepth 100000 in
theorem mf_mo_speaker : sm_MF mi_mo_speaker 2 := ⟨List.mem_of_getElem? (i := 1130) (by decide +kernel), List.mem_of_getElem? (i := 132) (by decide +kernel), ⟨by decide, by decide⟩, by decide +kernel⟩
set_option maxRecDepth 100000 in
theorem mv_mo_speaker : sm_MFV mi_mo_speaker := ⟨List.mem_of_getElem? (i := 1128) (by decide +kernel), List.mem_of_getElem? (i := 1129) (by decide +kernel)⟩
set_option maxRecDepth 100000 in
theorem ii_mo_speaker_0 : sm_D prog_9_method_39_code 0 1 1 (.aload_n 0) := ⟨by decide +kernel, rfl⟩
set_option maxRecDepth 100000 in
theorem ii_mo_speaker_1 : sm_D prog_9_method_39_code 1 1 2 (.iload_n 1) := ⟨by decide +kernel, rfl⟩
set_option maxRecDepth 100000 in
theorem ii_mo_speaker_2 : sm_D prog_9_method_39_code 2 3 5 (.invokevirtual 160) := ⟨by decide +kernel, rfl⟩
set_option maxRecDepth 100000 in
theorem ii_mo_speaker_5 : sm_D prog_9_method_39_code 5 3 8 (.ifCond .eq 28) := ⟨by decide +kernel, rfl⟩
set_option maxRecDepth 100000 in
theorem ii_mo_speaker_8 : sm_D prog_9_method_39_code 8 1 9 (.iload_n 2) := ⟨by decide +kernel, rfl⟩
set_option maxRecDepth 100000 in
theorem ii_mo_speaker_9 : sm_D prog_9_method_39_code 9 1 10 (.i2l) := ⟨by decide +kernel, rfl⟩
set_option maxRecDepth 100000 in
theorem ii_mo_speaker_10 : sm_D prog_9_method_39_code 10 1 11 (.lconst 0) := ⟨by decide +kernel, rfl⟩
set_option maxRecDepth 100000 in
theorem ii_mo_speaker_11 : sm_D prog_9_method_39_code 11 3 14 (.ldc2_w 69) := ⟨by decide +kernel, rfl⟩
set_option maxRecDepth 100000 in
theorem ii_mo_speaker_14 : sm_D prog_9_method_39_code 14 3 17 (.invokestatic 71) := ⟨by decide +kernel, rfl⟩
set_option maxRecDepth 100000 in
theorem ii_mo_speaker_17 : sm_D prog_9_method_39_code 17 3 20 (.ifCond .eq 16) := ⟨by decide +kernel, rfl⟩
set_option maxRecDepth 100000 in
theorem ii_mo_speaker_20 : sm_D prog_9_method_39_code 20 1 21 (.aload_n 0) := ⟨by decide +kernel, rfl⟩
set_option maxRecDepth 100000 in
theorem ii_mo_speaker_21 : sm_D prog_9_method_39_code 21 1 22 (.aload_n 0) := ⟨by decide +kernel, rfl⟩
set_option maxRecDepth 100000 in
theorem ii_mo_speaker_22 : sm_D prog_9_method_39_code 22 1 23 (.iload_n 1) := ⟨by decide +kernel, rfl⟩
set_option maxRecDepth 100000 in
theorem ii_mo_speaker_23 : sm_D prog_9_method_39_code 23 1 24 (.iload_n 2) := ⟨by decide +kernel, rfl⟩
set_option maxRecDepth 100000 in
theorem ii_mo_speaker_24 : sm_D prog_9_method_39_code 24 3 27 (.invokevirtual 163) := ⟨by decide +kernel, rfl⟩
set_option maxRecDepth 100000 in
theorem ii_mo_speaker_27 : sm_D prog_9_method_39_code 27 3 30 (.invokevirtual 93) := ⟨by decide +kernel, rfl⟩
set_option maxRecDepth 100000 in
theorem ii_mo_speaker_30 : sm_D prog_9_method_39_code 30 3 33 (.goto 4) := ⟨by decide +kernel, rfl⟩
set_option maxRecDepth 100000 in
theorem ii_mo_speaker_33 : sm_D prog_9_method_39_code 33 1 34 (.iconst (-1)) := ⟨by decide +kernel, rfl⟩
set_option maxRecDepth 100000 in
theorem ii_mo_speaker_34 : sm_D prog_9_method_39_code 34 1 35 (.ireturn) := ⟨by decide +kernel, rfl⟩
noncomputable def ff_mo_speaker  (a1 : Int32) (a2 : Int32) (w : sm_Mem) : sm_R := (sm_cI (ff_mo_isSpeaker (a1) w) fun x1 w2 => (if x1 = (0 : Int32) then (some (.int (-1 : Int32), w2)) else (sm_cI (ff_mo_in ((Int32.toInt64 a2)) ((0 : Int64)) ((5 : Int64)) w2) fun x3 w4 => (if x3 = (0 : Int32) then (some (.int (-1 : Int32), w4)) else (sm_cI (ff_mo_toldOf (a1) (a2) w4) fun x5 w6 => (sm_cI (ff_mo_tell (x5) w6) fun x7 w8 => (some (.int x7, w8))))))))
set_option maxHeartbeats 4000000 in
set_option maxRecDepth 100000 in
theorem ss_mo_speaker_0 {E : Nat × (Nat → Int32)}  (a1 : Int32) (a2 : Int32) (w : sm_Mem) : sm_Sim E (mi_mo_speaker) 0 [some (.ref 62), some (.int a1), some (.int a2)] [] w (ff_mo_speaker  a1 a2 w) := by
  unfold ff_mo_speaker
  refine sm_aload_n ii_mo_speaker_0 rfl ?_
  refine sm_iload_n ii_mo_speaker_1 rfl ?_
  refine sm_cvI [.int a1] [] rfl ii_mo_speaker_2 ml_mo_160 (mf_mo_isSpeaker) (mv_mo_isSpeaker) (Nat.le_of_ble_eq_true rfl) rfl 7 rfl rfl rfl rfl (mc_mo_isSpeaker (a1) w) (fun x1 w2 => ?_)
  refine sm_if_eq 33 ii_mo_speaker_5 (by decide) ?_ ?_
  · refine sm_iconst (-1 : Int32) ii_mo_speaker_33 (by decide) ?_
    exact sm_iret ii_mo_speaker_34 rfl
  · refine sm_iload_n ii_mo_speaker_8 rfl ?_
    refine sm_i2l ii_mo_speaker_9 ?_
    refine sm_lconst (0 : Int64) ii_mo_speaker_10 (by decide) ?_
    refine sm_ldc2 (5 : Int64) ii_mo_speaker_11 (List.mem_of_getElem? (i := 1040) (by decide +kernel)) ?_
    refine sm_csI [.long (Int32.toInt64 a2), .long (0 : Int64), .long (5 : Int64)] [] rfl ii_mo_speaker_14 ml_mo_71 (mf_mo_in) (mv_mo_in) (Nat.le_of_ble_eq_true rfl) rfl rfl rfl (mc_mo_in ((Int32.toInt64 a2)) ((0 : Int64)) ((5 : Int64)) w2) (fun x3 w4 => ?_)
    refine sm_if_eq 33 ii_mo_speaker_17 (by decide) ?_ ?_
    · refine sm_iconst (-1 : Int32) ii_mo_speaker_33 (by decide) ?_
      exact sm_iret ii_mo_speaker_34 rfl
    · refine sm_aload_n ii_mo_speaker_20 rfl ?_
      refine sm_aload_n ii_mo_speaker_21 rfl ?_
      refine sm_iload_n ii_mo_speaker_22 rfl ?_
      refine sm_iload_n ii_mo_speaker_23 rfl ?_
      refine sm_cvI [.int a1, .int a2] [.ref 62] rfl ii_mo_speaker_24 ml_mo_163 (mf_mo_toldOf) (mv_mo_toldOf) (Nat.le_of_ble_eq_true rfl) rfl 7 rfl rfl rfl rfl (mc_mo_toldOf (a1) (a2) w4) (fun x5 w6 => ?_)
      refine sm_cvI [.int x5] [] rfl ii_mo_speaker_27 ml_mo_93 (mf_mo_tell) (mv_mo_tell) (Nat.le_of_ble_eq_true rfl) rfl 7 rfl rfl rfl rfl (mc_mo_tell (x5) w6) (fun x7 w8 => ?_)
      refine sm_goto 34 ii_mo_speaker_30 (by decide) ?_
      exact sm_iret ii_mo_speaker_34 rfl
set_option maxHeartbeats 4000000 in
set_option maxRecDepth 100000 in
theorem mc_mo_speaker (a1 : Int32) (a2 : Int32) (w : sm_Mem) : sm_MC mi_mo_speaker [.ref 62, .int a1, .int a2] w (ff_mo_speaker a1 a2 w) := sm_MC_of (0, fun _ => 0) (by decide +kernel) (by decide) rfl (Nat.le_of_ble_eq_true rfl) (ss_mo_speaker_0 a1 a2 w)
abbrev mi_ho_isOf : sm_MI := (⟨"HerOrders", "isOf", "(II)Z"⟩, prog_1_method_57_code, 2, (some .boolean), 1)
set_option maxRecDepth 100000 in
theorem mf_ho_isOf : sm_MF mi_ho_isOf 2 := ⟨List.mem_of_getElem? (i := 519) (by decide +kernel), List.mem_of_getElem? (i := 124) (by decide +kernel), ⟨by decide, by decide⟩, by decide +kernel⟩
set_option maxRecDepth 100000 in
theorem mv_ho_isOf : sm_MFS mi_ho_isOf := List.mem_of_getElem? (i := 518) (by decide +kernel)
set_option maxRecDepth 100000 in
theorem ii_ho_isOf_0 : sm_D prog_1_method_57_code 0 1 1 (.iload_n 0) := ⟨by decide +kernel, rfl⟩
set_option maxRecDepth 100000 in
theorem ii_ho_isOf_1 : sm_D prog_1_method_57_code 1 1 2 (.iload_n 1) := ⟨by decide +kernel, rfl⟩
set_option maxRecDepth 100000 in
theorem ii_ho_isOf_2 : sm_D prog_1_method_57_code 2 3 5 (.if_icmp .eq 7) := ⟨by decide +kernel, rfl⟩
set_option maxRecDepth 100000 in
theorem ii_ho_isOf_5 : sm_D prog_1_method_57_code 5 1 6 (.iload_n 1) := ⟨by decide +kernel, rfl⟩
set_option maxRecDepth 100000 in
theorem ii_ho_isOf_6 : sm_D prog_1_method_57_code 6 3 9 (.ifCond .ne 5) := ⟨by decide +kernel, rfl⟩
set_option maxRecDepth 100000 in
theorem ii_ho_isOf_9 : sm_D prog_1_method_57_code 9 1 10 (.iconst 1) := ⟨by decide +kernel, rfl⟩
set_option maxRecDepth 100000 in
theorem ii_ho_isOf_10 : sm_D prog_1_method_57_code 10 1 11 (.ireturn) := ⟨by decide +kernel, rfl⟩
set_option maxRecDepth 100000 in
theorem ii_ho_isOf_11 : sm_D prog_1_method_57_code 11 1 12 (.iload_n 0) := ⟨by decide +kernel, rfl⟩
set_option maxRecDepth 100000 in
theorem ii_ho_isOf_12 : sm_D prog_1_method_57_code 12 1 13 (.iconst 4) := ⟨by decide +kernel, rfl⟩
set_option maxRecDepth 100000 in
theorem ii_ho_isOf_13 : sm_D prog_1_method_57_code 13 3 16 (.if_icmp .ne 8) := ⟨by decide +kernel, rfl⟩
set_option maxRecDepth 100000 in
theorem ii_ho_isOf_16 : sm_D prog_1_method_57_code 16 1 17 (.iload_n 1) := ⟨by decide +kernel, rfl⟩
set_option maxRecDepth 100000 in
theorem ii_ho_isOf_17 : sm_D prog_1_method_57_code 17 1 18 (.iconst 3) := ⟨by decide +kernel, rfl⟩
set_option maxRecDepth 100000 in
theorem ii_ho_isOf_18 : sm_D prog_1_method_57_code 18 3 21 (.if_icmp .eq 13) := ⟨by decide +kernel, rfl⟩
set_option maxRecDepth 100000 in
theorem ii_ho_isOf_21 : sm_D prog_1_method_57_code 21 1 22 (.iload_n 0) := ⟨by decide +kernel, rfl⟩
set_option maxRecDepth 100000 in
theorem ii_ho_isOf_22 : sm_D prog_1_method_57_code 22 1 23 (.iconst 5) := ⟨by decide +kernel, rfl⟩
set_option maxRecDepth 100000 in
theorem ii_ho_isOf_23 : sm_D prog_1_method_57_code 23 3 26 (.if_icmp .ne 12) := ⟨by decide +kernel, rfl⟩
set_option maxRecDepth 100000 in
theorem ii_ho_isOf_26 : sm_D prog_1_method_57_code 26 1 27 (.iload_n 1) := ⟨by decide +kernel, rfl⟩
set_option maxRecDepth 100000 in
theorem ii_ho_isOf_27 : sm_D prog_1_method_57_code 27 1 28 (.iconst 1) := ⟨by decide +kernel, rfl⟩
set_option maxRecDepth 100000 in
theorem ii_ho_isOf_28 : sm_D prog_1_method_57_code 28 3 31 (.if_icmp .ne 7) := ⟨by decide +kernel, rfl⟩
set_option maxRecDepth 100000 in
theorem ii_ho_isOf_31 : sm_D prog_1_method_57_code 31 1 32 (.iconst 1) := ⟨by decide +kernel, rfl⟩
set_option maxRecDepth 100000 in
theorem ii_ho_isOf_32 : sm_D prog_1_method_57_code 32 3 35 (.goto 4) := ⟨by decide +kernel, rfl⟩
set_option maxRecDepth 100000 in
theorem ii_ho_isOf_35 : sm_D prog_1_method_57_code 35 1 36 (.iconst 0) := ⟨by decide +kernel, rfl⟩
set_option maxRecDepth 100000 in
theorem ii_ho_isOf_36 : sm_D prog_1_method_57_code 36 1 37 (.ireturn) := ⟨by decide +kernel, rfl⟩
noncomputable def ff_ho_isOf_21  (a0 : Int32) (a1 : Int32) (w : sm_Mem) : sm_R := (if a0 = (5 : Int32) then (if a1 = (1 : Int32) then (some (.int (1 : Int32), w)) else (some (.int (0 : Int32), w))) else (some (.int (0 : Int32), w)))
set_option maxHeartbeats 4000000 in
set_option maxRecDepth 100000 in
theorem ss_ho_isOf_21 {E : Nat × (Nat → Int32)}  (a0 : Int32) (a1 : Int32) (w : sm_Mem) : sm_Sim E (mi_ho_isOf) 21 [some (.int a0), some (.int a1)] [] w (ff_ho_isOf_21  a0 a1 w) := by
  unfold ff_ho_isOf_21
  refine sm_iload_n ii_ho_isOf_21 rfl ?_
  refine sm_iconst (5 : Int32) ii_ho_isOf_22 (by decide) ?_
  refine sm_icmp_ne 35 ii_ho_isOf_23 (by decide) ?_ ?_
  · refine sm_iload_n ii_ho_isOf_26 rfl ?_
    refine sm_iconst (1 : Int32) ii_ho_isOf_27 (by decide) ?_
    refine sm_icmp_ne 35 ii_ho_isOf_28 (by decide) ?_ ?_
    · refine sm_iconst (1 : Int32) ii_ho_isOf_31 (by decide) ?_
      refine sm_goto 36 ii_ho_isOf_32 (by decide) ?_
      exact sm_zret1 ii_ho_isOf_36 rfl (by decide)
    · refine sm_iconst (0 : Int32) ii_ho_isOf_35 (by decide) ?_
      exact sm_zret1 ii_ho_isOf_36 rfl (by decide)
  · refine sm_iconst (0 : Int32) ii_ho_isOf_35 (by decide) ?_
    exact sm_zret1 ii_ho_isOf_36 rfl (by decide)
noncomputable def ff_ho_isOf  (a0 : Int32) (a1 : Int32) (w : sm_Mem) : sm_R := (if a0 = a1 then (some (.int (1 : Int32), w)) else (if a1 = (0 : Int32) then (some (.int (1 : Int32), w)) else (if a0 = (4 : Int32) then (if a1 = (3 : Int32) then (some (.int (1 : Int32), w)) else ff_ho_isOf_21 (a0) (a1) w) else ff_ho_isOf_21 (a0) (a1) w)))
set_option maxHeartbeats 4000000 in
set_option maxRecDepth 100000 in
theorem ss_ho_isOf_0 {E : Nat × (Nat → Int32)}  (a0 : Int32) (a1 : Int32) (w : sm_Mem) : sm_Sim E (mi_ho_isOf) 0 [some (.int a0), some (.int a1)] [] w (ff_ho_isOf  a0 a1 w) := by
  unfold ff_ho_isOf
  refine sm_iload_n ii_ho_isOf_0 rfl ?_
  refine sm_iload_n ii_ho_isOf_1 rfl ?_
  refine sm_icmp_eq 9 ii_ho_isOf_2 (by decide) ?_ ?_
  · refine sm_iconst (1 : Int32) ii_ho_isOf_9 (by decide) ?_
    exact sm_zret1 ii_ho_isOf_10 rfl (by decide)
  · refine sm_iload_n ii_ho_isOf_5 rfl ?_
    refine sm_if_ne 11 ii_ho_isOf_6 (by decide) ?_ ?_
    · refine sm_iconst (1 : Int32) ii_ho_isOf_9 (by decide) ?_
      exact sm_zret1 ii_ho_isOf_10 rfl (by decide)
    · refine sm_iload_n ii_ho_isOf_11 rfl ?_
      refine sm_iconst (4 : Int32) ii_ho_isOf_12 (by decide) ?_
      refine sm_icmp_ne 21 ii_ho_isOf_13 (by decide) ?_ ?_
      · refine sm_iload_n ii_ho_isOf_16 rfl ?_
        refine sm_iconst (3 : Int32) ii_ho_isOf_17 (by decide) ?_
        refine sm_icmp_eq 31 ii_ho_isOf_18 (by decide) ?_ ?_
        · refine sm_iconst (1 : Int32) ii_ho_isOf_31 (by decide) ?_
          refine sm_goto 36 ii_ho_isOf_32 (by decide) ?_
          exact sm_zret1 ii_ho_isOf_36 rfl (by decide)
        · exact ss_ho_isOf_21 (a0) (a1) w
      · exact ss_ho_isOf_21 (a0) (a1) w
set_option maxHeartbeats 4000000 in
set_option maxRecDepth 100000 in
theorem mc_ho_isOf (a0 : Int32) (a1 : Int32) (w : sm_Mem) : sm_MC mi_ho_isOf [.int a0, .int a1] w (ff_ho_isOf a0 a1 w) := sm_MC_of (0, fun _ => 0) (by decide +kernel) (by decide) rfl (Nat.le_of_ble_eq_true rfl) (ss_ho_isOf_0 a0 a1 w)
abbrev mi_hs_lastWord : sm_MI := (⟨"HerOrders$House", "lastWord", "()I"⟩, prog_3_method_13_code, 1, (some .int), 1)
set_option maxRecDepth 100000 in
theorem mf_hs_lastWord : sm_MF mi_hs_lastWord 0 := ⟨List.mem_of_getElem? (i := 527) (by decide +kernel), List.mem_of_getElem? (i := 128) (by decide +kernel), ⟨by decide, by decide⟩, by decide +kernel⟩
set_option maxRecDepth 100000 in
theorem mv_hs_lastWord : sm_MFV mi_hs_lastWord := ⟨List.mem_of_getElem? (i := 526) (by decide +kernel), List.mem_of_getElem? (i := 16) (by decide +kernel)⟩
set_option maxRecDepth 100000 in
theorem ii_hs_lastWord_0 : sm_D prog_3_method_13_code 0 1 1 (.aload_n 0) := ⟨by decide +kernel, rfl⟩
set_option maxRecDepth 100000 in
theorem ii_hs_lastWord_1 : sm_D prog_3_method_13_code 1 3 4 (.getfield 89) := ⟨by decide +kernel, rfl⟩
set_option maxRecDepth 100000 in
theorem ii_hs_lastWord_4 : sm_D prog_3_method_13_code 4 3 7 (.ifCond .le 17) := ⟨by decide +kernel, rfl⟩
set_option maxRecDepth 100000 in
theorem ii_hs_lastWord_7 : sm_D prog_3_method_13_code 7 1 8 (.aload_n 0) := ⟨by decide +kernel, rfl⟩
set_option maxRecDepth 100000 in
theorem ii_hs_lastWord_8 : sm_D prog_3_method_13_code 8 3 11 (.getfield 30) := ⟨by decide +kernel, rfl⟩
set_option maxRecDepth 100000 in
theorem ii_hs_lastWord_11 : sm_D prog_3_method_13_code 11 1 12 (.aload_n 0) := ⟨by decide +kernel, rfl⟩
set_option maxRecDepth 100000 in
theorem ii_hs_lastWord_12 : sm_D prog_3_method_13_code 12 3 15 (.getfield 89) := ⟨by decide +kernel, rfl⟩
set_option maxRecDepth 100000 in
theorem ii_hs_lastWord_15 : sm_D prog_3_method_13_code 15 1 16 (.iconst 1) := ⟨by decide +kernel, rfl⟩
set_option maxRecDepth 100000 in
theorem ii_hs_lastWord_16 : sm_D prog_3_method_13_code 16 1 17 (.isub) := ⟨by decide +kernel, rfl⟩
set_option maxRecDepth 100000 in
theorem ii_hs_lastWord_17 : sm_D prog_3_method_13_code 17 1 18 (.iaload) := ⟨by decide +kernel, rfl⟩
set_option maxRecDepth 100000 in
theorem ii_hs_lastWord_18 : sm_D prog_3_method_13_code 18 3 21 (.goto 5) := ⟨by decide +kernel, rfl⟩
set_option maxRecDepth 100000 in
theorem ii_hs_lastWord_21 : sm_D prog_3_method_13_code 21 2 23 (.bipush (-9)) := ⟨by decide +kernel, rfl⟩
set_option maxRecDepth 100000 in
theorem ii_hs_lastWord_23 : sm_D prog_3_method_13_code 23 1 24 (.ireturn) := ⟨by decide +kernel, rfl⟩
noncomputable def ff_hs_lastWord   (w : sm_Mem) : sm_R := (if (w.1 36 11) ≤ (0 : Int32) then (some (.int (-9 : Int32), w)) else (Option.bind (sm_rd w 43 8 ((w.1 36 11) - (1 : Int32))) fun x1 => (some (.int x1, w))))
set_option maxHeartbeats 4000000 in
set_option maxRecDepth 100000 in
theorem ss_hs_lastWord_0 {E : Nat × (Nat → Int32)}   (w : sm_Mem) : sm_Sim E (mi_hs_lastWord) 0 [some (.ref 36)] [] w (ff_hs_lastWord   w) := by
  unfold ff_hs_lastWord
  refine sm_aload_n ii_hs_lastWord_0 rfl ?_
  refine sm_getI ii_hs_lastWord_1 fl_hs_89 (k := 36) rfl ?_
  refine sm_if_le 21 ii_hs_lastWord_4 (by decide) ?_ ?_
  · refine sm_bipush (-9 : Int32) ii_hs_lastWord_21 (by decide) ?_
    exact sm_iret ii_hs_lastWord_23 rfl
  · refine sm_aload_n ii_hs_lastWord_7 rfl ?_
    refine sm_getR 43 ii_hs_lastWord_8 fl_hs_30 (k := 36) rfl ?_
    refine sm_aload_n ii_hs_lastWord_11 rfl ?_
    refine sm_getI ii_hs_lastWord_12 fl_hs_89 (k := 36) rfl ?_
    refine sm_iconst (1 : Int32) ii_hs_lastWord_15 (by decide) ?_
    refine sm_isub ii_hs_lastWord_16 ?_
    refine sm_iald ii_hs_lastWord_17 (k := 43) rfl (fun x1 => ?_)
    refine sm_goto 23 ii_hs_lastWord_18 (by decide) ?_
    exact sm_iret ii_hs_lastWord_23 rfl
set_option maxHeartbeats 4000000 in
set_option maxRecDepth 100000 in
theorem mc_hs_lastWord  (w : sm_Mem) : sm_MC mi_hs_lastWord [.ref 36] w (ff_hs_lastWord  w) := sm_MC_of (0, fun _ => 0) (by decide +kernel) (by decide) rfl (Nat.le_of_ble_eq_true rfl) (ss_hs_lastWord_0  w)
abbrev mi_hs_isAble : sm_MI := (⟨"HerOrders$House", "isAble", "(IIII)Z"⟩, prog_3_method_16_code, 6, (some .boolean), 1)
set_option maxRecDepth 100000 in
theorem mf_hs_isAble : sm_MF mi_hs_isAble 4 := ⟨List.mem_of_getElem? (i := 531) (by decide +kernel), List.mem_of_getElem? (i := 128) (by decide +kernel), ⟨by decide, by decide⟩, by decide +kernel⟩
set_option maxRecDepth 100000 in
theorem mv_hs_isAble : sm_MFV mi_hs_isAble := ⟨List.mem_of_getElem? (i := 530) (by decide +kernel), List.mem_of_getElem? (i := 17) (by decide +kernel)⟩
set_option maxRecDepth 100000 in
theorem ii_hs_isAble_0 : sm_D prog_3_method_16_code 0 1 1 (.aload_n 0) := ⟨by decide +kernel, rfl⟩
set_option maxRecDepth 100000 in
theorem ii_hs_isAble_1 : sm_D prog_3_method_16_code 1 3 4 (.getfield 15) := ⟨by decide +kernel, rfl⟩
set_option maxRecDepth 100000 in
theorem ii_hs_isAble_4 : sm_D prog_3_method_16_code 4 1 5 (.iload_n 1) := ⟨by decide +kernel, rfl⟩
set_option maxRecDepth 100000 in
theorem ii_hs_isAble_5 : sm_D prog_3_method_16_code 5 1 6 (.iaload) := ⟨by decide +kernel, rfl⟩
set_option maxRecDepth 100000 in
theorem ii_hs_isAble_6 : sm_D prog_3_method_16_code 6 2 8 (.iload 4) := ⟨by decide +kernel, rfl⟩
set_option maxRecDepth 100000 in
theorem ii_hs_isAble_8 : sm_D prog_3_method_16_code 8 1 9 (.ishr) := ⟨by decide +kernel, rfl⟩
set_option maxRecDepth 100000 in
theorem ii_hs_isAble_9 : sm_D prog_3_method_16_code 9 1 10 (.iconst 1) := ⟨by decide +kernel, rfl⟩
set_option maxRecDepth 100000 in
theorem ii_hs_isAble_10 : sm_D prog_3_method_16_code 10 1 11 (.iand) := ⟨by decide +kernel, rfl⟩
set_option maxRecDepth 100000 in
theorem ii_hs_isAble_11 : sm_D prog_3_method_16_code 11 3 14 (.ifCond .eq 7) := ⟨by decide +kernel, rfl⟩
set_option maxRecDepth 100000 in
theorem ii_hs_isAble_14 : sm_D prog_3_method_16_code 14 1 15 (.iconst 1) := ⟨by decide +kernel, rfl⟩
set_option maxRecDepth 100000 in
theorem ii_hs_isAble_15 : sm_D prog_3_method_16_code 15 3 18 (.goto 4) := ⟨by decide +kernel, rfl⟩
set_option maxRecDepth 100000 in
theorem ii_hs_isAble_18 : sm_D prog_3_method_16_code 18 1 19 (.iconst 0) := ⟨by decide +kernel, rfl⟩
set_option maxRecDepth 100000 in
theorem ii_hs_isAble_19 : sm_D prog_3_method_16_code 19 2 21 (.istore 5) := ⟨by decide +kernel, rfl⟩
set_option maxRecDepth 100000 in
theorem ii_hs_isAble_21 : sm_D prog_3_method_16_code 21 1 22 (.iload_n 2) := ⟨by decide +kernel, rfl⟩
set_option maxRecDepth 100000 in
theorem ii_hs_isAble_22 : sm_D prog_3_method_16_code 22 34 56 (.tableswitch 147 1 5 #[34, 51, 71, 88, 113]) := ⟨by decide +kernel, rfl⟩
set_option maxRecDepth 100000 in
theorem ii_hs_isAble_56 : sm_D prog_3_method_16_code 56 2 58 (.iload 5) := ⟨by decide +kernel, rfl⟩
set_option maxRecDepth 100000 in
theorem ii_hs_isAble_58 : sm_D prog_3_method_16_code 58 3 61 (.ifCond .ne 9) := ⟨by decide +kernel, rfl⟩
set_option maxRecDepth 100000 in
theorem ii_hs_isAble_61 : sm_D prog_3_method_16_code 61 2 63 (.iload 4) := ⟨by decide +kernel, rfl⟩
set_option maxRecDepth 100000 in
theorem ii_hs_isAble_63 : sm_D prog_3_method_16_code 63 1 64 (.iload_n 3) := ⟨by decide +kernel, rfl⟩
set_option maxRecDepth 100000 in
theorem ii_hs_isAble_64 : sm_D prog_3_method_16_code 64 3 67 (.if_icmp .ne 7) := ⟨by decide +kernel, rfl⟩
set_option maxRecDepth 100000 in
theorem ii_hs_isAble_67 : sm_D prog_3_method_16_code 67 1 68 (.iconst 1) := ⟨by decide +kernel, rfl⟩
set_option maxRecDepth 100000 in
theorem ii_hs_isAble_68 : sm_D prog_3_method_16_code 68 3 71 (.goto 4) := ⟨by decide +kernel, rfl⟩
set_option maxRecDepth 100000 in
theorem ii_hs_isAble_71 : sm_D prog_3_method_16_code 71 1 72 (.iconst 0) := ⟨by decide +kernel, rfl⟩
set_option maxRecDepth 100000 in
theorem ii_hs_isAble_72 : sm_D prog_3_method_16_code 72 1 73 (.ireturn) := ⟨by decide +kernel, rfl⟩
set_option maxRecDepth 100000 in
theorem ii_hs_isAble_73 : sm_D prog_3_method_16_code 73 2 75 (.iload 5) := ⟨by decide +kernel, rfl⟩
set_option maxRecDepth 100000 in
theorem ii_hs_isAble_75 : sm_D prog_3_method_16_code 75 3 78 (.ifCond .eq 16) := ⟨by decide +kernel, rfl⟩
set_option maxRecDepth 100000 in
theorem ii_hs_isAble_78 : sm_D prog_3_method_16_code 78 1 79 (.aload_n 0) := ⟨by decide +kernel, rfl⟩
set_option maxRecDepth 100000 in
theorem ii_hs_isAble_79 : sm_D prog_3_method_16_code 79 3 82 (.getfield 97) := ⟨by decide +kernel, rfl⟩
set_option maxRecDepth 100000 in
theorem ii_hs_isAble_82 : sm_D prog_3_method_16_code 82 1 83 (.iconst 2) := ⟨by decide +kernel, rfl⟩
set_option maxRecDepth 100000 in
theorem ii_hs_isAble_83 : sm_D prog_3_method_16_code 83 1 84 (.irem) := ⟨by decide +kernel, rfl⟩
set_option maxRecDepth 100000 in
theorem ii_hs_isAble_84 : sm_D prog_3_method_16_code 84 3 87 (.ifCond .ne 7) := ⟨by decide +kernel, rfl⟩
set_option maxRecDepth 100000 in
theorem ii_hs_isAble_87 : sm_D prog_3_method_16_code 87 1 88 (.iconst 1) := ⟨by decide +kernel, rfl⟩
set_option maxRecDepth 100000 in
theorem ii_hs_isAble_88 : sm_D prog_3_method_16_code 88 3 91 (.goto 4) := ⟨by decide +kernel, rfl⟩
set_option maxRecDepth 100000 in
theorem ii_hs_isAble_91 : sm_D prog_3_method_16_code 91 1 92 (.iconst 0) := ⟨by decide +kernel, rfl⟩
set_option maxRecDepth 100000 in
theorem ii_hs_isAble_92 : sm_D prog_3_method_16_code 92 1 93 (.ireturn) := ⟨by decide +kernel, rfl⟩
set_option maxRecDepth 100000 in
theorem ii_hs_isAble_93 : sm_D prog_3_method_16_code 93 2 95 (.iload 5) := ⟨by decide +kernel, rfl⟩
set_option maxRecDepth 100000 in
theorem ii_hs_isAble_95 : sm_D prog_3_method_16_code 95 3 98 (.ifCond .eq 13) := ⟨by decide +kernel, rfl⟩
set_option maxRecDepth 100000 in
theorem ii_hs_isAble_98 : sm_D prog_3_method_16_code 98 1 99 (.iload_n 3) := ⟨by decide +kernel, rfl⟩
set_option maxRecDepth 100000 in
theorem ii_hs_isAble_99 : sm_D prog_3_method_16_code 99 2 101 (.bipush (-9)) := ⟨by decide +kernel, rfl⟩
set_option maxRecDepth 100000 in
theorem ii_hs_isAble_101 : sm_D prog_3_method_16_code 101 3 104 (.if_icmp .eq 7) := ⟨by decide +kernel, rfl⟩
set_option maxRecDepth 100000 in
theorem ii_hs_isAble_104 : sm_D prog_3_method_16_code 104 1 105 (.iconst 1) := ⟨by decide +kernel, rfl⟩
set_option maxRecDepth 100000 in
theorem ii_hs_isAble_105 : sm_D prog_3_method_16_code 105 3 108 (.goto 4) := ⟨by decide +kernel, rfl⟩
set_option maxRecDepth 100000 in
theorem ii_hs_isAble_108 : sm_D prog_3_method_16_code 108 1 109 (.iconst 0) := ⟨by decide +kernel, rfl⟩
set_option maxRecDepth 100000 in
theorem ii_hs_isAble_109 : sm_D prog_3_method_16_code 109 1 110 (.ireturn) := ⟨by decide +kernel, rfl⟩
set_option maxRecDepth 100000 in
theorem ii_hs_isAble_110 : sm_D prog_3_method_16_code 110 2 112 (.iload 5) := ⟨by decide +kernel, rfl⟩
set_option maxRecDepth 100000 in
theorem ii_hs_isAble_112 : sm_D prog_3_method_16_code 112 3 115 (.ifCond .eq 21) := ⟨by decide +kernel, rfl⟩
set_option maxRecDepth 100000 in
theorem ii_hs_isAble_115 : sm_D prog_3_method_16_code 115 1 116 (.iload_n 3) := ⟨by decide +kernel, rfl⟩
set_option maxRecDepth 100000 in
theorem ii_hs_isAble_116 : sm_D prog_3_method_16_code 116 2 118 (.bipush (-9)) := ⟨by decide +kernel, rfl⟩
set_option maxRecDepth 100000 in
theorem ii_hs_isAble_118 : sm_D prog_3_method_16_code 118 3 121 (.if_icmp .eq 15) := ⟨by decide +kernel, rfl⟩
set_option maxRecDepth 100000 in
theorem ii_hs_isAble_121 : sm_D prog_3_method_16_code 121 2 123 (.iload 4) := ⟨by decide +kernel, rfl⟩
set_option maxRecDepth 100000 in
theorem ii_hs_isAble_123 : sm_D prog_3_method_16_code 123 1 124 (.iconst 2) := ⟨by decide +kernel, rfl⟩
set_option maxRecDepth 100000 in
theorem ii_hs_isAble_124 : sm_D prog_3_method_16_code 124 1 125 (.irem) := ⟨by decide +kernel, rfl⟩
set_option maxRecDepth 100000 in
theorem ii_hs_isAble_125 : sm_D prog_3_method_16_code 125 1 126 (.iconst 1) := ⟨by decide +kernel, rfl⟩
set_option maxRecDepth 100000 in
theorem ii_hs_isAble_126 : sm_D prog_3_method_16_code 126 3 129 (.if_icmp .ne 7) := ⟨by decide +kernel, rfl⟩
set_option maxRecDepth 100000 in
theorem ii_hs_isAble_129 : sm_D prog_3_method_16_code 129 1 130 (.iconst 1) := ⟨by decide +kernel, rfl⟩
set_option maxRecDepth 100000 in
theorem ii_hs_isAble_130 : sm_D prog_3_method_16_code 130 3 133 (.goto 4) := ⟨by decide +kernel, rfl⟩
set_option maxRecDepth 100000 in
theorem ii_hs_isAble_133 : sm_D prog_3_method_16_code 133 1 134 (.iconst 0) := ⟨by decide +kernel, rfl⟩
set_option maxRecDepth 100000 in
theorem ii_hs_isAble_134 : sm_D prog_3_method_16_code 134 1 135 (.ireturn) := ⟨by decide +kernel, rfl⟩
set_option maxRecDepth 100000 in
theorem ii_hs_isAble_135 : sm_D prog_3_method_16_code 135 2 137 (.iload 5) := ⟨by decide +kernel, rfl⟩
set_option maxRecDepth 100000 in
theorem ii_hs_isAble_137 : sm_D prog_3_method_16_code 137 3 140 (.ifCond .ne 26) := ⟨by decide +kernel, rfl⟩
set_option maxRecDepth 100000 in
theorem ii_hs_isAble_140 : sm_D prog_3_method_16_code 140 1 141 (.iload_n 3) := ⟨by decide +kernel, rfl⟩
set_option maxRecDepth 100000 in
theorem ii_hs_isAble_141 : sm_D prog_3_method_16_code 141 2 143 (.bipush (-9)) := ⟨by decide +kernel, rfl⟩
set_option maxRecDepth 100000 in
theorem ii_hs_isAble_143 : sm_D prog_3_method_16_code 143 3 146 (.if_icmp .eq 24) := ⟨by decide +kernel, rfl⟩
set_option maxRecDepth 100000 in
theorem ii_hs_isAble_146 : sm_D prog_3_method_16_code 146 2 148 (.iload 4) := ⟨by decide +kernel, rfl⟩
set_option maxRecDepth 100000 in
theorem ii_hs_isAble_148 : sm_D prog_3_method_16_code 148 1 149 (.iload_n 3) := ⟨by decide +kernel, rfl⟩
set_option maxRecDepth 100000 in
theorem ii_hs_isAble_149 : sm_D prog_3_method_16_code 149 3 152 (.if_icmp .eq 14) := ⟨by decide +kernel, rfl⟩
set_option maxRecDepth 100000 in
theorem ii_hs_isAble_152 : sm_D prog_3_method_16_code 152 2 154 (.iload 4) := ⟨by decide +kernel, rfl⟩
set_option maxRecDepth 100000 in
theorem ii_hs_isAble_154 : sm_D prog_3_method_16_code 154 1 155 (.iload_n 3) := ⟨by decide +kernel, rfl⟩
set_option maxRecDepth 100000 in
theorem ii_hs_isAble_155 : sm_D prog_3_method_16_code 155 1 156 (.iconst 1) := ⟨by decide +kernel, rfl⟩
set_option maxRecDepth 100000 in
theorem ii_hs_isAble_156 : sm_D prog_3_method_16_code 156 1 157 (.iadd) := ⟨by decide +kernel, rfl⟩
set_option maxRecDepth 100000 in
theorem ii_hs_isAble_157 : sm_D prog_3_method_16_code 157 2 159 (.bipush 6) := ⟨by decide +kernel, rfl⟩
set_option maxRecDepth 100000 in
theorem ii_hs_isAble_159 : sm_D prog_3_method_16_code 159 1 160 (.irem) := ⟨by decide +kernel, rfl⟩
set_option maxRecDepth 100000 in
theorem ii_hs_isAble_160 : sm_D prog_3_method_16_code 160 3 163 (.if_icmp .ne 7) := ⟨by decide +kernel, rfl⟩
set_option maxRecDepth 100000 in
theorem ii_hs_isAble_163 : sm_D prog_3_method_16_code 163 1 164 (.iconst 1) := ⟨by decide +kernel, rfl⟩
set_option maxRecDepth 100000 in
theorem ii_hs_isAble_164 : sm_D prog_3_method_16_code 164 3 167 (.goto 4) := ⟨by decide +kernel, rfl⟩
set_option maxRecDepth 100000 in
theorem ii_hs_isAble_167 : sm_D prog_3_method_16_code 167 1 168 (.iconst 0) := ⟨by decide +kernel, rfl⟩
set_option maxRecDepth 100000 in
theorem ii_hs_isAble_168 : sm_D prog_3_method_16_code 168 1 169 (.ireturn) := ⟨by decide +kernel, rfl⟩
set_option maxRecDepth 100000 in
theorem ii_hs_isAble_169 : sm_D prog_3_method_16_code 169 2 171 (.iload 5) := ⟨by decide +kernel, rfl⟩
set_option maxRecDepth 100000 in
theorem ii_hs_isAble_171 : sm_D prog_3_method_16_code 171 1 172 (.ireturn) := ⟨by decide +kernel, rfl⟩
noncomputable def ff_hs_isAble_19  (a2 : Int32) (a3 : Int32) (a4 : Int32) (b0 : Int32) (w : sm_Mem) : sm_R := (sm_sw a2 (1) [((if b0 = (0 : Int32) then (if a4 = a3 then (some (.int (1 : Int32), w)) else (some (.int (0 : Int32), w))) else (some (.int (1 : Int32), w)))), ((if b0 = (0 : Int32) then (some (.int (0 : Int32), w)) else (if (2 : Int32) = (0 : Int32) then none else (if ((w.1 36 7) - (w.1 36 7) / (2 : Int32) * (2 : Int32)) = (0 : Int32) then (some (.int (1 : Int32), w)) else (some (.int (0 : Int32), w)))))), ((if b0 = (0 : Int32) then (some (.int (0 : Int32), w)) else (if a3 = (-9 : Int32) then (some (.int (0 : Int32), w)) else (some (.int (1 : Int32), w))))), ((if b0 = (0 : Int32) then (some (.int (0 : Int32), w)) else (if a3 = (-9 : Int32) then (some (.int (0 : Int32), w)) else (if (2 : Int32) = (0 : Int32) then none else (if (a4 - a4 / (2 : Int32) * (2 : Int32)) = (1 : Int32) then (some (.int (1 : Int32), w)) else (some (.int (0 : Int32), w))))))), ((if b0 = (0 : Int32) then (if a3 = (-9 : Int32) then (some (.int (0 : Int32), w)) else (if a4 = a3 then (some (.int (1 : Int32), w)) else (if (6 : Int32) = (0 : Int32) then none else (if a4 = ((a3 + (1 : Int32)) - (a3 + (1 : Int32)) / (6 : Int32) * (6 : Int32)) then (some (.int (1 : Int32), w)) else (some (.int (0 : Int32), w)))))) else (some (.int (1 : Int32), w))))] ((sm_rz b0 w)))
set_option maxHeartbeats 4000000 in
set_option maxRecDepth 100000 in
theorem ss_hs_isAble_19 {E : Nat × (Nat → Int32)}  (a2 : Int32) (a3 : Int32) (a4 : Int32) (b0 : Int32) (w : sm_Mem) : sm_Sim E (mi_hs_isAble) 19 [some (.ref 36), none, some (.int a2), some (.int a3), some (.int a4), none] [.int b0] w (ff_hs_isAble_19  a2 a3 a4 b0 w) := by
  unfold ff_hs_isAble_19
  refine sm_istore [some (.ref 36), none, some (.int a2), some (.int a3), some (.int a4), some (.int b0)] ii_hs_isAble_19 rfl rfl ?_
  refine sm_iload_n ii_hs_isAble_21 rfl ?_
  refine sm_table [56, 73, 93, 110, 135] 169 ii_hs_isAble_22 rfl rfl rfl ⟨?_, ?_, ?_, ?_, ?_, trivial⟩ ?_
  · refine sm_iload ii_hs_isAble_56 rfl ?_
    refine sm_if_ne 67 ii_hs_isAble_58 (by decide) ?_ ?_
    · refine sm_iload ii_hs_isAble_61 rfl ?_
      refine sm_iload_n ii_hs_isAble_63 rfl ?_
      refine sm_icmp_ne 71 ii_hs_isAble_64 (by decide) ?_ ?_
      · refine sm_iconst (1 : Int32) ii_hs_isAble_67 (by decide) ?_
        refine sm_goto 72 ii_hs_isAble_68 (by decide) ?_
        exact sm_zret1 ii_hs_isAble_72 rfl (by decide)
      · refine sm_iconst (0 : Int32) ii_hs_isAble_71 (by decide) ?_
        exact sm_zret1 ii_hs_isAble_72 rfl (by decide)
    · refine sm_iconst (1 : Int32) ii_hs_isAble_67 (by decide) ?_
      refine sm_goto 72 ii_hs_isAble_68 (by decide) ?_
      exact sm_zret1 ii_hs_isAble_72 rfl (by decide)
  · refine sm_iload ii_hs_isAble_73 rfl ?_
    refine sm_if_eq 91 ii_hs_isAble_75 (by decide) ?_ ?_
    · refine sm_iconst (0 : Int32) ii_hs_isAble_91 (by decide) ?_
      exact sm_zret1 ii_hs_isAble_92 rfl (by decide)
    · refine sm_aload_n ii_hs_isAble_78 rfl ?_
      refine sm_getI ii_hs_isAble_79 fl_hs_97 (k := 36) rfl ?_
      refine sm_iconst (2 : Int32) ii_hs_isAble_82 (by decide) ?_
      refine sm_irem ii_hs_isAble_83 ?_
      refine sm_if_ne 91 ii_hs_isAble_84 (by decide) ?_ ?_
      · refine sm_iconst (1 : Int32) ii_hs_isAble_87 (by decide) ?_
        refine sm_goto 92 ii_hs_isAble_88 (by decide) ?_
        exact sm_zret1 ii_hs_isAble_92 rfl (by decide)
      · refine sm_iconst (0 : Int32) ii_hs_isAble_91 (by decide) ?_
        exact sm_zret1 ii_hs_isAble_92 rfl (by decide)
  · refine sm_iload ii_hs_isAble_93 rfl ?_
    refine sm_if_eq 108 ii_hs_isAble_95 (by decide) ?_ ?_
    · refine sm_iconst (0 : Int32) ii_hs_isAble_108 (by decide) ?_
      exact sm_zret1 ii_hs_isAble_109 rfl (by decide)
    · refine sm_iload_n ii_hs_isAble_98 rfl ?_
      refine sm_bipush (-9 : Int32) ii_hs_isAble_99 (by decide) ?_
      refine sm_icmp_eq 108 ii_hs_isAble_101 (by decide) ?_ ?_
      · refine sm_iconst (0 : Int32) ii_hs_isAble_108 (by decide) ?_
        exact sm_zret1 ii_hs_isAble_109 rfl (by decide)
      · refine sm_iconst (1 : Int32) ii_hs_isAble_104 (by decide) ?_
        refine sm_goto 109 ii_hs_isAble_105 (by decide) ?_
        exact sm_zret1 ii_hs_isAble_109 rfl (by decide)
  · refine sm_iload ii_hs_isAble_110 rfl ?_
    refine sm_if_eq 133 ii_hs_isAble_112 (by decide) ?_ ?_
    · refine sm_iconst (0 : Int32) ii_hs_isAble_133 (by decide) ?_
      exact sm_zret1 ii_hs_isAble_134 rfl (by decide)
    · refine sm_iload_n ii_hs_isAble_115 rfl ?_
      refine sm_bipush (-9 : Int32) ii_hs_isAble_116 (by decide) ?_
      refine sm_icmp_eq 133 ii_hs_isAble_118 (by decide) ?_ ?_
      · refine sm_iconst (0 : Int32) ii_hs_isAble_133 (by decide) ?_
        exact sm_zret1 ii_hs_isAble_134 rfl (by decide)
      · refine sm_iload ii_hs_isAble_121 rfl ?_
        refine sm_iconst (2 : Int32) ii_hs_isAble_123 (by decide) ?_
        refine sm_irem ii_hs_isAble_124 ?_
        refine sm_iconst (1 : Int32) ii_hs_isAble_125 (by decide) ?_
        refine sm_icmp_ne 133 ii_hs_isAble_126 (by decide) ?_ ?_
        · refine sm_iconst (1 : Int32) ii_hs_isAble_129 (by decide) ?_
          refine sm_goto 134 ii_hs_isAble_130 (by decide) ?_
          exact sm_zret1 ii_hs_isAble_134 rfl (by decide)
        · refine sm_iconst (0 : Int32) ii_hs_isAble_133 (by decide) ?_
          exact sm_zret1 ii_hs_isAble_134 rfl (by decide)
  · refine sm_iload ii_hs_isAble_135 rfl ?_
    refine sm_if_ne 163 ii_hs_isAble_137 (by decide) ?_ ?_
    · refine sm_iload_n ii_hs_isAble_140 rfl ?_
      refine sm_bipush (-9 : Int32) ii_hs_isAble_141 (by decide) ?_
      refine sm_icmp_eq 167 ii_hs_isAble_143 (by decide) ?_ ?_
      · refine sm_iconst (0 : Int32) ii_hs_isAble_167 (by decide) ?_
        exact sm_zret1 ii_hs_isAble_168 rfl (by decide)
      · refine sm_iload ii_hs_isAble_146 rfl ?_
        refine sm_iload_n ii_hs_isAble_148 rfl ?_
        refine sm_icmp_eq 163 ii_hs_isAble_149 (by decide) ?_ ?_
        · refine sm_iconst (1 : Int32) ii_hs_isAble_163 (by decide) ?_
          refine sm_goto 168 ii_hs_isAble_164 (by decide) ?_
          exact sm_zret1 ii_hs_isAble_168 rfl (by decide)
        · refine sm_iload ii_hs_isAble_152 rfl ?_
          refine sm_iload_n ii_hs_isAble_154 rfl ?_
          refine sm_iconst (1 : Int32) ii_hs_isAble_155 (by decide) ?_
          refine sm_iadd ii_hs_isAble_156 ?_
          refine sm_bipush (6 : Int32) ii_hs_isAble_157 (by decide) ?_
          refine sm_irem ii_hs_isAble_159 ?_
          refine sm_icmp_ne 167 ii_hs_isAble_160 (by decide) ?_ ?_
          · refine sm_iconst (1 : Int32) ii_hs_isAble_163 (by decide) ?_
            refine sm_goto 168 ii_hs_isAble_164 (by decide) ?_
            exact sm_zret1 ii_hs_isAble_168 rfl (by decide)
          · refine sm_iconst (0 : Int32) ii_hs_isAble_167 (by decide) ?_
            exact sm_zret1 ii_hs_isAble_168 rfl (by decide)
    · refine sm_iconst (1 : Int32) ii_hs_isAble_163 (by decide) ?_
      refine sm_goto 168 ii_hs_isAble_164 (by decide) ?_
      exact sm_zret1 ii_hs_isAble_168 rfl (by decide)
  · refine sm_iload ii_hs_isAble_169 rfl ?_
    exact sm_zret ii_hs_isAble_171 rfl
noncomputable def ff_hs_isAble  (a1 : Int32) (a2 : Int32) (a3 : Int32) (a4 : Int32) (w : sm_Mem) : sm_R := (Option.bind (sm_rd w 38 6 a1) fun x4 => (if ((x4 >>> (a4 &&& (31 : Int32))) &&& (1 : Int32)) = (0 : Int32) then ff_hs_isAble_19 (a2) (a3) (a4) ((0 : Int32)) w else ff_hs_isAble_19 (a2) (a3) (a4) ((1 : Int32)) w))
set_option maxHeartbeats 4000000 in
set_option maxRecDepth 100000 in
theorem ss_hs_isAble_0 {E : Nat × (Nat → Int32)}  (a1 : Int32) (a2 : Int32) (a3 : Int32) (a4 : Int32) (w : sm_Mem) : sm_Sim E (mi_hs_isAble) 0 [some (.ref 36), some (.int a1), some (.int a2), some (.int a3), some (.int a4), none] [] w (ff_hs_isAble  a1 a2 a3 a4 w) := by
  unfold ff_hs_isAble
  refine sm_aload_n ii_hs_isAble_0 rfl ?_
  refine sm_getR 38 ii_hs_isAble_1 fl_hs_15 (k := 36) rfl ?_
  refine sm_iload_n ii_hs_isAble_4 rfl ?_
  refine sm_iald ii_hs_isAble_5 (k := 38) rfl (fun x4 => ?_)
  refine sm_iload ii_hs_isAble_6 rfl ?_
  refine sm_ishr ii_hs_isAble_8 ?_
  refine sm_iconst (1 : Int32) ii_hs_isAble_9 (by decide) ?_
  refine sm_iand ii_hs_isAble_10 ?_
  refine sm_if_eq 18 ii_hs_isAble_11 (by decide) ?_ ?_
  · refine sm_iconst (0 : Int32) ii_hs_isAble_18 (by decide) ?_
    refine sm_msk [true, false, true, true, true, false] [some (.ref 36), none, some (.int a2), some (.int a3), some (.int a4), none] rfl ?_
    exact ss_hs_isAble_19 (a2) (a3) (a4) ((0 : Int32)) w
  · refine sm_iconst (1 : Int32) ii_hs_isAble_14 (by decide) ?_
    refine sm_goto 19 ii_hs_isAble_15 (by decide) ?_
    refine sm_msk [true, false, true, true, true, false] [some (.ref 36), none, some (.int a2), some (.int a3), some (.int a4), none] rfl ?_
    exact ss_hs_isAble_19 (a2) (a3) (a4) ((1 : Int32)) w
set_option maxHeartbeats 4000000 in
set_option maxRecDepth 100000 in
theorem mc_hs_isAble (a1 : Int32) (a2 : Int32) (a3 : Int32) (a4 : Int32) (w : sm_Mem) : sm_MC mi_hs_isAble [.ref 36, .int a1, .int a2, .int a3, .int a4] w (ff_hs_isAble a1 a2 a3 a4 w) := sm_MC_of (0, fun _ => 0) (by decide +kernel) (by decide) rfl (Nat.le_of_ble_eq_true rfl) (ss_hs_isAble_0 a1 a2 a3 a4 w)
abbrev mi_hs_echoesOf : sm_MI := (⟨"HerOrders$House", "echoesOf", "(I)I"⟩, prog_3_method_20_code, 5, (some .int), 2)
set_option maxRecDepth 100000 in
theorem mf_hs_echoesOf : sm_MF mi_hs_echoesOf 1 := ⟨List.mem_of_getElem? (i := 523) (by decide +kernel), List.mem_of_getElem? (i := 128) (by decide +kernel), ⟨by decide, by decide⟩, by decide +kernel⟩
set_option maxRecDepth 100000 in
theorem mv_hs_echoesOf : sm_MFV mi_hs_echoesOf := ⟨List.mem_of_getElem? (i := 522) (by decide +kernel), List.mem_of_getElem? (i := 15) (by decide +kernel)⟩
set_option maxRecDepth 100000 in
theorem ii_hs_echoesOf_0 : sm_D prog_3_method_20_code 0 1 1 (.iconst 0) := ⟨by decide +kernel, rfl⟩
set_option maxRecDepth 100000 in
theorem ii_hs_echoesOf_1 : sm_D prog_3_method_20_code 1 1 2 (.istore_n 2) := ⟨by decide +kernel, rfl⟩
set_option maxRecDepth 100000 in
theorem ii_hs_echoesOf_2 : sm_D prog_3_method_20_code 2 1 3 (.iconst 0) := ⟨by decide +kernel, rfl⟩
set_option maxRecDepth 100000 in
theorem ii_hs_echoesOf_3 : sm_D prog_3_method_20_code 3 1 4 (.istore_n 3) := ⟨by decide +kernel, rfl⟩
set_option maxRecDepth 100000 in
theorem ii_hs_echoesOf_4 : sm_D prog_3_method_20_code 4 1 5 (.iload_n 3) := ⟨by decide +kernel, rfl⟩
set_option maxRecDepth 100000 in
theorem ii_hs_echoesOf_5 : sm_D prog_3_method_20_code 5 2 7 (.bipush 6) := ⟨by decide +kernel, rfl⟩
set_option maxRecDepth 100000 in
theorem ii_hs_echoesOf_7 : sm_D prog_3_method_20_code 7 3 10 (.if_icmp .ge 56) := ⟨by decide +kernel, rfl⟩
set_option maxRecDepth 100000 in
theorem ii_hs_echoesOf_10 : sm_D prog_3_method_20_code 10 1 11 (.aload_n 0) := ⟨by decide +kernel, rfl⟩
set_option maxRecDepth 100000 in
theorem ii_hs_echoesOf_11 : sm_D prog_3_method_20_code 11 3 14 (.getfield 15) := ⟨by decide +kernel, rfl⟩
set_option maxRecDepth 100000 in
theorem ii_hs_echoesOf_14 : sm_D prog_3_method_20_code 14 1 15 (.iload_n 1) := ⟨by decide +kernel, rfl⟩
set_option maxRecDepth 100000 in
theorem ii_hs_echoesOf_15 : sm_D prog_3_method_20_code 15 1 16 (.iaload) := ⟨by decide +kernel, rfl⟩
set_option maxRecDepth 100000 in
theorem ii_hs_echoesOf_16 : sm_D prog_3_method_20_code 16 1 17 (.iload_n 3) := ⟨by decide +kernel, rfl⟩
set_option maxRecDepth 100000 in
theorem ii_hs_echoesOf_17 : sm_D prog_3_method_20_code 17 1 18 (.ishr) := ⟨by decide +kernel, rfl⟩
set_option maxRecDepth 100000 in
theorem ii_hs_echoesOf_18 : sm_D prog_3_method_20_code 18 1 19 (.iconst 1) := ⟨by decide +kernel, rfl⟩
set_option maxRecDepth 100000 in
theorem ii_hs_echoesOf_19 : sm_D prog_3_method_20_code 19 1 20 (.iand) := ⟨by decide +kernel, rfl⟩
set_option maxRecDepth 100000 in
theorem ii_hs_echoesOf_20 : sm_D prog_3_method_20_code 20 3 23 (.ifCond .eq 7) := ⟨by decide +kernel, rfl⟩
set_option maxRecDepth 100000 in
theorem ii_hs_echoesOf_23 : sm_D prog_3_method_20_code 23 1 24 (.iconst 1) := ⟨by decide +kernel, rfl⟩
set_option maxRecDepth 100000 in
theorem ii_hs_echoesOf_24 : sm_D prog_3_method_20_code 24 3 27 (.goto 4) := ⟨by decide +kernel, rfl⟩
set_option maxRecDepth 100000 in
theorem ii_hs_echoesOf_27 : sm_D prog_3_method_20_code 27 1 28 (.iconst 0) := ⟨by decide +kernel, rfl⟩
set_option maxRecDepth 100000 in
theorem ii_hs_echoesOf_28 : sm_D prog_3_method_20_code 28 2 30 (.istore 4) := ⟨by decide +kernel, rfl⟩
set_option maxRecDepth 100000 in
theorem ii_hs_echoesOf_30 : sm_D prog_3_method_20_code 30 2 32 (.iload 4) := ⟨by decide +kernel, rfl⟩
set_option maxRecDepth 100000 in
theorem ii_hs_echoesOf_32 : sm_D prog_3_method_20_code 32 3 35 (.ifCond .ne 25) := ⟨by decide +kernel, rfl⟩
set_option maxRecDepth 100000 in
theorem ii_hs_echoesOf_35 : sm_D prog_3_method_20_code 35 1 36 (.aload_n 0) := ⟨by decide +kernel, rfl⟩
set_option maxRecDepth 100000 in
theorem ii_hs_echoesOf_36 : sm_D prog_3_method_20_code 36 1 37 (.iload_n 1) := ⟨by decide +kernel, rfl⟩
set_option maxRecDepth 100000 in
theorem ii_hs_echoesOf_37 : sm_D prog_3_method_20_code 37 1 38 (.aload_n 0) := ⟨by decide +kernel, rfl⟩
set_option maxRecDepth 100000 in
theorem ii_hs_echoesOf_38 : sm_D prog_3_method_20_code 38 3 41 (.getfield 9) := ⟨by decide +kernel, rfl⟩
set_option maxRecDepth 100000 in
theorem ii_hs_echoesOf_41 : sm_D prog_3_method_20_code 41 1 42 (.iload_n 1) := ⟨by decide +kernel, rfl⟩
set_option maxRecDepth 100000 in
theorem ii_hs_echoesOf_42 : sm_D prog_3_method_20_code 42 1 43 (.iaload) := ⟨by decide +kernel, rfl⟩
set_option maxRecDepth 100000 in
theorem ii_hs_echoesOf_43 : sm_D prog_3_method_20_code 43 1 44 (.aload_n 0) := ⟨by decide +kernel, rfl⟩
set_option maxRecDepth 100000 in
theorem ii_hs_echoesOf_44 : sm_D prog_3_method_20_code 44 3 47 (.invokevirtual 113) := ⟨by decide +kernel, rfl⟩
set_option maxRecDepth 100000 in
theorem ii_hs_echoesOf_47 : sm_D prog_3_method_20_code 47 1 48 (.iload_n 3) := ⟨by decide +kernel, rfl⟩
set_option maxRecDepth 100000 in
theorem ii_hs_echoesOf_48 : sm_D prog_3_method_20_code 48 3 51 (.invokevirtual 117) := ⟨by decide +kernel, rfl⟩
set_option maxRecDepth 100000 in
theorem ii_hs_echoesOf_51 : sm_D prog_3_method_20_code 51 3 54 (.ifCond .eq 6) := ⟨by decide +kernel, rfl⟩
set_option maxRecDepth 100000 in
theorem ii_hs_echoesOf_54 : sm_D prog_3_method_20_code 54 3 57 (.iinc 2 1) := ⟨by decide +kernel, rfl⟩
set_option maxRecDepth 100000 in
theorem ii_hs_echoesOf_57 : sm_D prog_3_method_20_code 57 3 60 (.iinc 3 1) := ⟨by decide +kernel, rfl⟩
set_option maxRecDepth 100000 in
theorem ii_hs_echoesOf_60 : sm_D prog_3_method_20_code 60 3 63 (.goto (-56)) := ⟨by decide +kernel, rfl⟩
set_option maxRecDepth 100000 in
theorem ii_hs_echoesOf_63 : sm_D prog_3_method_20_code 63 1 64 (.iload_n 2) := ⟨by decide +kernel, rfl⟩
set_option maxRecDepth 100000 in
theorem ii_hs_echoesOf_64 : sm_D prog_3_method_20_code 64 1 65 (.ireturn) := ⟨by decide +kernel, rfl⟩
noncomputable def ff_hs_echoesOf_28 (self4 : Int32 → Int32 → Int32 → sm_Mem → sm_R) (a1 : Int32) (a2 : Int32) (a3 : Int32) (b0 : Int32) (w : sm_Mem) : sm_R := (if b0 = (0 : Int32) then (Option.bind (sm_rd w 37 6 a1) fun x1 => (sm_cI (ff_hs_lastWord  w) fun x2 w3 => (sm_cI (ff_hs_isAble (a1) (x1) (x2) (a3) w3) fun x4 w5 => (if x4 = (0 : Int32) then self4 (a1) (a2) ((a3 + (1 : Int32))) w5 else self4 (a1) ((a2 + (1 : Int32))) ((a3 + (1 : Int32))) w5)))) else self4 (a1) (a2) ((a3 + (1 : Int32))) w)
set_option maxHeartbeats 4000000 in
set_option maxRecDepth 100000 in
theorem ss_hs_echoesOf_28 {E : Nat × (Nat → Int32)} (self4 : Int32 → Int32 → Int32 → sm_Mem → sm_R) (hself4 : ∀ (a1 : Int32) (a2 : Int32) (a3 : Int32) (w : sm_Mem), sm_Sim E (mi_hs_echoesOf) 4 [some (.ref 36), some (.int a1), some (.int a2), some (.int a3), none] [] w (self4 a1 a2 a3 w)) (a1 : Int32) (a2 : Int32) (a3 : Int32) (b0 : Int32) (w : sm_Mem) : sm_Sim E (mi_hs_echoesOf) 28 [some (.ref 36), some (.int a1), some (.int a2), some (.int a3), none] [.int b0] w (ff_hs_echoesOf_28 self4 a1 a2 a3 b0 w) := by
  unfold ff_hs_echoesOf_28
  refine sm_istore [some (.ref 36), some (.int a1), some (.int a2), some (.int a3), some (.int b0)] ii_hs_echoesOf_28 rfl rfl ?_
  refine sm_iload ii_hs_echoesOf_30 rfl ?_
  refine sm_if_ne 57 ii_hs_echoesOf_32 (by decide) ?_ ?_
  · refine sm_aload_n ii_hs_echoesOf_35 rfl ?_
    refine sm_iload_n ii_hs_echoesOf_36 rfl ?_
    refine sm_aload_n ii_hs_echoesOf_37 rfl ?_
    refine sm_getR 37 ii_hs_echoesOf_38 fl_hs_9 (k := 36) rfl ?_
    refine sm_iload_n ii_hs_echoesOf_41 rfl ?_
    refine sm_iald ii_hs_echoesOf_42 (k := 37) rfl (fun x1 => ?_)
    refine sm_aload_n ii_hs_echoesOf_43 rfl ?_
    refine sm_cvI [] [.int x1, .int a1, .ref 36] rfl ii_hs_echoesOf_44 ml_hs_113 (mf_hs_lastWord) (mv_hs_lastWord) (Nat.le_of_ble_eq_true rfl) rfl 1 rfl rfl rfl rfl (mc_hs_lastWord  w) (fun x2 w3 => ?_)
    refine sm_iload_n ii_hs_echoesOf_47 rfl ?_
    refine sm_cvI [.int a1, .int x1, .int x2, .int a3] [] rfl ii_hs_echoesOf_48 ml_hs_117 (mf_hs_isAble) (mv_hs_isAble) (Nat.le_of_ble_eq_true rfl) rfl 1 rfl rfl rfl rfl (mc_hs_isAble (a1) (x1) (x2) (a3) w3) (fun x4 w5 => ?_)
    refine sm_if_eq 57 ii_hs_echoesOf_51 (by decide) ?_ ?_
    · refine sm_iinc (a3 + (1 : Int32)) [some (.ref 36), some (.int a1), some (.int a2), some (.int (a3 + (1 : Int32))), some (.int b0)] ii_hs_echoesOf_57 rfl rfl rfl rfl ?_
      refine sm_goto 4 ii_hs_echoesOf_60 (by decide) ?_
      refine sm_msk [true, true, true, true, false] [some (.ref 36), some (.int a1), some (.int a2), some (.int (a3 + (1 : Int32))), none] rfl ?_
      exact hself4 (a1) (a2) ((a3 + (1 : Int32))) w5
    · refine sm_iinc (a2 + (1 : Int32)) [some (.ref 36), some (.int a1), some (.int (a2 + (1 : Int32))), some (.int a3), some (.int b0)] ii_hs_echoesOf_54 rfl rfl rfl rfl ?_
      refine sm_iinc (a3 + (1 : Int32)) [some (.ref 36), some (.int a1), some (.int (a2 + (1 : Int32))), some (.int (a3 + (1 : Int32))), some (.int b0)] ii_hs_echoesOf_57 rfl rfl rfl rfl ?_
      refine sm_goto 4 ii_hs_echoesOf_60 (by decide) ?_
      refine sm_msk [true, true, true, true, false] [some (.ref 36), some (.int a1), some (.int (a2 + (1 : Int32))), some (.int (a3 + (1 : Int32))), none] rfl ?_
      exact hself4 (a1) ((a2 + (1 : Int32))) ((a3 + (1 : Int32))) w5
  · refine sm_iinc (a3 + (1 : Int32)) [some (.ref 36), some (.int a1), some (.int a2), some (.int (a3 + (1 : Int32))), some (.int b0)] ii_hs_echoesOf_57 rfl rfl rfl rfl ?_
    refine sm_goto 4 ii_hs_echoesOf_60 (by decide) ?_
    refine sm_msk [true, true, true, true, false] [some (.ref 36), some (.int a1), some (.int a2), some (.int (a3 + (1 : Int32))), none] rfl ?_
    exact hself4 (a1) (a2) ((a3 + (1 : Int32))) w
noncomputable def ff_hs_echoesOf_4_b  (self4 : Int32 → Int32 → Int32 → sm_Mem → sm_R) (a1 : Int32) (a2 : Int32) (a3 : Int32) (w : sm_Mem) : sm_R := (if (6 : Int32) ≤ a3 then (some (.int a2, w)) else (Option.bind (sm_rd w 38 6 a1) fun x6 => (if ((x6 >>> (a3 &&& (31 : Int32))) &&& (1 : Int32)) = (0 : Int32) then ff_hs_echoesOf_28 self4 (a1) (a2) (a3) ((0 : Int32)) w else ff_hs_echoesOf_28 self4 (a1) (a2) (a3) ((1 : Int32)) w)))
noncomputable def ff_hs_echoesOf_4_f  : Nat → Int32 → Int32 → Int32 → sm_Mem → sm_R
  | 0, _, _, _, _ => none
  | n + 1, a1, a2, a3, w => ff_hs_echoesOf_4_b  (ff_hs_echoesOf_4_f  n) a1 a2 a3 w
noncomputable def ff_hs_echoesOf_4  (a1 : Int32) (a2 : Int32) (a3 : Int32) (w : sm_Mem) : sm_R := ff_hs_echoesOf_4_f  sm_N a1 a2 a3 w
set_option maxHeartbeats 4000000 in
set_option maxRecDepth 100000 in
theorem ss_hs_echoesOf_4_b {E : Nat × (Nat → Int32)}  (self4 : Int32 → Int32 → Int32 → sm_Mem → sm_R) (hself4 : ∀ (a1 : Int32) (a2 : Int32) (a3 : Int32) (w : sm_Mem), sm_Sim E (mi_hs_echoesOf) 4 [some (.ref 36), some (.int a1), some (.int a2), some (.int a3), none] [] w (self4 a1 a2 a3 w)) (a1 : Int32) (a2 : Int32) (a3 : Int32) (w : sm_Mem) : sm_Sim E (mi_hs_echoesOf) 4 [some (.ref 36), some (.int a1), some (.int a2), some (.int a3), none] [] w (ff_hs_echoesOf_4_b  self4 a1 a2 a3 w) := by
  unfold ff_hs_echoesOf_4_b
  refine sm_iload_n ii_hs_echoesOf_4 rfl ?_
  refine sm_bipush (6 : Int32) ii_hs_echoesOf_5 (by decide) ?_
  refine sm_icmp_ge 63 ii_hs_echoesOf_7 (by decide) ?_ ?_
  · refine sm_iload_n ii_hs_echoesOf_63 rfl ?_
    exact sm_iret ii_hs_echoesOf_64 rfl
  · refine sm_aload_n ii_hs_echoesOf_10 rfl ?_
    refine sm_getR 38 ii_hs_echoesOf_11 fl_hs_15 (k := 36) rfl ?_
    refine sm_iload_n ii_hs_echoesOf_14 rfl ?_
    refine sm_iald ii_hs_echoesOf_15 (k := 38) rfl (fun x6 => ?_)
    refine sm_iload_n ii_hs_echoesOf_16 rfl ?_
    refine sm_ishr ii_hs_echoesOf_17 ?_
    refine sm_iconst (1 : Int32) ii_hs_echoesOf_18 (by decide) ?_
    refine sm_iand ii_hs_echoesOf_19 ?_
    refine sm_if_eq 27 ii_hs_echoesOf_20 (by decide) ?_ ?_
    · refine sm_iconst (0 : Int32) ii_hs_echoesOf_27 (by decide) ?_
      exact ss_hs_echoesOf_28 self4 hself4 (a1) (a2) (a3) ((0 : Int32)) w
    · refine sm_iconst (1 : Int32) ii_hs_echoesOf_23 (by decide) ?_
      refine sm_goto 28 ii_hs_echoesOf_24 (by decide) ?_
      exact ss_hs_echoesOf_28 self4 hself4 (a1) (a2) (a3) ((1 : Int32)) w
set_option maxHeartbeats 4000000 in
set_option maxRecDepth 100000 in
theorem ss_hs_echoesOf_4_f {E : Nat × (Nat → Int32)}  : ∀ (n : Nat) (a1 : Int32) (a2 : Int32) (a3 : Int32) (w : sm_Mem), sm_Sim E (mi_hs_echoesOf) 4 [some (.ref 36), some (.int a1), some (.int a2), some (.int a3), none] [] w (ff_hs_echoesOf_4_f  n a1 a2 a3 w)
  | 0, _, _, _, _ => fun _ _ h => by cases h
  | n + 1, a1, a2, a3, w => ss_hs_echoesOf_4_b  _ (ss_hs_echoesOf_4_f  n) a1 a2 a3 w
set_option maxHeartbeats 4000000 in
set_option maxRecDepth 100000 in
theorem ss_hs_echoesOf_4 {E : Nat × (Nat → Int32)}  (a1 : Int32) (a2 : Int32) (a3 : Int32) (w : sm_Mem) : sm_Sim E (mi_hs_echoesOf) 4 [some (.ref 36), some (.int a1), some (.int a2), some (.int a3), none] [] w (ff_hs_echoesOf_4  a1 a2 a3 w) := ss_hs_echoesOf_4_f  sm_N a1 a2 a3 w
noncomputable def ff_hs_echoesOf  (a1 : Int32) (w : sm_Mem) : sm_R := ff_hs_echoesOf_4 (a1) ((0 : Int32)) ((0 : Int32)) w
set_option maxHeartbeats 4000000 in
set_option maxRecDepth 100000 in
theorem ss_hs_echoesOf_0 {E : Nat × (Nat → Int32)}  (a1 : Int32) (w : sm_Mem) : sm_Sim E (mi_hs_echoesOf) 0 [some (.ref 36), some (.int a1), none, none, none] [] w (ff_hs_echoesOf  a1 w) := by
  unfold ff_hs_echoesOf
  refine sm_iconst (0 : Int32) ii_hs_echoesOf_0 (by decide) ?_
  refine sm_istore_n [some (.ref 36), some (.int a1), some (.int (0 : Int32)), none, none] ii_hs_echoesOf_1 rfl rfl ?_
  refine sm_iconst (0 : Int32) ii_hs_echoesOf_2 (by decide) ?_
  refine sm_istore_n [some (.ref 36), some (.int a1), some (.int (0 : Int32)), some (.int (0 : Int32)), none] ii_hs_echoesOf_3 rfl rfl ?_
  exact ss_hs_echoesOf_4 (a1) ((0 : Int32)) ((0 : Int32)) w
set_option maxHeartbeats 4000000 in
set_option maxRecDepth 100000 in
theorem mc_hs_echoesOf (a1 : Int32) (w : sm_Mem) : sm_MC mi_hs_echoesOf [.ref 36, .int a1] w (ff_hs_echoesOf a1 w) := sm_MC_of (0, fun _ => 0) (by decide +kernel) (by decide) rfl (Nat.le_of_ble_eq_true rfl) (ss_hs_echoesOf_0 a1 w)
abbrev mi_hs_isFree : sm_MI := (⟨"HerOrders$House", "isFree", "(I)Z"⟩, prog_3_method_15_code, 3, (some .boolean), 1)
set_option maxRecDepth 100000 in
theorem mf_hs_isFree : sm_MF mi_hs_isFree 1 := ⟨List.mem_of_getElem? (i := 547) (by decide +kernel), List.mem_of_getElem? (i := 128) (by decide +kernel), ⟨by decide, by decide⟩, by decide +kernel⟩
set_option maxRecDepth 100000 in
theorem mv_hs_isFree : sm_MFV mi_hs_isFree := ⟨List.mem_of_getElem? (i := 546) (by decide +kernel), List.mem_of_getElem? (i := 21) (by decide +kernel)⟩
set_option maxRecDepth 100000 in
theorem ii_hs_isFree_0 : sm_D prog_3_method_15_code 0 1 1 (.aload_n 0) := ⟨by decide +kernel, rfl⟩
set_option maxRecDepth 100000 in
theorem ii_hs_isFree_1 : sm_D prog_3_method_15_code 1 3 4 (.getfield 89) := ⟨by decide +kernel, rfl⟩
set_option maxRecDepth 100000 in
theorem ii_hs_isFree_4 : sm_D prog_3_method_15_code 4 2 6 (.bipush 8) := ⟨by decide +kernel, rfl⟩
set_option maxRecDepth 100000 in
theorem ii_hs_isFree_6 : sm_D prog_3_method_15_code 6 3 9 (.if_icmp .ge 12) := ⟨by decide +kernel, rfl⟩
set_option maxRecDepth 100000 in
theorem ii_hs_isFree_9 : sm_D prog_3_method_15_code 9 1 10 (.aload_n 0) := ⟨by decide +kernel, rfl⟩
set_option maxRecDepth 100000 in
theorem ii_hs_isFree_10 : sm_D prog_3_method_15_code 10 3 13 (.getfield 27) := ⟨by decide +kernel, rfl⟩
set_option maxRecDepth 100000 in
theorem ii_hs_isFree_13 : sm_D prog_3_method_15_code 13 1 14 (.iload_n 1) := ⟨by decide +kernel, rfl⟩
set_option maxRecDepth 100000 in
theorem ii_hs_isFree_14 : sm_D prog_3_method_15_code 14 1 15 (.iaload) := ⟨by decide +kernel, rfl⟩
set_option maxRecDepth 100000 in
theorem ii_hs_isFree_15 : sm_D prog_3_method_15_code 15 3 18 (.ifCond .gt 5) := ⟨by decide +kernel, rfl⟩
set_option maxRecDepth 100000 in
theorem ii_hs_isFree_18 : sm_D prog_3_method_15_code 18 1 19 (.iconst 0) := ⟨by decide +kernel, rfl⟩
set_option maxRecDepth 100000 in
theorem ii_hs_isFree_19 : sm_D prog_3_method_15_code 19 1 20 (.ireturn) := ⟨by decide +kernel, rfl⟩
set_option maxRecDepth 100000 in
theorem ii_hs_isFree_20 : sm_D prog_3_method_15_code 20 1 21 (.aload_n 0) := ⟨by decide +kernel, rfl⟩
set_option maxRecDepth 100000 in
theorem ii_hs_isFree_21 : sm_D prog_3_method_15_code 21 3 24 (.getfield 89) := ⟨by decide +kernel, rfl⟩
set_option maxRecDepth 100000 in
theorem ii_hs_isFree_24 : sm_D prog_3_method_15_code 24 3 27 (.ifCond .ne 5) := ⟨by decide +kernel, rfl⟩
set_option maxRecDepth 100000 in
theorem ii_hs_isFree_27 : sm_D prog_3_method_15_code 27 1 28 (.iconst 1) := ⟨by decide +kernel, rfl⟩
set_option maxRecDepth 100000 in
theorem ii_hs_isFree_28 : sm_D prog_3_method_15_code 28 1 29 (.ireturn) := ⟨by decide +kernel, rfl⟩
set_option maxRecDepth 100000 in
theorem ii_hs_isFree_29 : sm_D prog_3_method_15_code 29 1 30 (.aload_n 0) := ⟨by decide +kernel, rfl⟩
set_option maxRecDepth 100000 in
theorem ii_hs_isFree_30 : sm_D prog_3_method_15_code 30 3 33 (.getfield 33) := ⟨by decide +kernel, rfl⟩
set_option maxRecDepth 100000 in
theorem ii_hs_isFree_33 : sm_D prog_3_method_15_code 33 1 34 (.aload_n 0) := ⟨by decide +kernel, rfl⟩
set_option maxRecDepth 100000 in
theorem ii_hs_isFree_34 : sm_D prog_3_method_15_code 34 3 37 (.getfield 89) := ⟨by decide +kernel, rfl⟩
set_option maxRecDepth 100000 in
theorem ii_hs_isFree_37 : sm_D prog_3_method_15_code 37 1 38 (.iconst 1) := ⟨by decide +kernel, rfl⟩
set_option maxRecDepth 100000 in
theorem ii_hs_isFree_38 : sm_D prog_3_method_15_code 38 1 39 (.isub) := ⟨by decide +kernel, rfl⟩
set_option maxRecDepth 100000 in
theorem ii_hs_isFree_39 : sm_D prog_3_method_15_code 39 1 40 (.iaload) := ⟨by decide +kernel, rfl⟩
set_option maxRecDepth 100000 in
theorem ii_hs_isFree_40 : sm_D prog_3_method_15_code 40 1 41 (.istore_n 2) := ⟨by decide +kernel, rfl⟩
set_option maxRecDepth 100000 in
theorem ii_hs_isFree_41 : sm_D prog_3_method_15_code 41 1 42 (.iload_n 2) := ⟨by decide +kernel, rfl⟩
set_option maxRecDepth 100000 in
theorem ii_hs_isFree_42 : sm_D prog_3_method_15_code 42 1 43 (.iload_n 1) := ⟨by decide +kernel, rfl⟩
set_option maxRecDepth 100000 in
theorem ii_hs_isFree_43 : sm_D prog_3_method_15_code 43 3 46 (.if_icmp .eq 27) := ⟨by decide +kernel, rfl⟩
set_option maxRecDepth 100000 in
theorem ii_hs_isFree_46 : sm_D prog_3_method_15_code 46 1 47 (.aload_n 0) := ⟨by decide +kernel, rfl⟩
set_option maxRecDepth 100000 in
theorem ii_hs_isFree_47 : sm_D prog_3_method_15_code 47 3 50 (.getfield 24) := ⟨by decide +kernel, rfl⟩
set_option maxRecDepth 100000 in
theorem ii_hs_isFree_50 : sm_D prog_3_method_15_code 50 1 51 (.iload_n 2) := ⟨by decide +kernel, rfl⟩
set_option maxRecDepth 100000 in
theorem ii_hs_isFree_51 : sm_D prog_3_method_15_code 51 1 52 (.iaload) := ⟨by decide +kernel, rfl⟩
set_option maxRecDepth 100000 in
theorem ii_hs_isFree_52 : sm_D prog_3_method_15_code 52 1 53 (.aload_n 0) := ⟨by decide +kernel, rfl⟩
set_option maxRecDepth 100000 in
theorem ii_hs_isFree_53 : sm_D prog_3_method_15_code 53 3 56 (.getfield 24) := ⟨by decide +kernel, rfl⟩
set_option maxRecDepth 100000 in
theorem ii_hs_isFree_56 : sm_D prog_3_method_15_code 56 1 57 (.iload_n 1) := ⟨by decide +kernel, rfl⟩
set_option maxRecDepth 100000 in
theorem ii_hs_isFree_57 : sm_D prog_3_method_15_code 57 1 58 (.iaload) := ⟨by decide +kernel, rfl⟩
set_option maxRecDepth 100000 in
theorem ii_hs_isFree_58 : sm_D prog_3_method_15_code 58 1 59 (.isub) := ⟨by decide +kernel, rfl⟩
set_option maxRecDepth 100000 in
theorem ii_hs_isFree_59 : sm_D prog_3_method_15_code 59 3 62 (.invokestatic 121) := ⟨by decide +kernel, rfl⟩
set_option maxRecDepth 100000 in
theorem ii_hs_isFree_62 : sm_D prog_3_method_15_code 62 1 63 (.iconst 1) := ⟨by decide +kernel, rfl⟩
set_option maxRecDepth 100000 in
theorem ii_hs_isFree_63 : sm_D prog_3_method_15_code 63 3 66 (.if_icmp .gt 7) := ⟨by decide +kernel, rfl⟩
set_option maxRecDepth 100000 in
theorem ii_hs_isFree_66 : sm_D prog_3_method_15_code 66 1 67 (.iconst 1) := ⟨by decide +kernel, rfl⟩
set_option maxRecDepth 100000 in
theorem ii_hs_isFree_67 : sm_D prog_3_method_15_code 67 3 70 (.goto 4) := ⟨by decide +kernel, rfl⟩
set_option maxRecDepth 100000 in
theorem ii_hs_isFree_70 : sm_D prog_3_method_15_code 70 1 71 (.iconst 0) := ⟨by decide +kernel, rfl⟩
set_option maxRecDepth 100000 in
theorem ii_hs_isFree_71 : sm_D prog_3_method_15_code 71 1 72 (.ireturn) := ⟨by decide +kernel, rfl⟩
noncomputable def ff_hs_isFree  (a1 : Int32) (w : sm_Mem) : sm_R := (if (8 : Int32) ≤ (w.1 36 11) then (some (.int (0 : Int32), w)) else (Option.bind (sm_rd w 42 6 a1) fun x1 => (if (0 : Int32) < x1 then (if (w.1 36 11) = (0 : Int32) then (some (.int (1 : Int32), w)) else (Option.bind (sm_rd w 44 8 ((w.1 36 11) - (1 : Int32))) fun x2 => (if x2 = a1 then (some (.int (0 : Int32), w)) else (Option.bind (sm_rd w 41 6 x2) fun x3 => (Option.bind (sm_rd w 41 6 a1) fun x4 => (if (1 : Int32) < (if (0 : Int32) ≤ (x3 - x4) then (x3 - x4) else (0 : Int32) - (x3 - x4)) then (some (.int (0 : Int32), w)) else (some (.int (1 : Int32), w)))))))) else (some (.int (0 : Int32), w)))))
set_option maxHeartbeats 4000000 in
set_option maxRecDepth 100000 in
theorem ss_hs_isFree_0 {E : Nat × (Nat → Int32)}  (a1 : Int32) (w : sm_Mem) : sm_Sim E (mi_hs_isFree) 0 [some (.ref 36), some (.int a1), none] [] w (ff_hs_isFree  a1 w) := by
  unfold ff_hs_isFree
  refine sm_aload_n ii_hs_isFree_0 rfl ?_
  refine sm_getI ii_hs_isFree_1 fl_hs_89 (k := 36) rfl ?_
  refine sm_bipush (8 : Int32) ii_hs_isFree_4 (by decide) ?_
  refine sm_icmp_ge 18 ii_hs_isFree_6 (by decide) ?_ ?_
  · refine sm_iconst (0 : Int32) ii_hs_isFree_18 (by decide) ?_
    exact sm_zret1 ii_hs_isFree_19 rfl (by decide)
  · refine sm_aload_n ii_hs_isFree_9 rfl ?_
    refine sm_getR 42 ii_hs_isFree_10 fl_hs_27 (k := 36) rfl ?_
    refine sm_iload_n ii_hs_isFree_13 rfl ?_
    refine sm_iald ii_hs_isFree_14 (k := 42) rfl (fun x1 => ?_)
    refine sm_if_gt 20 ii_hs_isFree_15 (by decide) ?_ ?_
    · refine sm_aload_n ii_hs_isFree_20 rfl ?_
      refine sm_getI ii_hs_isFree_21 fl_hs_89 (k := 36) rfl ?_
      refine sm_if_ne 29 ii_hs_isFree_24 (by decide) ?_ ?_
      · refine sm_iconst (1 : Int32) ii_hs_isFree_27 (by decide) ?_
        exact sm_zret1 ii_hs_isFree_28 rfl (by decide)
      · refine sm_aload_n ii_hs_isFree_29 rfl ?_
        refine sm_getR 44 ii_hs_isFree_30 fl_hs_33 (k := 36) rfl ?_
        refine sm_aload_n ii_hs_isFree_33 rfl ?_
        refine sm_getI ii_hs_isFree_34 fl_hs_89 (k := 36) rfl ?_
        refine sm_iconst (1 : Int32) ii_hs_isFree_37 (by decide) ?_
        refine sm_isub ii_hs_isFree_38 ?_
        refine sm_iald ii_hs_isFree_39 (k := 44) rfl (fun x2 => ?_)
        refine sm_istore_n [some (.ref 36), some (.int a1), some (.int x2)] ii_hs_isFree_40 rfl rfl ?_
        refine sm_iload_n ii_hs_isFree_41 rfl ?_
        refine sm_iload_n ii_hs_isFree_42 rfl ?_
        refine sm_icmp_eq 70 ii_hs_isFree_43 (by decide) ?_ ?_
        · refine sm_iconst (0 : Int32) ii_hs_isFree_70 (by decide) ?_
          exact sm_zret1 ii_hs_isFree_71 rfl (by decide)
        · refine sm_aload_n ii_hs_isFree_46 rfl ?_
          refine sm_getR 41 ii_hs_isFree_47 fl_hs_24 (k := 36) rfl ?_
          refine sm_iload_n ii_hs_isFree_50 rfl ?_
          refine sm_iald ii_hs_isFree_51 (k := 41) rfl (fun x3 => ?_)
          refine sm_aload_n ii_hs_isFree_52 rfl ?_
          refine sm_getR 41 ii_hs_isFree_53 fl_hs_24 (k := 36) rfl ?_
          refine sm_iload_n ii_hs_isFree_56 rfl ?_
          refine sm_iald ii_hs_isFree_57 (k := 41) rfl (fun x4 => ?_)
          refine sm_isub ii_hs_isFree_58 ?_
          refine sm_mabs ii_hs_isFree_59 mq_hs_121 mq_st_abs mq_in mq_co_abs (by decide) rfl ?_
          refine sm_iconst (1 : Int32) ii_hs_isFree_62 (by decide) ?_
          refine sm_icmp_gt 70 ii_hs_isFree_63 (by decide) ?_ ?_
          · refine sm_iconst (0 : Int32) ii_hs_isFree_70 (by decide) ?_
            exact sm_zret1 ii_hs_isFree_71 rfl (by decide)
          · refine sm_iconst (1 : Int32) ii_hs_isFree_66 (by decide) ?_
            refine sm_goto 71 ii_hs_isFree_67 (by decide) ?_
            exact sm_zret1 ii_hs_isFree_71 rfl (by decide)
    · refine sm_iconst (0 : Int32) ii_hs_isFree_18 (by decide) ?_
      exact sm_zret1 ii_hs_isFree_19 rfl (by decide)
set_option maxHeartbeats 4000000 in
set_option maxRecDepth 100000 in
theorem mc_hs_isFree (a1 : Int32) (w : sm_Mem) : sm_MC mi_hs_isFree [.ref 36, .int a1] w (ff_hs_isFree a1 w) := sm_MC_of (0, fun _ => 0) (by decide +kernel) (by decide) rfl (Nat.le_of_ble_eq_true rfl) (ss_hs_isFree_0 a1 w)
abbrev mi_hs_can : sm_MI := (⟨"HerOrders$House", "can", "(II)Z"⟩, prog_3_method_14_code, 3, (some .boolean), 2)
set_option maxRecDepth 100000 in
theorem mf_hs_can : sm_MF mi_hs_can 2 := ⟨List.mem_of_getElem? (i := 543) (by decide +kernel), List.mem_of_getElem? (i := 128) (by decide +kernel), ⟨by decide, by decide⟩, by decide +kernel⟩
set_option maxRecDepth 100000 in
theorem mv_hs_can : sm_MFV mi_hs_can := ⟨List.mem_of_getElem? (i := 542) (by decide +kernel), List.mem_of_getElem? (i := 20) (by decide +kernel)⟩
set_option maxRecDepth 100000 in
theorem ii_hs_can_0 : sm_D prog_3_method_14_code 0 1 1 (.aload_n 0) := ⟨by decide +kernel, rfl⟩
set_option maxRecDepth 100000 in
theorem ii_hs_can_1 : sm_D prog_3_method_14_code 1 1 2 (.iload_n 1) := ⟨by decide +kernel, rfl⟩
set_option maxRecDepth 100000 in
theorem ii_hs_can_2 : sm_D prog_3_method_14_code 2 3 5 (.invokevirtual 109) := ⟨by decide +kernel, rfl⟩
set_option maxRecDepth 100000 in
theorem ii_hs_can_5 : sm_D prog_3_method_14_code 5 3 8 (.ifCond .eq 26) := ⟨by decide +kernel, rfl⟩
set_option maxRecDepth 100000 in
theorem ii_hs_can_8 : sm_D prog_3_method_14_code 8 1 9 (.aload_n 0) := ⟨by decide +kernel, rfl⟩
set_option maxRecDepth 100000 in
theorem ii_hs_can_9 : sm_D prog_3_method_14_code 9 1 10 (.iload_n 1) := ⟨by decide +kernel, rfl⟩
set_option maxRecDepth 100000 in
theorem ii_hs_can_10 : sm_D prog_3_method_14_code 10 1 11 (.aload_n 0) := ⟨by decide +kernel, rfl⟩
set_option maxRecDepth 100000 in
theorem ii_hs_can_11 : sm_D prog_3_method_14_code 11 3 14 (.getfield 9) := ⟨by decide +kernel, rfl⟩
set_option maxRecDepth 100000 in
theorem ii_hs_can_14 : sm_D prog_3_method_14_code 14 1 15 (.iload_n 1) := ⟨by decide +kernel, rfl⟩
set_option maxRecDepth 100000 in
theorem ii_hs_can_15 : sm_D prog_3_method_14_code 15 1 16 (.iaload) := ⟨by decide +kernel, rfl⟩
set_option maxRecDepth 100000 in
theorem ii_hs_can_16 : sm_D prog_3_method_14_code 16 1 17 (.aload_n 0) := ⟨by decide +kernel, rfl⟩
set_option maxRecDepth 100000 in
theorem ii_hs_can_17 : sm_D prog_3_method_14_code 17 3 20 (.invokevirtual 113) := ⟨by decide +kernel, rfl⟩
set_option maxRecDepth 100000 in
theorem ii_hs_can_20 : sm_D prog_3_method_14_code 20 1 21 (.iload_n 2) := ⟨by decide +kernel, rfl⟩
set_option maxRecDepth 100000 in
theorem ii_hs_can_21 : sm_D prog_3_method_14_code 21 3 24 (.invokevirtual 117) := ⟨by decide +kernel, rfl⟩
set_option maxRecDepth 100000 in
theorem ii_hs_can_24 : sm_D prog_3_method_14_code 24 3 27 (.ifCond .eq 7) := ⟨by decide +kernel, rfl⟩
set_option maxRecDepth 100000 in
theorem ii_hs_can_27 : sm_D prog_3_method_14_code 27 1 28 (.iconst 1) := ⟨by decide +kernel, rfl⟩
set_option maxRecDepth 100000 in
theorem ii_hs_can_28 : sm_D prog_3_method_14_code 28 3 31 (.goto 4) := ⟨by decide +kernel, rfl⟩
set_option maxRecDepth 100000 in
theorem ii_hs_can_31 : sm_D prog_3_method_14_code 31 1 32 (.iconst 0) := ⟨by decide +kernel, rfl⟩
set_option maxRecDepth 100000 in
theorem ii_hs_can_32 : sm_D prog_3_method_14_code 32 1 33 (.ireturn) := ⟨by decide +kernel, rfl⟩
noncomputable def ff_hs_can  (a1 : Int32) (a2 : Int32) (w : sm_Mem) : sm_R := (sm_cI (ff_hs_isFree (a1) w) fun x1 w2 => (if x1 = (0 : Int32) then (some (.int (0 : Int32), w2)) else (Option.bind (sm_rd w2 37 6 a1) fun x3 => (sm_cI (ff_hs_lastWord  w2) fun x4 w5 => (sm_cI (ff_hs_isAble (a1) (x3) (x4) (a2) w5) fun x6 w7 => (if x6 = (0 : Int32) then (some (.int (0 : Int32), w7)) else (some (.int (1 : Int32), w7))))))))
set_option maxHeartbeats 4000000 in
set_option maxRecDepth 100000 in
theorem ss_hs_can_0 {E : Nat × (Nat → Int32)}  (a1 : Int32) (a2 : Int32) (w : sm_Mem) : sm_Sim E (mi_hs_can) 0 [some (.ref 36), some (.int a1), some (.int a2)] [] w (ff_hs_can  a1 a2 w) := by
  unfold ff_hs_can
  refine sm_aload_n ii_hs_can_0 rfl ?_
  refine sm_iload_n ii_hs_can_1 rfl ?_
  refine sm_cvI [.int a1] [] rfl ii_hs_can_2 ml_hs_109 (mf_hs_isFree) (mv_hs_isFree) (Nat.le_of_ble_eq_true rfl) rfl 1 rfl rfl rfl rfl (mc_hs_isFree (a1) w) (fun x1 w2 => ?_)
  refine sm_if_eq 31 ii_hs_can_5 (by decide) ?_ ?_
  · refine sm_iconst (0 : Int32) ii_hs_can_31 (by decide) ?_
    exact sm_zret1 ii_hs_can_32 rfl (by decide)
  · refine sm_aload_n ii_hs_can_8 rfl ?_
    refine sm_iload_n ii_hs_can_9 rfl ?_
    refine sm_aload_n ii_hs_can_10 rfl ?_
    refine sm_getR 37 ii_hs_can_11 fl_hs_9 (k := 36) rfl ?_
    refine sm_iload_n ii_hs_can_14 rfl ?_
    refine sm_iald ii_hs_can_15 (k := 37) rfl (fun x3 => ?_)
    refine sm_aload_n ii_hs_can_16 rfl ?_
    refine sm_cvI [] [.int x3, .int a1, .ref 36] rfl ii_hs_can_17 ml_hs_113 (mf_hs_lastWord) (mv_hs_lastWord) (Nat.le_of_ble_eq_true rfl) rfl 1 rfl rfl rfl rfl (mc_hs_lastWord  w2) (fun x4 w5 => ?_)
    refine sm_iload_n ii_hs_can_20 rfl ?_
    refine sm_cvI [.int a1, .int x3, .int x4, .int a2] [] rfl ii_hs_can_21 ml_hs_117 (mf_hs_isAble) (mv_hs_isAble) (Nat.le_of_ble_eq_true rfl) rfl 1 rfl rfl rfl rfl (mc_hs_isAble (a1) (x3) (x4) (a2) w5) (fun x6 w7 => ?_)
    refine sm_if_eq 31 ii_hs_can_24 (by decide) ?_ ?_
    · refine sm_iconst (0 : Int32) ii_hs_can_31 (by decide) ?_
      exact sm_zret1 ii_hs_can_32 rfl (by decide)
    · refine sm_iconst (1 : Int32) ii_hs_can_27 (by decide) ?_
      refine sm_goto 32 ii_hs_can_28 (by decide) ?_
      exact sm_zret1 ii_hs_can_32 rfl (by decide)
set_option maxHeartbeats 4000000 in
set_option maxRecDepth 100000 in
theorem mc_hs_can (a1 : Int32) (a2 : Int32) (w : sm_Mem) : sm_MC mi_hs_can [.ref 36, .int a1, .int a2] w (ff_hs_can a1 a2 w) := sm_MC_of (0, fun _ => 0) (by decide +kernel) (by decide) rfl (Nat.le_of_ble_eq_true rfl) (ss_hs_can_0 a1 a2 w)
abbrev mi_hs_sayable : sm_MI := (⟨"HerOrders$House", "sayable", "(I)I"⟩, prog_3_method_17_code, 4, (some .int), 3)
set_option maxRecDepth 100000 in
theorem mf_hs_sayable : sm_MF mi_hs_sayable 1 := ⟨List.mem_of_getElem? (i := 539) (by decide +kernel), List.mem_of_getElem? (i := 128) (by decide +kernel), ⟨by decide, by decide⟩, by decide +kernel⟩
set_option maxRecDepth 100000 in
theorem mv_hs_sayable : sm_MFV mi_hs_sayable := ⟨List.mem_of_getElem? (i := 538) (by decide +kernel), List.mem_of_getElem? (i := 19) (by decide +kernel)⟩
set_option maxRecDepth 100000 in
theorem ii_hs_sayable_0 : sm_D prog_3_method_17_code 0 1 1 (.iconst 0) := ⟨by decide +kernel, rfl⟩
set_option maxRecDepth 100000 in
theorem ii_hs_sayable_1 : sm_D prog_3_method_17_code 1 1 2 (.istore_n 2) := ⟨by decide +kernel, rfl⟩
set_option maxRecDepth 100000 in
theorem ii_hs_sayable_2 : sm_D prog_3_method_17_code 2 1 3 (.iconst 0) := ⟨by decide +kernel, rfl⟩
set_option maxRecDepth 100000 in
theorem ii_hs_sayable_3 : sm_D prog_3_method_17_code 3 1 4 (.istore_n 3) := ⟨by decide +kernel, rfl⟩
set_option maxRecDepth 100000 in
theorem ii_hs_sayable_4 : sm_D prog_3_method_17_code 4 1 5 (.iload_n 3) := ⟨by decide +kernel, rfl⟩
set_option maxRecDepth 100000 in
theorem ii_hs_sayable_5 : sm_D prog_3_method_17_code 5 2 7 (.bipush 6) := ⟨by decide +kernel, rfl⟩
set_option maxRecDepth 100000 in
theorem ii_hs_sayable_7 : sm_D prog_3_method_17_code 7 3 10 (.if_icmp .ge 24) := ⟨by decide +kernel, rfl⟩
set_option maxRecDepth 100000 in
theorem ii_hs_sayable_10 : sm_D prog_3_method_17_code 10 1 11 (.aload_n 0) := ⟨by decide +kernel, rfl⟩
set_option maxRecDepth 100000 in
theorem ii_hs_sayable_11 : sm_D prog_3_method_17_code 11 1 12 (.iload_n 1) := ⟨by decide +kernel, rfl⟩
set_option maxRecDepth 100000 in
theorem ii_hs_sayable_12 : sm_D prog_3_method_17_code 12 1 13 (.iload_n 3) := ⟨by decide +kernel, rfl⟩
set_option maxRecDepth 100000 in
theorem ii_hs_sayable_13 : sm_D prog_3_method_17_code 13 3 16 (.invokevirtual 82) := ⟨by decide +kernel, rfl⟩
set_option maxRecDepth 100000 in
theorem ii_hs_sayable_16 : sm_D prog_3_method_17_code 16 3 19 (.ifCond .eq 9) := ⟨by decide +kernel, rfl⟩
set_option maxRecDepth 100000 in
theorem ii_hs_sayable_19 : sm_D prog_3_method_17_code 19 1 20 (.iload_n 2) := ⟨by decide +kernel, rfl⟩
set_option maxRecDepth 100000 in
theorem ii_hs_sayable_20 : sm_D prog_3_method_17_code 20 1 21 (.iconst 1) := ⟨by decide +kernel, rfl⟩
set_option maxRecDepth 100000 in
theorem ii_hs_sayable_21 : sm_D prog_3_method_17_code 21 1 22 (.iload_n 3) := ⟨by decide +kernel, rfl⟩
set_option maxRecDepth 100000 in
theorem ii_hs_sayable_22 : sm_D prog_3_method_17_code 22 1 23 (.ishl) := ⟨by decide +kernel, rfl⟩
set_option maxRecDepth 100000 in
theorem ii_hs_sayable_23 : sm_D prog_3_method_17_code 23 1 24 (.ior) := ⟨by decide +kernel, rfl⟩
set_option maxRecDepth 100000 in
theorem ii_hs_sayable_24 : sm_D prog_3_method_17_code 24 1 25 (.istore_n 2) := ⟨by decide +kernel, rfl⟩
set_option maxRecDepth 100000 in
theorem ii_hs_sayable_25 : sm_D prog_3_method_17_code 25 3 28 (.iinc 3 1) := ⟨by decide +kernel, rfl⟩
set_option maxRecDepth 100000 in
theorem ii_hs_sayable_28 : sm_D prog_3_method_17_code 28 3 31 (.goto (-24)) := ⟨by decide +kernel, rfl⟩
set_option maxRecDepth 100000 in
theorem ii_hs_sayable_31 : sm_D prog_3_method_17_code 31 1 32 (.iload_n 2) := ⟨by decide +kernel, rfl⟩
set_option maxRecDepth 100000 in
theorem ii_hs_sayable_32 : sm_D prog_3_method_17_code 32 1 33 (.ireturn) := ⟨by decide +kernel, rfl⟩
noncomputable def ff_hs_sayable_4_b  (self4 : Int32 → Int32 → Int32 → sm_Mem → sm_R) (a1 : Int32) (a2 : Int32) (a3 : Int32) (w : sm_Mem) : sm_R := (if (6 : Int32) ≤ a3 then (some (.int a2, w)) else (sm_cI (ff_hs_can (a1) (a3) w) fun x1 w2 => (if x1 = (0 : Int32) then self4 (a1) (a2) ((a3 + (1 : Int32))) w2 else self4 (a1) ((a2 ||| ((1 : Int32) <<< (a3 &&& (31 : Int32))))) ((a3 + (1 : Int32))) w2)))
noncomputable def ff_hs_sayable_4_f  : Nat → Int32 → Int32 → Int32 → sm_Mem → sm_R
  | 0, _, _, _, _ => none
  | n + 1, a1, a2, a3, w => ff_hs_sayable_4_b  (ff_hs_sayable_4_f  n) a1 a2 a3 w
noncomputable def ff_hs_sayable_4  (a1 : Int32) (a2 : Int32) (a3 : Int32) (w : sm_Mem) : sm_R := ff_hs_sayable_4_f  sm_N a1 a2 a3 w
set_option maxHeartbeats 4000000 in
set_option maxRecDepth 100000 in
theorem ss_hs_sayable_4_b {E : Nat × (Nat → Int32)}  (self4 : Int32 → Int32 → Int32 → sm_Mem → sm_R) (hself4 : ∀ (a1 : Int32) (a2 : Int32) (a3 : Int32) (w : sm_Mem), sm_Sim E (mi_hs_sayable) 4 [some (.ref 36), some (.int a1), some (.int a2), some (.int a3)] [] w (self4 a1 a2 a3 w)) (a1 : Int32) (a2 : Int32) (a3 : Int32) (w : sm_Mem) : sm_Sim E (mi_hs_sayable) 4 [some (.ref 36), some (.int a1), some (.int a2), some (.int a3)] [] w (ff_hs_sayable_4_b  self4 a1 a2 a3 w) := by
  unfold ff_hs_sayable_4_b
  refine sm_iload_n ii_hs_sayable_4 rfl ?_
  refine sm_bipush (6 : Int32) ii_hs_sayable_5 (by decide) ?_
  refine sm_icmp_ge 31 ii_hs_sayable_7 (by decide) ?_ ?_
  · refine sm_iload_n ii_hs_sayable_31 rfl ?_
    exact sm_iret ii_hs_sayable_32 rfl
  · refine sm_aload_n ii_hs_sayable_10 rfl ?_
    refine sm_iload_n ii_hs_sayable_11 rfl ?_
    refine sm_iload_n ii_hs_sayable_12 rfl ?_
    refine sm_cvI [.int a1, .int a3] [] rfl ii_hs_sayable_13 ml_hs_82 (mf_hs_can) (mv_hs_can) (Nat.le_of_ble_eq_true rfl) rfl 1 rfl rfl rfl rfl (mc_hs_can (a1) (a3) w) (fun x1 w2 => ?_)
    refine sm_if_eq 25 ii_hs_sayable_16 (by decide) ?_ ?_
    · refine sm_iinc (a3 + (1 : Int32)) [some (.ref 36), some (.int a1), some (.int a2), some (.int (a3 + (1 : Int32)))] ii_hs_sayable_25 rfl rfl rfl rfl ?_
      refine sm_goto 4 ii_hs_sayable_28 (by decide) ?_
      exact hself4 (a1) (a2) ((a3 + (1 : Int32))) w2
    · refine sm_iload_n ii_hs_sayable_19 rfl ?_
      refine sm_iconst (1 : Int32) ii_hs_sayable_20 (by decide) ?_
      refine sm_iload_n ii_hs_sayable_21 rfl ?_
      refine sm_ishl ii_hs_sayable_22 ?_
      refine sm_ior ii_hs_sayable_23 ?_
      refine sm_istore_n [some (.ref 36), some (.int a1), some (.int (a2 ||| ((1 : Int32) <<< (a3 &&& (31 : Int32))))), some (.int a3)] ii_hs_sayable_24 rfl rfl ?_
      refine sm_iinc (a3 + (1 : Int32)) [some (.ref 36), some (.int a1), some (.int (a2 ||| ((1 : Int32) <<< (a3 &&& (31 : Int32))))), some (.int (a3 + (1 : Int32)))] ii_hs_sayable_25 rfl rfl rfl rfl ?_
      refine sm_goto 4 ii_hs_sayable_28 (by decide) ?_
      exact hself4 (a1) ((a2 ||| ((1 : Int32) <<< (a3 &&& (31 : Int32))))) ((a3 + (1 : Int32))) w2
set_option maxHeartbeats 4000000 in
set_option maxRecDepth 100000 in
theorem ss_hs_sayable_4_f {E : Nat × (Nat → Int32)}  : ∀ (n : Nat) (a1 : Int32) (a2 : Int32) (a3 : Int32) (w : sm_Mem), sm_Sim E (mi_hs_sayable) 4 [some (.ref 36), some (.int a1), some (.int a2), some (.int a3)] [] w (ff_hs_sayable_4_f  n a1 a2 a3 w)
  | 0, _, _, _, _ => fun _ _ h => by cases h
  | n + 1, a1, a2, a3, w => ss_hs_sayable_4_b  _ (ss_hs_sayable_4_f  n) a1 a2 a3 w
set_option maxHeartbeats 4000000 in
set_option maxRecDepth 100000 in
theorem ss_hs_sayable_4 {E : Nat × (Nat → Int32)}  (a1 : Int32) (a2 : Int32) (a3 : Int32) (w : sm_Mem) : sm_Sim E (mi_hs_sayable) 4 [some (.ref 36), some (.int a1), some (.int a2), some (.int a3)] [] w (ff_hs_sayable_4  a1 a2 a3 w) := ss_hs_sayable_4_f  sm_N a1 a2 a3 w
noncomputable def ff_hs_sayable  (a1 : Int32) (w : sm_Mem) : sm_R := ff_hs_sayable_4 (a1) ((0 : Int32)) ((0 : Int32)) w
set_option maxHeartbeats 4000000 in
set_option maxRecDepth 100000 in
theorem ss_hs_sayable_0 {E : Nat × (Nat → Int32)}  (a1 : Int32) (w : sm_Mem) : sm_Sim E (mi_hs_sayable) 0 [some (.ref 36), some (.int a1), none, none] [] w (ff_hs_sayable  a1 w) := by
  unfold ff_hs_sayable
  refine sm_iconst (0 : Int32) ii_hs_sayable_0 (by decide) ?_
  refine sm_istore_n [some (.ref 36), some (.int a1), some (.int (0 : Int32)), none] ii_hs_sayable_1 rfl rfl ?_
  refine sm_iconst (0 : Int32) ii_hs_sayable_2 (by decide) ?_
  refine sm_istore_n [some (.ref 36), some (.int a1), some (.int (0 : Int32)), some (.int (0 : Int32))] ii_hs_sayable_3 rfl rfl ?_
  exact ss_hs_sayable_4 (a1) ((0 : Int32)) ((0 : Int32)) w
set_option maxHeartbeats 4000000 in
set_option maxRecDepth 100000 in
theorem mc_hs_sayable (a1 : Int32) (w : sm_Mem) : sm_MC mi_hs_sayable [.ref 36, .int a1] w (ff_hs_sayable a1 w) := sm_MC_of (0, fun _ => 0) (by decide +kernel) (by decide) rfl (Nat.le_of_ble_eq_true rfl) (ss_hs_sayable_0 a1 w)
abbrev mi_hs_othersWhoCan : sm_MI := (⟨"HerOrders$House", "othersWhoCan", "(I)I"⟩, prog_3_method_21_code, 4, (some .int), 4)
set_option maxRecDepth 100000 in
theorem mf_hs_othersWhoCan : sm_MF mi_hs_othersWhoCan 1 := ⟨List.mem_of_getElem? (i := 535) (by decide +kernel), List.mem_of_getElem? (i := 128) (by decide +kernel), ⟨by decide, by decide⟩, by decide +kernel⟩
set_option maxRecDepth 100000 in
theorem mv_hs_othersWhoCan : sm_MFV mi_hs_othersWhoCan := ⟨List.mem_of_getElem? (i := 534) (by decide +kernel), List.mem_of_getElem? (i := 18) (by decide +kernel)⟩
set_option maxRecDepth 100000 in
theorem ii_hs_othersWhoCan_0 : sm_D prog_3_method_21_code 0 1 1 (.iconst 0) := ⟨by decide +kernel, rfl⟩
set_option maxRecDepth 100000 in
theorem ii_hs_othersWhoCan_1 : sm_D prog_3_method_21_code 1 1 2 (.istore_n 2) := ⟨by decide +kernel, rfl⟩
set_option maxRecDepth 100000 in
theorem ii_hs_othersWhoCan_2 : sm_D prog_3_method_21_code 2 1 3 (.iconst 0) := ⟨by decide +kernel, rfl⟩
set_option maxRecDepth 100000 in
theorem ii_hs_othersWhoCan_3 : sm_D prog_3_method_21_code 3 1 4 (.istore_n 3) := ⟨by decide +kernel, rfl⟩
set_option maxRecDepth 100000 in
theorem ii_hs_othersWhoCan_4 : sm_D prog_3_method_21_code 4 1 5 (.iload_n 3) := ⟨by decide +kernel, rfl⟩
set_option maxRecDepth 100000 in
theorem ii_hs_othersWhoCan_5 : sm_D prog_3_method_21_code 5 1 6 (.aload_n 0) := ⟨by decide +kernel, rfl⟩
set_option maxRecDepth 100000 in
theorem ii_hs_othersWhoCan_6 : sm_D prog_3_method_21_code 6 3 9 (.getfield 45) := ⟨by decide +kernel, rfl⟩
set_option maxRecDepth 100000 in
theorem ii_hs_othersWhoCan_9 : sm_D prog_3_method_21_code 9 3 12 (.if_icmp .ge 25) := ⟨by decide +kernel, rfl⟩
set_option maxRecDepth 100000 in
theorem ii_hs_othersWhoCan_12 : sm_D prog_3_method_21_code 12 1 13 (.iload_n 3) := ⟨by decide +kernel, rfl⟩
set_option maxRecDepth 100000 in
theorem ii_hs_othersWhoCan_13 : sm_D prog_3_method_21_code 13 1 14 (.iload_n 1) := ⟨by decide +kernel, rfl⟩
set_option maxRecDepth 100000 in
theorem ii_hs_othersWhoCan_14 : sm_D prog_3_method_21_code 14 3 17 (.if_icmp .eq 14) := ⟨by decide +kernel, rfl⟩
set_option maxRecDepth 100000 in
theorem ii_hs_othersWhoCan_17 : sm_D prog_3_method_21_code 17 1 18 (.aload_n 0) := ⟨by decide +kernel, rfl⟩
set_option maxRecDepth 100000 in
theorem ii_hs_othersWhoCan_18 : sm_D prog_3_method_21_code 18 1 19 (.iload_n 3) := ⟨by decide +kernel, rfl⟩
set_option maxRecDepth 100000 in
theorem ii_hs_othersWhoCan_19 : sm_D prog_3_method_21_code 19 3 22 (.invokevirtual 126) := ⟨by decide +kernel, rfl⟩
set_option maxRecDepth 100000 in
theorem ii_hs_othersWhoCan_22 : sm_D prog_3_method_21_code 22 3 25 (.ifCond .eq 6) := ⟨by decide +kernel, rfl⟩
set_option maxRecDepth 100000 in
theorem ii_hs_othersWhoCan_25 : sm_D prog_3_method_21_code 25 3 28 (.iinc 2 1) := ⟨by decide +kernel, rfl⟩
set_option maxRecDepth 100000 in
theorem ii_hs_othersWhoCan_28 : sm_D prog_3_method_21_code 28 3 31 (.iinc 3 1) := ⟨by decide +kernel, rfl⟩
set_option maxRecDepth 100000 in
theorem ii_hs_othersWhoCan_31 : sm_D prog_3_method_21_code 31 3 34 (.goto (-27)) := ⟨by decide +kernel, rfl⟩
set_option maxRecDepth 100000 in
theorem ii_hs_othersWhoCan_34 : sm_D prog_3_method_21_code 34 1 35 (.iload_n 2) := ⟨by decide +kernel, rfl⟩
set_option maxRecDepth 100000 in
theorem ii_hs_othersWhoCan_35 : sm_D prog_3_method_21_code 35 1 36 (.ireturn) := ⟨by decide +kernel, rfl⟩
noncomputable def ff_hs_othersWhoCan_4_b  (self4 : Int32 → Int32 → Int32 → sm_Mem → sm_R) (a1 : Int32) (a2 : Int32) (a3 : Int32) (w : sm_Mem) : sm_R := (if (w.1 36 0) ≤ a3 then (some (.int a2, w)) else (if a3 = a1 then self4 (a1) (a2) ((a3 + (1 : Int32))) w else (sm_cI (ff_hs_sayable (a3) w) fun x1 w2 => (if x1 = (0 : Int32) then self4 (a1) (a2) ((a3 + (1 : Int32))) w2 else self4 (a1) ((a2 + (1 : Int32))) ((a3 + (1 : Int32))) w2))))
noncomputable def ff_hs_othersWhoCan_4_f  : Nat → Int32 → Int32 → Int32 → sm_Mem → sm_R
  | 0, _, _, _, _ => none
  | n + 1, a1, a2, a3, w => ff_hs_othersWhoCan_4_b  (ff_hs_othersWhoCan_4_f  n) a1 a2 a3 w
noncomputable def ff_hs_othersWhoCan_4  (a1 : Int32) (a2 : Int32) (a3 : Int32) (w : sm_Mem) : sm_R := ff_hs_othersWhoCan_4_f  sm_N a1 a2 a3 w
set_option maxHeartbeats 4000000 in
set_option maxRecDepth 100000 in
theorem ss_hs_othersWhoCan_4_b {E : Nat × (Nat → Int32)}  (self4 : Int32 → Int32 → Int32 → sm_Mem → sm_R) (hself4 : ∀ (a1 : Int32) (a2 : Int32) (a3 : Int32) (w : sm_Mem), sm_Sim E (mi_hs_othersWhoCan) 4 [some (.ref 36), some (.int a1), some (.int a2), some (.int a3)] [] w (self4 a1 a2 a3 w)) (a1 : Int32) (a2 : Int32) (a3 : Int32) (w : sm_Mem) : sm_Sim E (mi_hs_othersWhoCan) 4 [some (.ref 36), some (.int a1), some (.int a2), some (.int a3)] [] w (ff_hs_othersWhoCan_4_b  self4 a1 a2 a3 w) := by
  unfold ff_hs_othersWhoCan_4_b
  refine sm_iload_n ii_hs_othersWhoCan_4 rfl ?_
  refine sm_aload_n ii_hs_othersWhoCan_5 rfl ?_
  refine sm_getI ii_hs_othersWhoCan_6 fl_hs_45 (k := 36) rfl ?_
  refine sm_icmp_ge 34 ii_hs_othersWhoCan_9 (by decide) ?_ ?_
  · refine sm_iload_n ii_hs_othersWhoCan_34 rfl ?_
    exact sm_iret ii_hs_othersWhoCan_35 rfl
  · refine sm_iload_n ii_hs_othersWhoCan_12 rfl ?_
    refine sm_iload_n ii_hs_othersWhoCan_13 rfl ?_
    refine sm_icmp_eq 28 ii_hs_othersWhoCan_14 (by decide) ?_ ?_
    · refine sm_iinc (a3 + (1 : Int32)) [some (.ref 36), some (.int a1), some (.int a2), some (.int (a3 + (1 : Int32)))] ii_hs_othersWhoCan_28 rfl rfl rfl rfl ?_
      refine sm_goto 4 ii_hs_othersWhoCan_31 (by decide) ?_
      exact hself4 (a1) (a2) ((a3 + (1 : Int32))) w
    · refine sm_aload_n ii_hs_othersWhoCan_17 rfl ?_
      refine sm_iload_n ii_hs_othersWhoCan_18 rfl ?_
      refine sm_cvI [.int a3] [] rfl ii_hs_othersWhoCan_19 ml_hs_126 (mf_hs_sayable) (mv_hs_sayable) (Nat.le_of_ble_eq_true rfl) rfl 1 rfl rfl rfl rfl (mc_hs_sayable (a3) w) (fun x1 w2 => ?_)
      refine sm_if_eq 28 ii_hs_othersWhoCan_22 (by decide) ?_ ?_
      · refine sm_iinc (a3 + (1 : Int32)) [some (.ref 36), some (.int a1), some (.int a2), some (.int (a3 + (1 : Int32)))] ii_hs_othersWhoCan_28 rfl rfl rfl rfl ?_
        refine sm_goto 4 ii_hs_othersWhoCan_31 (by decide) ?_
        exact hself4 (a1) (a2) ((a3 + (1 : Int32))) w2
      · refine sm_iinc (a2 + (1 : Int32)) [some (.ref 36), some (.int a1), some (.int (a2 + (1 : Int32))), some (.int a3)] ii_hs_othersWhoCan_25 rfl rfl rfl rfl ?_
        refine sm_iinc (a3 + (1 : Int32)) [some (.ref 36), some (.int a1), some (.int (a2 + (1 : Int32))), some (.int (a3 + (1 : Int32)))] ii_hs_othersWhoCan_28 rfl rfl rfl rfl ?_
        refine sm_goto 4 ii_hs_othersWhoCan_31 (by decide) ?_
        exact hself4 (a1) ((a2 + (1 : Int32))) ((a3 + (1 : Int32))) w2
set_option maxHeartbeats 4000000 in
set_option maxRecDepth 100000 in
theorem ss_hs_othersWhoCan_4_f {E : Nat × (Nat → Int32)}  : ∀ (n : Nat) (a1 : Int32) (a2 : Int32) (a3 : Int32) (w : sm_Mem), sm_Sim E (mi_hs_othersWhoCan) 4 [some (.ref 36), some (.int a1), some (.int a2), some (.int a3)] [] w (ff_hs_othersWhoCan_4_f  n a1 a2 a3 w)
  | 0, _, _, _, _ => fun _ _ h => by cases h
  | n + 1, a1, a2, a3, w => ss_hs_othersWhoCan_4_b  _ (ss_hs_othersWhoCan_4_f  n) a1 a2 a3 w
set_option maxHeartbeats 4000000 in
set_option maxRecDepth 100000 in
theorem ss_hs_othersWhoCan_4 {E : Nat × (Nat → Int32)}  (a1 : Int32) (a2 : Int32) (a3 : Int32) (w : sm_Mem) : sm_Sim E (mi_hs_othersWhoCan) 4 [some (.ref 36), some (.int a1), some (.int a2), some (.int a3)] [] w (ff_hs_othersWhoCan_4  a1 a2 a3 w) := ss_hs_othersWhoCan_4_f  sm_N a1 a2 a3 w
noncomputable def ff_hs_othersWhoCan  (a1 : Int32) (w : sm_Mem) : sm_R := ff_hs_othersWhoCan_4 (a1) ((0 : Int32)) ((0 : Int32)) w
set_option maxHeartbeats 4000000 in
set_option maxRecDepth 100000 in
theorem ss_hs_othersWhoCan_0 {E : Nat × (Nat → Int32)}  (a1 : Int32) (w : sm_Mem) : sm_Sim E (mi_hs_othersWhoCan) 0 [some (.ref 36), some (.int a1), none, none] [] w (ff_hs_othersWhoCan  a1 w) := by
  unfold ff_hs_othersWhoCan
  refine sm_iconst (0 : Int32) ii_hs_othersWhoCan_0 (by decide) ?_
  refine sm_istore_n [some (.ref 36), some (.int a1), some (.int (0 : Int32)), none] ii_hs_othersWhoCan_1 rfl rfl ?_
  refine sm_iconst (0 : Int32) ii_hs_othersWhoCan_2 (by decide) ?_
  refine sm_istore_n [some (.ref 36), some (.int a1), some (.int (0 : Int32)), some (.int (0 : Int32))] ii_hs_othersWhoCan_3 rfl rfl ?_
  exact ss_hs_othersWhoCan_4 (a1) ((0 : Int32)) ((0 : Int32)) w
set_option maxHeartbeats 4000000 in
set_option maxRecDepth 100000 in
theorem mc_hs_othersWhoCan (a1 : Int32) (w : sm_Mem) : sm_MC mi_hs_othersWhoCan [.ref 36, .int a1] w (ff_hs_othersWhoCan a1 w) := sm_MC_of (0, fun _ => 0) (by decide +kernel) (by decide) rfl (Nat.le_of_ble_eq_true rfl) (ss_hs_othersWhoCan_0 a1 w)
abbrev mi_ig_bitCount : sm_MI := (⟨"java/lang/Integer", "bitCount", "(I)I"⟩, prog_10_method_49_code, 1, (some .int), 1)
set_option maxRecDepth 100000 in
theorem mf_ig_bitCount : sm_MF mi_ig_bitCount 1 := ⟨List.mem_of_getElem? (i := 553) (by decide +kernel), List.mem_of_getElem? (i := 134) (by decide +kernel), ⟨by decide, by decide⟩, by decide +kernel⟩
set_option maxRecDepth 100000 in
theorem mv_ig_bitCount : sm_MFS mi_ig_bitCount := List.mem_of_getElem? (i := 552) (by decide +kernel)
set_option maxRecDepth 100000 in
theorem ii_ig_bitCount_0 : sm_D prog_10_method_49_code 0 1 1 (.iload_n 0) := ⟨by decide +kernel, rfl⟩
set_option maxRecDepth 100000 in
theorem ii_ig_bitCount_1 : sm_D prog_10_method_49_code 1 1 2 (.iload_n 0) := ⟨by decide +kernel, rfl⟩
set_option maxRecDepth 100000 in
theorem ii_ig_bitCount_2 : sm_D prog_10_method_49_code 2 1 3 (.iconst 1) := ⟨by decide +kernel, rfl⟩
set_option maxRecDepth 100000 in
theorem ii_ig_bitCount_3 : sm_D prog_10_method_49_code 3 1 4 (.iushr) := ⟨by decide +kernel, rfl⟩
set_option maxRecDepth 100000 in
theorem ii_ig_bitCount_4 : sm_D prog_10_method_49_code 4 3 7 (.ldc_w 265) := ⟨by decide +kernel, rfl⟩
set_option maxRecDepth 100000 in
theorem ii_ig_bitCount_7 : sm_D prog_10_method_49_code 7 1 8 (.iand) := ⟨by decide +kernel, rfl⟩
set_option maxRecDepth 100000 in
theorem ii_ig_bitCount_8 : sm_D prog_10_method_49_code 8 1 9 (.isub) := ⟨by decide +kernel, rfl⟩
set_option maxRecDepth 100000 in
theorem ii_ig_bitCount_9 : sm_D prog_10_method_49_code 9 1 10 (.istore_n 0) := ⟨by decide +kernel, rfl⟩
set_option maxRecDepth 100000 in
theorem ii_ig_bitCount_10 : sm_D prog_10_method_49_code 10 1 11 (.iload_n 0) := ⟨by decide +kernel, rfl⟩
set_option maxRecDepth 100000 in
theorem ii_ig_bitCount_11 : sm_D prog_10_method_49_code 11 3 14 (.ldc_w 266) := ⟨by decide +kernel, rfl⟩
set_option maxRecDepth 100000 in
theorem ii_ig_bitCount_14 : sm_D prog_10_method_49_code 14 1 15 (.iand) := ⟨by decide +kernel, rfl⟩
set_option maxRecDepth 100000 in
theorem ii_ig_bitCount_15 : sm_D prog_10_method_49_code 15 1 16 (.iload_n 0) := ⟨by decide +kernel, rfl⟩
set_option maxRecDepth 100000 in
theorem ii_ig_bitCount_16 : sm_D prog_10_method_49_code 16 1 17 (.iconst 2) := ⟨by decide +kernel, rfl⟩
set_option maxRecDepth 100000 in
theorem ii_ig_bitCount_17 : sm_D prog_10_method_49_code 17 1 18 (.iushr) := ⟨by decide +kernel, rfl⟩
set_option maxRecDepth 100000 in
theorem ii_ig_bitCount_18 : sm_D prog_10_method_49_code 18 3 21 (.ldc_w 266) := ⟨by decide +kernel, rfl⟩
set_option maxRecDepth 100000 in
theorem ii_ig_bitCount_21 : sm_D prog_10_method_49_code 21 1 22 (.iand) := ⟨by decide +kernel, rfl⟩
set_option maxRecDepth 100000 in
theorem ii_ig_bitCount_22 : sm_D prog_10_method_49_code 22 1 23 (.iadd) := ⟨by decide +kernel, rfl⟩
set_option maxRecDepth 100000 in
theorem ii_ig_bitCount_23 : sm_D prog_10_method_49_code 23 1 24 (.istore_n 0) := ⟨by decide +kernel, rfl⟩
set_option maxRecDepth 100000 in
theorem ii_ig_bitCount_24 : sm_D prog_10_method_49_code 24 1 25 (.iload_n 0) := ⟨by decide +kernel, rfl⟩
set_option maxRecDepth 100000 in
theorem ii_ig_bitCount_25 : sm_D prog_10_method_49_code 25 1 26 (.iload_n 0) := ⟨by decide +kernel, rfl⟩
set_option maxRecDepth 100000 in
theorem ii_ig_bitCount_26 : sm_D prog_10_method_49_code 26 1 27 (.iconst 4) := ⟨by decide +kernel, rfl⟩
set_option maxRecDepth 100000 in
theorem ii_ig_bitCount_27 : sm_D prog_10_method_49_code 27 1 28 (.iushr) := ⟨by decide +kernel, rfl⟩
set_option maxRecDepth 100000 in
theorem ii_ig_bitCount_28 : sm_D prog_10_method_49_code 28 1 29 (.iadd) := ⟨by decide +kernel, rfl⟩
set_option maxRecDepth 100000 in
theorem ii_ig_bitCount_29 : sm_D prog_10_method_49_code 29 3 32 (.ldc_w 267) := ⟨by decide +kernel, rfl⟩
set_option maxRecDepth 100000 in
theorem ii_ig_bitCount_32 : sm_D prog_10_method_49_code 32 1 33 (.iand) := ⟨by decide +kernel, rfl⟩
set_option maxRecDepth 100000 in
theorem ii_ig_bitCount_33 : sm_D prog_10_method_49_code 33 1 34 (.istore_n 0) := ⟨by decide +kernel, rfl⟩
set_option maxRecDepth 100000 in
theorem ii_ig_bitCount_34 : sm_D prog_10_method_49_code 34 1 35 (.iload_n 0) := ⟨by decide +kernel, rfl⟩
set_option maxRecDepth 100000 in
theorem ii_ig_bitCount_35 : sm_D prog_10_method_49_code 35 1 36 (.iload_n 0) := ⟨by decide +kernel, rfl⟩
set_option maxRecDepth 100000 in
theorem ii_ig_bitCount_36 : sm_D prog_10_method_49_code 36 2 38 (.bipush 8) := ⟨by decide +kernel, rfl⟩
set_option maxRecDepth 100000 in
theorem ii_ig_bitCount_38 : sm_D prog_10_method_49_code 38 1 39 (.iushr) := ⟨by decide +kernel, rfl⟩
set_option maxRecDepth 100000 in
theorem ii_ig_bitCount_39 : sm_D prog_10_method_49_code 39 1 40 (.iadd) := ⟨by decide +kernel, rfl⟩
set_option maxRecDepth 100000 in
theorem ii_ig_bitCount_40 : sm_D prog_10_method_49_code 40 1 41 (.istore_n 0) := ⟨by decide +kernel, rfl⟩
set_option maxRecDepth 100000 in
theorem ii_ig_bitCount_41 : sm_D prog_10_method_49_code 41 1 42 (.iload_n 0) := ⟨by decide +kernel, rfl⟩
set_option maxRecDepth 100000 in
theorem ii_ig_bitCount_42 : sm_D prog_10_method_49_code 42 1 43 (.iload_n 0) := ⟨by decide +kernel, rfl⟩
set_option maxRecDepth 100000 in
theorem ii_ig_bitCount_43 : sm_D prog_10_method_49_code 43 2 45 (.bipush 16) := ⟨by decide +kernel, rfl⟩
set_option maxRecDepth 100000 in
theorem ii_ig_bitCount_45 : sm_D prog_10_method_49_code 45 1 46 (.iushr) := ⟨by decide +kernel, rfl⟩
set_option maxRecDepth 100000 in
theorem ii_ig_bitCount_46 : sm_D prog_10_method_49_code 46 1 47 (.iadd) := ⟨by decide +kernel, rfl⟩
set_option maxRecDepth 100000 in
theorem ii_ig_bitCount_47 : sm_D prog_10_method_49_code 47 1 48 (.istore_n 0) := ⟨by decide +kernel, rfl⟩
set_option maxRecDepth 100000 in
theorem ii_ig_bitCount_48 : sm_D prog_10_method_49_code 48 1 49 (.iload_n 0) := ⟨by decide +kernel, rfl⟩
set_option maxRecDepth 100000 in
theorem ii_ig_bitCount_49 : sm_D prog_10_method_49_code 49 2 51 (.bipush 63) := ⟨by decide +kernel, rfl⟩
set_option maxRecDepth 100000 in
theorem ii_ig_bitCount_51 : sm_D prog_10_method_49_code 51 1 52 (.iand) := ⟨by decide +kernel, rfl⟩
set_option maxRecDepth 100000 in
theorem ii_ig_bitCount_52 : sm_D prog_10_method_49_code 52 1 53 (.ireturn) := ⟨by decide +kernel, rfl⟩
noncomputable def ff_ig_bitCount  (a0 : Int32) (w : sm_Mem) : sm_R := (some (.int ((((((((a0 - (((Int32.toUInt32 a0 >>> (Int32.toUInt32 (1 : Int32) &&& Int32.toUInt32 31)).toInt32) &&& (1431655765 : Int32))) &&& (858993459 : Int32)) + (((Int32.toUInt32 (a0 - (((Int32.toUInt32 a0 >>> (Int32.toUInt32 (1 : Int32) &&& Int32.toUInt32 31)).toInt32) &&& (1431655765 : Int32))) >>> (Int32.toUInt32 (2 : Int32) &&& Int32.toUInt32 31)).toInt32) &&& (858993459 : Int32))) + ((Int32.toUInt32 (((a0 - (((Int32.toUInt32 a0 >>> (Int32.toUInt32 (1 : Int32) &&& Int32.toUInt32 31)).toInt32) &&& (1431655765 : Int32))) &&& (858993459 : Int32)) + (((Int32.toUInt32 (a0 - (((Int32.toUInt32 a0 >>> (Int32.toUInt32 (1 : Int32) &&& Int32.toUInt32 31)).toInt32) &&& (1431655765 : Int32))) >>> (Int32.toUInt32 (2 : Int32) &&& Int32.toUInt32 31)).toInt32) &&& (858993459 : Int32))) >>> (Int32.toUInt32 (4 : Int32) &&& Int32.toUInt32 31)).toInt32)) &&& (252645135 : Int32)) + ((Int32.toUInt32 (((((a0 - (((Int32.toUInt32 a0 >>> (Int32.toUInt32 (1 : Int32) &&& Int32.toUInt32 31)).toInt32) &&& (1431655765 : Int32))) &&& (858993459 : Int32)) + (((Int32.toUInt32 (a0 - (((Int32.toUInt32 a0 >>> (Int32.toUInt32 (1 : Int32) &&& Int32.toUInt32 31)).toInt32) &&& (1431655765 : Int32))) >>> (Int32.toUInt32 (2 : Int32) &&& Int32.toUInt32 31)).toInt32) &&& (858993459 : Int32))) + ((Int32.toUInt32 (((a0 - (((Int32.toUInt32 a0 >>> (Int32.toUInt32 (1 : Int32) &&& Int32.toUInt32 31)).toInt32) &&& (1431655765 : Int32))) &&& (858993459 : Int32)) + (((Int32.toUInt32 (a0 - (((Int32.toUInt32 a0 >>> (Int32.toUInt32 (1 : Int32) &&& Int32.toUInt32 31)).toInt32) &&& (1431655765 : Int32))) >>> (Int32.toUInt32 (2 : Int32) &&& Int32.toUInt32 31)).toInt32) &&& (858993459 : Int32))) >>> (Int32.toUInt32 (4 : Int32) &&& Int32.toUInt32 31)).toInt32)) &&& (252645135 : Int32)) >>> (Int32.toUInt32 (8 : Int32) &&& Int32.toUInt32 31)).toInt32)) + ((Int32.toUInt32 ((((((a0 - (((Int32.toUInt32 a0 >>> (Int32.toUInt32 (1 : Int32) &&& Int32.toUInt32 31)).toInt32) &&& (1431655765 : Int32))) &&& (858993459 : Int32)) + (((Int32.toUInt32 (a0 - (((Int32.toUInt32 a0 >>> (Int32.toUInt32 (1 : Int32) &&& Int32.toUInt32 31)).toInt32) &&& (1431655765 : Int32))) >>> (Int32.toUInt32 (2 : Int32) &&& Int32.toUInt32 31)).toInt32) &&& (858993459 : Int32))) + ((Int32.toUInt32 (((a0 - (((Int32.toUInt32 a0 >>> (Int32.toUInt32 (1 : Int32) &&& Int32.toUInt32 31)).toInt32) &&& (1431655765 : Int32))) &&& (858993459 : Int32)) + (((Int32.toUInt32 (a0 - (((Int32.toUInt32 a0 >>> (Int32.toUInt32 (1 : Int32) &&& Int32.toUInt32 31)).toInt32) &&& (1431655765 : Int32))) >>> (Int32.toUInt32 (2 : Int32) &&& Int32.toUInt32 31)).toInt32) &&& (858993459 : Int32))) >>> (Int32.toUInt32 (4 : Int32) &&& Int32.toUInt32 31)).toInt32)) &&& (252645135 : Int32)) + ((Int32.toUInt32 (((((a0 - (((Int32.toUInt32 a0 >>> (Int32.toUInt32 (1 : Int32) &&& Int32.toUInt32 31)).toInt32) &&& (1431655765 : Int32))) &&& (858993459 : Int32)) + (((Int32.toUInt32 (a0 - (((Int32.toUInt32 a0 >>> (Int32.toUInt32 (1 : Int32) &&& Int32.toUInt32 31)).toInt32) &&& (1431655765 : Int32))) >>> (Int32.toUInt32 (2 : Int32) &&& Int32.toUInt32 31)).toInt32) &&& (858993459 : Int32))) + ((Int32.toUInt32 (((a0 - (((Int32.toUInt32 a0 >>> (Int32.toUInt32 (1 : Int32) &&& Int32.toUInt32 31)).toInt32) &&& (1431655765 : Int32))) &&& (858993459 : Int32)) + (((Int32.toUInt32 (a0 - (((Int32.toUInt32 a0 >>> (Int32.toUInt32 (1 : Int32) &&& Int32.toUInt32 31)).toInt32) &&& (1431655765 : Int32))) >>> (Int32.toUInt32 (2 : Int32) &&& Int32.toUInt32 31)).toInt32) &&& (858993459 : Int32))) >>> (Int32.toUInt32 (4 : Int32) &&& Int32.toUInt32 31)).toInt32)) &&& (252645135 : Int32)) >>> (Int32.toUInt32 (8 : Int32) &&& Int32.toUInt32 31)).toInt32)) >>> (Int32.toUInt32 (16 : Int32) &&& Int32.toUInt32 31)).toInt32)) &&& (63 : Int32)), w))
set_option maxHeartbeats 4000000 in
set_option maxRecDepth 100000 in
theorem ss_ig_bitCount_0 {E : Nat × (Nat → Int32)}  (a0 : Int32) (w : sm_Mem) : sm_Sim E (mi_ig_bitCount) 0 [some (.int a0)] [] w (ff_ig_bitCount  a0 w) := by
  unfold ff_ig_bitCount
  refine sm_iload_n ii_ig_bitCount_0 rfl ?_
  refine sm_iload_n ii_ig_bitCount_1 rfl ?_
  refine sm_iconst (1 : Int32) ii_ig_bitCount_2 (by decide) ?_
  refine sm_iushr ii_ig_bitCount_3 ?_
  refine sm_ldcw (1431655765 : Int32) ii_ig_bitCount_4 (List.mem_of_getElem? (i := 554) (by decide +kernel)) ?_
  refine sm_iand ii_ig_bitCount_7 ?_
  refine sm_isub ii_ig_bitCount_8 ?_
  refine sm_istore_n [some (.int (a0 - (((Int32.toUInt32 a0 >>> (Int32.toUInt32 (1 : Int32) &&& Int32.toUInt32 31)).toInt32) &&& (1431655765 : Int32))))] ii_ig_bitCount_9 rfl rfl ?_
  refine sm_iload_n ii_ig_bitCount_10 rfl ?_
  refine sm_ldcw (858993459 : Int32) ii_ig_bitCount_11 (List.mem_of_getElem? (i := 555) (by decide +kernel)) ?_
  refine sm_iand ii_ig_bitCount_14 ?_
  refine sm_iload_n ii_ig_bitCount_15 rfl ?_
  refine sm_iconst (2 : Int32) ii_ig_bitCount_16 (by decide) ?_
  refine sm_iushr ii_ig_bitCount_17 ?_
  refine sm_ldcw (858993459 : Int32) ii_ig_bitCount_18 (List.mem_of_getElem? (i := 555) (by decide +kernel)) ?_
  refine sm_iand ii_ig_bitCount_21 ?_
  refine sm_iadd ii_ig_bitCount_22 ?_
  refine sm_istore_n [some (.int (((a0 - (((Int32.toUInt32 a0 >>> (Int32.toUInt32 (1 : Int32) &&& Int32.toUInt32 31)).toInt32) &&& (1431655765 : Int32))) &&& (858993459 : Int32)) + (((Int32.toUInt32 (a0 - (((Int32.toUInt32 a0 >>> (Int32.toUInt32 (1 : Int32) &&& Int32.toUInt32 31)).toInt32) &&& (1431655765 : Int32))) >>> (Int32.toUInt32 (2 : Int32) &&& Int32.toUInt32 31)).toInt32) &&& (858993459 : Int32))))] ii_ig_bitCount_23 rfl rfl ?_
  refine sm_iload_n ii_ig_bitCount_24 rfl ?_
  refine sm_iload_n ii_ig_bitCount_25 rfl ?_
  refine sm_iconst (4 : Int32) ii_ig_bitCount_26 (by decide) ?_
  refine sm_iushr ii_ig_bitCount_27 ?_
  refine sm_iadd ii_ig_bitCount_28 ?_
  refine sm_ldcw (252645135 : Int32) ii_ig_bitCount_29 (List.mem_of_getElem? (i := 556) (by decide +kernel)) ?_
  refine sm_iand ii_ig_bitCount_32 ?_
  refine sm_istore_n [some (.int (((((a0 - (((Int32.toUInt32 a0 >>> (Int32.toUInt32 (1 : Int32) &&& Int32.toUInt32 31)).toInt32) &&& (1431655765 : Int32))) &&& (858993459 : Int32)) + (((Int32.toUInt32 (a0 - (((Int32.toUInt32 a0 >>> (Int32.toUInt32 (1 : Int32) &&& Int32.toUInt32 31)).toInt32) &&& (1431655765 : Int32))) >>> (Int32.toUInt32 (2 : Int32) &&& Int32.toUInt32 31)).toInt32) &&& (858993459 : Int32))) + ((Int32.toUInt32 (((a0 - (((Int32.toUInt32 a0 >>> (Int32.toUInt32 (1 : Int32) &&& Int32.toUInt32 31)).toInt32) &&& (1431655765 : Int32))) &&& (858993459 : Int32)) + (((Int32.toUInt32 (a0 - (((Int32.toUInt32 a0 >>> (Int32.toUInt32 (1 : Int32) &&& Int32.toUInt32 31)).toInt32) &&& (1431655765 : Int32))) >>> (Int32.toUInt32 (2 : Int32) &&& Int32.toUInt32 31)).toInt32) &&& (858993459 : Int32))) >>> (Int32.toUInt32 (4 : Int32) &&& Int32.toUInt32 31)).toInt32)) &&& (252645135 : Int32)))] ii_ig_bitCount_33 rfl rfl ?_
  refine sm_iload_n ii_ig_bitCount_34 rfl ?_
  refine sm_iload_n ii_ig_bitCount_35 rfl ?_
  refine sm_bipush (8 : Int32) ii_ig_bitCount_36 (by decide) ?_
  refine sm_iushr ii_ig_bitCount_38 ?_
  refine sm_iadd ii_ig_bitCount_39 ?_
  refine sm_istore_n [some (.int ((((((a0 - (((Int32.toUInt32 a0 >>> (Int32.toUInt32 (1 : Int32) &&& Int32.toUInt32 31)).toInt32) &&& (1431655765 : Int32))) &&& (858993459 : Int32)) + (((Int32.toUInt32 (a0 - (((Int32.toUInt32 a0 >>> (Int32.toUInt32 (1 : Int32) &&& Int32.toUInt32 31)).toInt32) &&& (1431655765 : Int32))) >>> (Int32.toUInt32 (2 : Int32) &&& Int32.toUInt32 31)).toInt32) &&& (858993459 : Int32))) + ((Int32.toUInt32 (((a0 - (((Int32.toUInt32 a0 >>> (Int32.toUInt32 (1 : Int32) &&& Int32.toUInt32 31)).toInt32) &&& (1431655765 : Int32))) &&& (858993459 : Int32)) + (((Int32.toUInt32 (a0 - (((Int32.toUInt32 a0 >>> (Int32.toUInt32 (1 : Int32) &&& Int32.toUInt32 31)).toInt32) &&& (1431655765 : Int32))) >>> (Int32.toUInt32 (2 : Int32) &&& Int32.toUInt32 31)).toInt32) &&& (858993459 : Int32))) >>> (Int32.toUInt32 (4 : Int32) &&& Int32.toUInt32 31)).toInt32)) &&& (252645135 : Int32)) + ((Int32.toUInt32 (((((a0 - (((Int32.toUInt32 a0 >>> (Int32.toUInt32 (1 : Int32) &&& Int32.toUInt32 31)).toInt32) &&& (1431655765 : Int32))) &&& (858993459 : Int32)) + (((Int32.toUInt32 (a0 - (((Int32.toUInt32 a0 >>> (Int32.toUInt32 (1 : Int32) &&& Int32.toUInt32 31)).toInt32) &&& (1431655765 : Int32))) >>> (Int32.toUInt32 (2 : Int32) &&& Int32.toUInt32 31)).toInt32) &&& (858993459 : Int32))) + ((Int32.toUInt32 (((a0 - (((Int32.toUInt32 a0 >>> (Int32.toUInt32 (1 : Int32) &&& Int32.toUInt32 31)).toInt32) &&& (1431655765 : Int32))) &&& (858993459 : Int32)) + (((Int32.toUInt32 (a0 - (((Int32.toUInt32 a0 >>> (Int32.toUInt32 (1 : Int32) &&& Int32.toUInt32 31)).toInt32) &&& (1431655765 : Int32))) >>> (Int32.toUInt32 (2 : Int32) &&& Int32.toUInt32 31)).toInt32) &&& (858993459 : Int32))) >>> (Int32.toUInt32 (4 : Int32) &&& Int32.toUInt32 31)).toInt32)) &&& (252645135 : Int32)) >>> (Int32.toUInt32 (8 : Int32) &&& Int32.toUInt32 31)).toInt32)))] ii_ig_bitCount_40 rfl rfl ?_
  refine sm_iload_n ii_ig_bitCount_41 rfl ?_
  refine sm_iload_n ii_ig_bitCount_42 rfl ?_
  refine sm_bipush (16 : Int32) ii_ig_bitCount_43 (by decide) ?_
  refine sm_iushr ii_ig_bitCount_45 ?_
  refine sm_iadd ii_ig_bitCount_46 ?_
  refine sm_istore_n [some (.int (((((((a0 - (((Int32.toUInt32 a0 >>> (Int32.toUInt32 (1 : Int32) &&& Int32.toUInt32 31)).toInt32) &&& (1431655765 : Int32))) &&& (858993459 : Int32)) + (((Int32.toUInt32 (a0 - (((Int32.toUInt32 a0 >>> (Int32.toUInt32 (1 : Int32) &&& Int32.toUInt32 31)).toInt32) &&& (1431655765 : Int32))) >>> (Int32.toUInt32 (2 : Int32) &&& Int32.toUInt32 31)).toInt32) &&& (858993459 : Int32))) + ((Int32.toUInt32 (((a0 - (((Int32.toUInt32 a0 >>> (Int32.toUInt32 (1 : Int32) &&& Int32.toUInt32 31)).toInt32) &&& (1431655765 : Int32))) &&& (858993459 : Int32)) + (((Int32.toUInt32 (a0 - (((Int32.toUInt32 a0 >>> (Int32.toUInt32 (1 : Int32) &&& Int32.toUInt32 31)).toInt32) &&& (1431655765 : Int32))) >>> (Int32.toUInt32 (2 : Int32) &&& Int32.toUInt32 31)).toInt32) &&& (858993459 : Int32))) >>> (Int32.toUInt32 (4 : Int32) &&& Int32.toUInt32 31)).toInt32)) &&& (252645135 : Int32)) + ((Int32.toUInt32 (((((a0 - (((Int32.toUInt32 a0 >>> (Int32.toUInt32 (1 : Int32) &&& Int32.toUInt32 31)).toInt32) &&& (1431655765 : Int32))) &&& (858993459 : Int32)) + (((Int32.toUInt32 (a0 - (((Int32.toUInt32 a0 >>> (Int32.toUInt32 (1 : Int32) &&& Int32.toUInt32 31)).toInt32) &&& (1431655765 : Int32))) >>> (Int32.toUInt32 (2 : Int32) &&& Int32.toUInt32 31)).toInt32) &&& (858993459 : Int32))) + ((Int32.toUInt32 (((a0 - (((Int32.toUInt32 a0 >>> (Int32.toUInt32 (1 : Int32) &&& Int32.toUInt32 31)).toInt32) &&& (1431655765 : Int32))) &&& (858993459 : Int32)) + (((Int32.toUInt32 (a0 - (((Int32.toUInt32 a0 >>> (Int32.toUInt32 (1 : Int32) &&& Int32.toUInt32 31)).toInt32) &&& (1431655765 : Int32))) >>> (Int32.toUInt32 (2 : Int32) &&& Int32.toUInt32 31)).toInt32) &&& (858993459 : Int32))) >>> (Int32.toUInt32 (4 : Int32) &&& Int32.toUInt32 31)).toInt32)) &&& (252645135 : Int32)) >>> (Int32.toUInt32 (8 : Int32) &&& Int32.toUInt32 31)).toInt32)) + ((Int32.toUInt32 ((((((a0 - (((Int32.toUInt32 a0 >>> (Int32.toUInt32 (1 : Int32) &&& Int32.toUInt32 31)).toInt32) &&& (1431655765 : Int32))) &&& (858993459 : Int32)) + (((Int32.toUInt32 (a0 - (((Int32.toUInt32 a0 >>> (Int32.toUInt32 (1 : Int32) &&& Int32.toUInt32 31)).toInt32) &&& (1431655765 : Int32))) >>> (Int32.toUInt32 (2 : Int32) &&& Int32.toUInt32 31)).toInt32) &&& (858993459 : Int32))) + ((Int32.toUInt32 (((a0 - (((Int32.toUInt32 a0 >>> (Int32.toUInt32 (1 : Int32) &&& Int32.toUInt32 31)).toInt32) &&& (1431655765 : Int32))) &&& (858993459 : Int32)) + (((Int32.toUInt32 (a0 - (((Int32.toUInt32 a0 >>> (Int32.toUInt32 (1 : Int32) &&& Int32.toUInt32 31)).toInt32) &&& (1431655765 : Int32))) >>> (Int32.toUInt32 (2 : Int32) &&& Int32.toUInt32 31)).toInt32) &&& (858993459 : Int32))) >>> (Int32.toUInt32 (4 : Int32) &&& Int32.toUInt32 31)).toInt32)) &&& (252645135 : Int32)) + ((Int32.toUInt32 (((((a0 - (((Int32.toUInt32 a0 >>> (Int32.toUInt32 (1 : Int32) &&& Int32.toUInt32 31)).toInt32) &&& (1431655765 : Int32))) &&& (858993459 : Int32)) + (((Int32.toUInt32 (a0 - (((Int32.toUInt32 a0 >>> (Int32.toUInt32 (1 : Int32) &&& Int32.toUInt32 31)).toInt32) &&& (1431655765 : Int32))) >>> (Int32.toUInt32 (2 : Int32) &&& Int32.toUInt32 31)).toInt32) &&& (858993459 : Int32))) + ((Int32.toUInt32 (((a0 - (((Int32.toUInt32 a0 >>> (Int32.toUInt32 (1 : Int32) &&& Int32.toUInt32 31)).toInt32) &&& (1431655765 : Int32))) &&& (858993459 : Int32)) + (((Int32.toUInt32 (a0 - (((Int32.toUInt32 a0 >>> (Int32.toUInt32 (1 : Int32) &&& Int32.toUInt32 31)).toInt32) &&& (1431655765 : Int32))) >>> (Int32.toUInt32 (2 : Int32) &&& Int32.toUInt32 31)).toInt32) &&& (858993459 : Int32))) >>> (Int32.toUInt32 (4 : Int32) &&& Int32.toUInt32 31)).toInt32)) &&& (252645135 : Int32)) >>> (Int32.toUInt32 (8 : Int32) &&& Int32.toUInt32 31)).toInt32)) >>> (Int32.toUInt32 (16 : Int32) &&& Int32.toUInt32 31)).toInt32)))] ii_ig_bitCount_47 rfl rfl ?_
  refine sm_iload_n ii_ig_bitCount_48 rfl ?_
  refine sm_bipush (63 : Int32) ii_ig_bitCount_49 (by decide) ?_
  refine sm_iand ii_ig_bitCount_51 ?_
  exact sm_iret ii_ig_bitCount_52 rfl
set_option maxHeartbeats 4000000 in
set_option maxRecDepth 100000 in
theorem mc_ig_bitCount (a0 : Int32) (w : sm_Mem) : sm_MC mi_ig_bitCount [.int a0] w (ff_ig_bitCount a0 w) := sm_MC_of (0, fun _ => 0) (by decide +kernel) (by decide) rfl (Nat.le_of_ble_eq_true rfl) (ss_ig_bitCount_0 a0 w)
abbrev mi_hs_othersInRoom : sm_MI := (⟨"HerOrders$House", "othersInRoom", "(I)I"⟩, prog_3_method_22_code, 4, (some .int), 1)
set_option maxRecDepth 100000 in
theorem mf_hs_othersInRoom : sm_MF mi_hs_othersInRoom 1 := ⟨List.mem_of_getElem? (i := 560) (by decide +kernel), List.mem_of_getElem? (i := 128) (by decide +kernel), ⟨by decide, by decide⟩, by decide +kernel⟩
set_option maxRecDepth 100000 in
theorem mv_hs_othersInRoom : sm_MFV mi_hs_othersInRoom := ⟨List.mem_of_getElem? (i := 559) (by decide +kernel), List.mem_of_getElem? (i := 22) (by decide +kernel)⟩
set_option maxRecDepth 100000 in
theorem ii_hs_othersInRoom_0 : sm_D prog_3_method_22_code 0 1 1 (.iconst 0) := ⟨by decide +kernel, rfl⟩
set_option maxRecDepth 100000 in
theorem ii_hs_othersInRoom_1 : sm_D prog_3_method_22_code 1 1 2 (.istore_n 2) := ⟨by decide +kernel, rfl⟩
set_option maxRecDepth 100000 in
theorem ii_hs_othersInRoom_2 : sm_D prog_3_method_22_code 2 1 3 (.iconst 0) := ⟨by decide +kernel, rfl⟩
set_option maxRecDepth 100000 in
theorem ii_hs_othersInRoom_3 : sm_D prog_3_method_22_code 3 1 4 (.istore_n 3) := ⟨by decide +kernel, rfl⟩
set_option maxRecDepth 100000 in
theorem ii_hs_othersInRoom_4 : sm_D prog_3_method_22_code 4 1 5 (.iload_n 3) := ⟨by decide +kernel, rfl⟩
set_option maxRecDepth 100000 in
theorem ii_hs_othersInRoom_5 : sm_D prog_3_method_22_code 5 1 6 (.aload_n 0) := ⟨by decide +kernel, rfl⟩
set_option maxRecDepth 100000 in
theorem ii_hs_othersInRoom_6 : sm_D prog_3_method_22_code 6 3 9 (.getfield 45) := ⟨by decide +kernel, rfl⟩
set_option maxRecDepth 100000 in
theorem ii_hs_othersInRoom_9 : sm_D prog_3_method_22_code 9 3 12 (.if_icmp .ge 32) := ⟨by decide +kernel, rfl⟩
set_option maxRecDepth 100000 in
theorem ii_hs_othersInRoom_12 : sm_D prog_3_method_22_code 12 1 13 (.iload_n 3) := ⟨by decide +kernel, rfl⟩
set_option maxRecDepth 100000 in
theorem ii_hs_othersInRoom_13 : sm_D prog_3_method_22_code 13 1 14 (.iload_n 1) := ⟨by decide +kernel, rfl⟩
set_option maxRecDepth 100000 in
theorem ii_hs_othersInRoom_14 : sm_D prog_3_method_22_code 14 3 17 (.if_icmp .eq 21) := ⟨by decide +kernel, rfl⟩
set_option maxRecDepth 100000 in
theorem ii_hs_othersInRoom_17 : sm_D prog_3_method_22_code 17 1 18 (.aload_n 0) := ⟨by decide +kernel, rfl⟩
set_option maxRecDepth 100000 in
theorem ii_hs_othersInRoom_18 : sm_D prog_3_method_22_code 18 3 21 (.getfield 24) := ⟨by decide +kernel, rfl⟩
set_option maxRecDepth 100000 in
theorem ii_hs_othersInRoom_21 : sm_D prog_3_method_22_code 21 1 22 (.iload_n 3) := ⟨by decide +kernel, rfl⟩
set_option maxRecDepth 100000 in
theorem ii_hs_othersInRoom_22 : sm_D prog_3_method_22_code 22 1 23 (.iaload) := ⟨by decide +kernel, rfl⟩
set_option maxRecDepth 100000 in
theorem ii_hs_othersInRoom_23 : sm_D prog_3_method_22_code 23 1 24 (.aload_n 0) := ⟨by decide +kernel, rfl⟩
set_option maxRecDepth 100000 in
theorem ii_hs_othersInRoom_24 : sm_D prog_3_method_22_code 24 3 27 (.getfield 24) := ⟨by decide +kernel, rfl⟩
set_option maxRecDepth 100000 in
theorem ii_hs_othersInRoom_27 : sm_D prog_3_method_22_code 27 1 28 (.iload_n 1) := ⟨by decide +kernel, rfl⟩
set_option maxRecDepth 100000 in
theorem ii_hs_othersInRoom_28 : sm_D prog_3_method_22_code 28 1 29 (.iaload) := ⟨by decide +kernel, rfl⟩
set_option maxRecDepth 100000 in
theorem ii_hs_othersInRoom_29 : sm_D prog_3_method_22_code 29 3 32 (.if_icmp .ne 6) := ⟨by decide +kernel, rfl⟩
set_option maxRecDepth 100000 in
theorem ii_hs_othersInRoom_32 : sm_D prog_3_method_22_code 32 3 35 (.iinc 2 1) := ⟨by decide +kernel, rfl⟩
set_option maxRecDepth 100000 in
theorem ii_hs_othersInRoom_35 : sm_D prog_3_method_22_code 35 3 38 (.iinc 3 1) := ⟨by decide +kernel, rfl⟩
set_option maxRecDepth 100000 in
theorem ii_hs_othersInRoom_38 : sm_D prog_3_method_22_code 38 3 41 (.goto (-34)) := ⟨by decide +kernel, rfl⟩
set_option maxRecDepth 100000 in
theorem ii_hs_othersInRoom_41 : sm_D prog_3_method_22_code 41 1 42 (.iload_n 2) := ⟨by decide +kernel, rfl⟩
set_option maxRecDepth 100000 in
theorem ii_hs_othersInRoom_42 : sm_D prog_3_method_22_code 42 1 43 (.ireturn) := ⟨by decide +kernel, rfl⟩
noncomputable def ff_hs_othersInRoom_4_b  (self4 : Int32 → Int32 → Int32 → sm_Mem → sm_R) (a1 : Int32) (a2 : Int32) (a3 : Int32) (w : sm_Mem) : sm_R := (if (w.1 36 0) ≤ a3 then (some (.int a2, w)) else (if a3 = a1 then self4 (a1) (a2) ((a3 + (1 : Int32))) w else (Option.bind (sm_rd w 41 6 a3) fun x1 => (Option.bind (sm_rd w 41 6 a1) fun x2 => (if x1 = x2 then self4 (a1) ((a2 + (1 : Int32))) ((a3 + (1 : Int32))) w else self4 (a1) (a2) ((a3 + (1 : Int32))) w)))))
noncomputable def ff_hs_othersInRoom_4_f  : Nat → Int32 → Int32 → Int32 → sm_Mem → sm_R
  | 0, _, _, _, _ => none
  | n + 1, a1, a2, a3, w => ff_hs_othersInRoom_4_b  (ff_hs_othersInRoom_4_f  n) a1 a2 a3 w
noncomputable def ff_hs_othersInRoom_4  (a1 : Int32) (a2 : Int32) (a3 : Int32) (w : sm_Mem) : sm_R := ff_hs_othersInRoom_4_f  sm_N a1 a2 a3 w
set_option maxHeartbeats 4000000 in
set_option maxRecDepth 100000 in
theorem ss_hs_othersInRoom_4_b {E : Nat × (Nat → Int32)}  (self4 : Int32 → Int32 → Int32 → sm_Mem → sm_R) (hself4 : ∀ (a1 : Int32) (a2 : Int32) (a3 : Int32) (w : sm_Mem), sm_Sim E (mi_hs_othersInRoom) 4 [some (.ref 36), some (.int a1), some (.int a2), some (.int a3)] [] w (self4 a1 a2 a3 w)) (a1 : Int32) (a2 : Int32) (a3 : Int32) (w : sm_Mem) : sm_Sim E (mi_hs_othersInRoom) 4 [some (.ref 36), some (.int a1), some (.int a2), some (.int a3)] [] w (ff_hs_othersInRoom_4_b  self4 a1 a2 a3 w) := by
  unfold ff_hs_othersInRoom_4_b
  refine sm_iload_n ii_hs_othersInRoom_4 rfl ?_
  refine sm_aload_n ii_hs_othersInRoom_5 rfl ?_
  refine sm_getI ii_hs_othersInRoom_6 fl_hs_45 (k := 36) rfl ?_
  refine sm_icmp_ge 41 ii_hs_othersInRoom_9 (by decide) ?_ ?_
  · refine sm_iload_n ii_hs_othersInRoom_41 rfl ?_
    exact sm_iret ii_hs_othersInRoom_42 rfl
  · refine sm_iload_n ii_hs_othersInRoom_12 rfl ?_
    refine sm_iload_n ii_hs_othersInRoom_13 rfl ?_
    refine sm_icmp_eq 35 ii_hs_othersInRoom_14 (by decide) ?_ ?_
    · refine sm_iinc (a3 + (1 : Int32)) [some (.ref 36), some (.int a1), some (.int a2), some (.int (a3 + (1 : Int32)))] ii_hs_othersInRoom_35 rfl rfl rfl rfl ?_
      refine sm_goto 4 ii_hs_othersInRoom_38 (by decide) ?_
      exact hself4 (a1) (a2) ((a3 + (1 : Int32))) w
    · refine sm_aload_n ii_hs_othersInRoom_17 rfl ?_
      refine sm_getR 41 ii_hs_othersInRoom_18 fl_hs_24 (k := 36) rfl ?_
      refine sm_iload_n ii_hs_othersInRoom_21 rfl ?_
      refine sm_iald ii_hs_othersInRoom_22 (k := 41) rfl (fun x1 => ?_)
      refine sm_aload_n ii_hs_othersInRoom_23 rfl ?_
      refine sm_getR 41 ii_hs_othersInRoom_24 fl_hs_24 (k := 36) rfl ?_
      refine sm_iload_n ii_hs_othersInRoom_27 rfl ?_
      refine sm_iald ii_hs_othersInRoom_28 (k := 41) rfl (fun x2 => ?_)
      refine sm_icmp_ne 35 ii_hs_othersInRoom_29 (by decide) ?_ ?_
      · refine sm_iinc (a2 + (1 : Int32)) [some (.ref 36), some (.int a1), some (.int (a2 + (1 : Int32))), some (.int a3)] ii_hs_othersInRoom_32 rfl rfl rfl rfl ?_
        refine sm_iinc (a3 + (1 : Int32)) [some (.ref 36), some (.int a1), some (.int (a2 + (1 : Int32))), some (.int (a3 + (1 : Int32)))] ii_hs_othersInRoom_35 rfl rfl rfl rfl ?_
        refine sm_goto 4 ii_hs_othersInRoom_38 (by decide) ?_
        exact hself4 (a1) ((a2 + (1 : Int32))) ((a3 + (1 : Int32))) w
      · refine sm_iinc (a3 + (1 : Int32)) [some (.ref 36), some (.int a1), some (.int a2), some (.int (a3 + (1 : Int32)))] ii_hs_othersInRoom_35 rfl rfl rfl rfl ?_
        refine sm_goto 4 ii_hs_othersInRoom_38 (by decide) ?_
        exact hself4 (a1) (a2) ((a3 + (1 : Int32))) w
set_option maxHeartbeats 4000000 in
set_option maxRecDepth 100000 in
theorem ss_hs_othersInRoom_4_f {E : Nat × (Nat → Int32)}  : ∀ (n : Nat) (a1 : Int32) (a2 : Int32) (a3 : Int32) (w : sm_Mem), sm_Sim E (mi_hs_othersInRoom) 4 [some (.ref 36), some (.int a1), some (.int a2), some (.int a3)] [] w (ff_hs_othersInRoom_4_f  n a1 a2 a3 w)
  | 0, _, _, _, _ => fun _ _ h => by cases h
  | n + 1, a1, a2, a3, w => ss_hs_othersInRoom_4_b  _ (ss_hs_othersInRoom_4_f  n) a1 a2 a3 w
set_option maxHeartbeats 4000000 in
set_option maxRecDepth 100000 in
theorem ss_hs_othersInRoom_4 {E : Nat × (Nat → Int32)}  (a1 : Int32) (a2 : Int32) (a3 : Int32) (w : sm_Mem) : sm_Sim E (mi_hs_othersInRoom) 4 [some (.ref 36), some (.int a1), some (.int a2), some (.int a3)] [] w (ff_hs_othersInRoom_4  a1 a2 a3 w) := ss_hs_othersInRoom_4_f  sm_N a1 a2 a3 w
noncomputable def ff_hs_othersInRoom  (a1 : Int32) (w : sm_Mem) : sm_R := ff_hs_othersInRoom_4 (a1) ((0 : Int32)) ((0 : Int32)) w
set_option maxHeartbeats 4000000 in
set_option maxRecDepth 100000 in
theorem ss_hs_othersInRoom_0 {E : Nat × (Nat → Int32)}  (a1 : Int32) (w : sm_Mem) : sm_Sim E (mi_hs_othersInRoom) 0 [some (.ref 36), some (.int a1), none, none] [] w (ff_hs_othersInRoom  a1 w) := by
  unfold ff_hs_othersInRoom
  refine sm_iconst (0 : Int32) ii_hs_othersInRoom_0 (by decide) ?_
  refine sm_istore_n [some (.ref 36), some (.int a1), some (.int (0 : Int32)), none] ii_hs_othersInRoom_1 rfl rfl ?_
  refine sm_iconst (0 : Int32) ii_hs_othersInRoom_2 (by decide) ?_
  refine sm_istore_n [some (.ref 36), some (.int a1), some (.int (0 : Int32)), some (.int (0 : Int32))] ii_hs_othersInRoom_3 rfl rfl ?_
  exact ss_hs_othersInRoom_4 (a1) ((0 : Int32)) ((0 : Int32)) w
set_option maxHeartbeats 4000000 in
set_option maxRecDepth 100000 in
theorem mc_hs_othersInRoom (a1 : Int32) (w : sm_Mem) : sm_MC mi_hs_othersInRoom [.ref 36, .int a1] w (ff_hs_othersInRoom a1 w) := sm_MC_of (0, fun _ => 0) (by decide +kernel) (by decide) rfl (Nat.le_of_ble_eq_true rfl) (ss_hs_othersInRoom_0 a1 w)
abbrev mi_ho_mark : sm_MI := (⟨"HerOrders", "mark", "(II)I"⟩, prog_1_method_13_code, 3, (some .int), 5)
set_option maxRecDepth 100000 in
theorem mf_ho_mark : sm_MF mi_ho_mark 2 := ⟨List.mem_of_getElem? (i := 516) (by decide +kernel), List.mem_of_getElem? (i := 124) (by decide +kernel), ⟨by decide, by decide⟩, by decide +kernel⟩
set_option maxRecDepth 100000 in
theorem mv_ho_mark : sm_MFV mi_ho_mark := ⟨List.mem_of_getElem? (i := 514) (by decide +kernel), List.mem_of_getElem? (i := 515) (by decide +kernel)⟩
set_option maxRecDepth 100000 in
theorem ii_ho_mark_0 : sm_D prog_1_method_13_code 0 1 1 (.aload_n 0) := ⟨by decide +kernel, rfl⟩
set_option maxRecDepth 100000 in
theorem ii_ho_mark_1 : sm_D prog_1_method_13_code 1 1 2 (.iload_n 1) := ⟨by decide +kernel, rfl⟩
set_option maxRecDepth 100000 in
theorem ii_ho_mark_2 : sm_D prog_1_method_13_code 2 3 5 (.invokevirtual 118) := ⟨by decide +kernel, rfl⟩
set_option maxRecDepth 100000 in
theorem ii_ho_mark_5 : sm_D prog_1_method_13_code 5 3 8 (.ifCond .eq 16) := ⟨by decide +kernel, rfl⟩
set_option maxRecDepth 100000 in
theorem ii_ho_mark_8 : sm_D prog_1_method_13_code 8 1 9 (.iload_n 2) := ⟨by decide +kernel, rfl⟩
set_option maxRecDepth 100000 in
theorem ii_ho_mark_9 : sm_D prog_1_method_13_code 9 3 12 (.ifCond .eq 12) := ⟨by decide +kernel, rfl⟩
set_option maxRecDepth 100000 in
theorem ii_ho_mark_12 : sm_D prog_1_method_13_code 12 1 13 (.iload_n 2) := ⟨by decide +kernel, rfl⟩
set_option maxRecDepth 100000 in
theorem ii_ho_mark_13 : sm_D prog_1_method_13_code 13 2 15 (.bipush 6) := ⟨by decide +kernel, rfl⟩
set_option maxRecDepth 100000 in
theorem ii_ho_mark_15 : sm_D prog_1_method_13_code 15 3 18 (.invokestatic 81) := ⟨by decide +kernel, rfl⟩
set_option maxRecDepth 100000 in
theorem ii_ho_mark_18 : sm_D prog_1_method_13_code 18 3 21 (.ifCond .ne 5) := ⟨by decide +kernel, rfl⟩
set_option maxRecDepth 100000 in
theorem ii_ho_mark_21 : sm_D prog_1_method_13_code 21 1 22 (.iconst (-1)) := ⟨by decide +kernel, rfl⟩
set_option maxRecDepth 100000 in
theorem ii_ho_mark_22 : sm_D prog_1_method_13_code 22 1 23 (.ireturn) := ⟨by decide +kernel, rfl⟩
set_option maxRecDepth 100000 in
theorem ii_ho_mark_23 : sm_D prog_1_method_13_code 23 1 24 (.aload_n 0) := ⟨by decide +kernel, rfl⟩
set_option maxRecDepth 100000 in
theorem ii_ho_mark_24 : sm_D prog_1_method_13_code 24 3 27 (.getfield 31) := ⟨by decide +kernel, rfl⟩
set_option maxRecDepth 100000 in
theorem ii_ho_mark_27 : sm_D prog_1_method_13_code 27 3 30 (.getfield 126) := ⟨by decide +kernel, rfl⟩
set_option maxRecDepth 100000 in
theorem ii_ho_mark_30 : sm_D prog_1_method_13_code 30 1 31 (.iload_n 1) := ⟨by decide +kernel, rfl⟩
set_option maxRecDepth 100000 in
theorem ii_ho_mark_31 : sm_D prog_1_method_13_code 31 1 32 (.iaload) := ⟨by decide +kernel, rfl⟩
set_option maxRecDepth 100000 in
theorem ii_ho_mark_32 : sm_D prog_1_method_13_code 32 1 33 (.iload_n 2) := ⟨by decide +kernel, rfl⟩
set_option maxRecDepth 100000 in
theorem ii_ho_mark_33 : sm_D prog_1_method_13_code 33 3 36 (.invokestatic 129) := ⟨by decide +kernel, rfl⟩
set_option maxRecDepth 100000 in
theorem ii_ho_mark_36 : sm_D prog_1_method_13_code 36 3 39 (.ifCond .ne 12) := ⟨by decide +kernel, rfl⟩
set_option maxRecDepth 100000 in
theorem ii_ho_mark_39 : sm_D prog_1_method_13_code 39 1 40 (.aload_n 0) := ⟨by decide +kernel, rfl⟩
set_option maxRecDepth 100000 in
theorem ii_ho_mark_40 : sm_D prog_1_method_13_code 40 3 43 (.getfield 54) := ⟨by decide +kernel, rfl⟩
set_option maxRecDepth 100000 in
theorem ii_ho_mark_43 : sm_D prog_1_method_13_code 43 1 44 (.iconst 3) := ⟨by decide +kernel, rfl⟩
set_option maxRecDepth 100000 in
theorem ii_ho_mark_44 : sm_D prog_1_method_13_code 44 3 47 (.invokevirtual 85) := ⟨by decide +kernel, rfl⟩
set_option maxRecDepth 100000 in
theorem ii_ho_mark_47 : sm_D prog_1_method_13_code 47 1 48 (.ireturn) := ⟨by decide +kernel, rfl⟩
set_option maxRecDepth 100000 in
theorem ii_ho_mark_48 : sm_D prog_1_method_13_code 48 1 49 (.iload_n 2) := ⟨by decide +kernel, rfl⟩
set_option maxRecDepth 100000 in
theorem ii_ho_mark_49 : sm_D prog_1_method_13_code 49 31 80 (.tableswitch 75 1 4 #[31, 40, 50, 59]) := ⟨by decide +kernel, rfl⟩
set_option maxRecDepth 100000 in
theorem ii_ho_mark_80 : sm_D prog_1_method_13_code 80 1 81 (.aload_n 0) := ⟨by decide +kernel, rfl⟩
set_option maxRecDepth 100000 in
theorem ii_ho_mark_81 : sm_D prog_1_method_13_code 81 3 84 (.getfield 31) := ⟨by decide +kernel, rfl⟩
set_option maxRecDepth 100000 in
theorem ii_ho_mark_84 : sm_D prog_1_method_13_code 84 1 85 (.iload_n 1) := ⟨by decide +kernel, rfl⟩
set_option maxRecDepth 100000 in
theorem ii_ho_mark_85 : sm_D prog_1_method_13_code 85 3 88 (.invokevirtual 132) := ⟨by decide +kernel, rfl⟩
set_option maxRecDepth 100000 in
theorem ii_ho_mark_88 : sm_D prog_1_method_13_code 88 1 89 (.ireturn) := ⟨by decide +kernel, rfl⟩
set_option maxRecDepth 100000 in
theorem ii_ho_mark_89 : sm_D prog_1_method_13_code 89 1 90 (.aload_n 0) := ⟨by decide +kernel, rfl⟩
set_option maxRecDepth 100000 in
theorem ii_ho_mark_90 : sm_D prog_1_method_13_code 90 3 93 (.getfield 31) := ⟨by decide +kernel, rfl⟩
set_option maxRecDepth 100000 in
theorem ii_ho_mark_93 : sm_D prog_1_method_13_code 93 3 96 (.getfield 135) := ⟨by decide +kernel, rfl⟩
set_option maxRecDepth 100000 in
theorem ii_ho_mark_96 : sm_D prog_1_method_13_code 96 1 97 (.iconst 2) := ⟨by decide +kernel, rfl⟩
set_option maxRecDepth 100000 in
theorem ii_ho_mark_97 : sm_D prog_1_method_13_code 97 1 98 (.irem) := ⟨by decide +kernel, rfl⟩
set_option maxRecDepth 100000 in
theorem ii_ho_mark_98 : sm_D prog_1_method_13_code 98 1 99 (.ireturn) := ⟨by decide +kernel, rfl⟩
set_option maxRecDepth 100000 in
theorem ii_ho_mark_99 : sm_D prog_1_method_13_code 99 1 100 (.aload_n 0) := ⟨by decide +kernel, rfl⟩
set_option maxRecDepth 100000 in
theorem ii_ho_mark_100 : sm_D prog_1_method_13_code 100 3 103 (.getfield 31) := ⟨by decide +kernel, rfl⟩
set_option maxRecDepth 100000 in
theorem ii_ho_mark_103 : sm_D prog_1_method_13_code 103 1 104 (.iload_n 1) := ⟨by decide +kernel, rfl⟩
set_option maxRecDepth 100000 in
theorem ii_ho_mark_104 : sm_D prog_1_method_13_code 104 3 107 (.invokevirtual 138) := ⟨by decide +kernel, rfl⟩
set_option maxRecDepth 100000 in
theorem ii_ho_mark_107 : sm_D prog_1_method_13_code 107 1 108 (.ireturn) := ⟨by decide +kernel, rfl⟩
set_option maxRecDepth 100000 in
theorem ii_ho_mark_108 : sm_D prog_1_method_13_code 108 1 109 (.aload_n 0) := ⟨by decide +kernel, rfl⟩
set_option maxRecDepth 100000 in
theorem ii_ho_mark_109 : sm_D prog_1_method_13_code 109 3 112 (.getfield 31) := ⟨by decide +kernel, rfl⟩
set_option maxRecDepth 100000 in
theorem ii_ho_mark_112 : sm_D prog_1_method_13_code 112 3 115 (.getfield 141) := ⟨by decide +kernel, rfl⟩
set_option maxRecDepth 100000 in
theorem ii_ho_mark_115 : sm_D prog_1_method_13_code 115 1 116 (.iload_n 1) := ⟨by decide +kernel, rfl⟩
set_option maxRecDepth 100000 in
theorem ii_ho_mark_116 : sm_D prog_1_method_13_code 116 1 117 (.iaload) := ⟨by decide +kernel, rfl⟩
set_option maxRecDepth 100000 in
theorem ii_ho_mark_117 : sm_D prog_1_method_13_code 117 2 119 (.bipush 21) := ⟨by decide +kernel, rfl⟩
set_option maxRecDepth 100000 in
theorem ii_ho_mark_119 : sm_D prog_1_method_13_code 119 1 120 (.iand) := ⟨by decide +kernel, rfl⟩
set_option maxRecDepth 100000 in
theorem ii_ho_mark_120 : sm_D prog_1_method_13_code 120 3 123 (.invokestatic 144) := ⟨by decide +kernel, rfl⟩
set_option maxRecDepth 100000 in
theorem ii_ho_mark_123 : sm_D prog_1_method_13_code 123 1 124 (.ireturn) := ⟨by decide +kernel, rfl⟩
set_option maxRecDepth 100000 in
theorem ii_ho_mark_124 : sm_D prog_1_method_13_code 124 1 125 (.aload_n 0) := ⟨by decide +kernel, rfl⟩
set_option maxRecDepth 100000 in
theorem ii_ho_mark_125 : sm_D prog_1_method_13_code 125 3 128 (.getfield 31) := ⟨by decide +kernel, rfl⟩
set_option maxRecDepth 100000 in
theorem ii_ho_mark_128 : sm_D prog_1_method_13_code 128 1 129 (.iload_n 1) := ⟨by decide +kernel, rfl⟩
set_option maxRecDepth 100000 in
theorem ii_ho_mark_129 : sm_D prog_1_method_13_code 129 3 132 (.invokevirtual 149) := ⟨by decide +kernel, rfl⟩
set_option maxRecDepth 100000 in
theorem ii_ho_mark_132 : sm_D prog_1_method_13_code 132 1 133 (.ireturn) := ⟨by decide +kernel, rfl⟩
noncomputable def ff_ho_mark  (a1 : Int32) (a2 : Int32) (w : sm_Mem) : sm_R := (sm_cI (ff_ho_isSpeaker (a1) w) fun x1 w2 => (if x1 = (0 : Int32) then (some (.int (-1 : Int32), w2)) else (if a2 = (0 : Int32) then (some (.int (-1 : Int32), w2)) else (sm_cI (ff_ho_isWithin (a2) ((6 : Int32)) w2) fun x3 w4 => (if x3 = (0 : Int32) then (some (.int (-1 : Int32), w4)) else (Option.bind (sm_rd w4 37 6 a1) fun x5 => (sm_cI (ff_ho_isOf (x5) (a2) w4) fun x6 w7 => (if x6 = (0 : Int32) then (sm_cI (ff_td_refuse ((3 : Int32)) w7) fun x18 w19 => (some (.int x18, w19))) else (sm_sw a2 (1) [((sm_cI (ff_hs_echoesOf (a1) w7) fun x8 w9 => (some (.int x8, w9)))), ((if (2 : Int32) = (0 : Int32) then none else (some (.int ((w7.1 36 7) - (w7.1 36 7) / (2 : Int32) * (2 : Int32)), w7)))), ((sm_cI (ff_hs_othersWhoCan (a1) w7) fun x11 w12 => (some (.int x11, w12)))), ((Option.bind (sm_rd w7 38 6 a1) fun x13 => (sm_cI (ff_ig_bitCount ((x13 &&& (21 : Int32))) w7) fun x14 w15 => (some (.int x14, w15)))))] ((sm_cI (ff_hs_othersInRoom (a1) w7) fun x16 w17 => (some (.int x16, w17)))))))))))))
set_option maxHeartbeats 4000000 in
set_option maxRecDepth 100000 in
theorem ss_ho_mark_0 {E : Nat × (Nat → Int32)}  (a1 : Int32) (a2 : Int32) (w : sm_Mem) : sm_Sim E (mi_ho_mark) 0 [some (.ref 0), some (.int a1), some (.int a2)] [] w (ff_ho_mark  a1 a2 w) := by
  unfold ff_ho_mark
  refine sm_aload_n ii_ho_mark_0 rfl ?_
  refine sm_iload_n ii_ho_mark_1 rfl ?_
  refine sm_cvI [.int a1] [] rfl ii_ho_mark_2 ml_ho_118 (mf_ho_isSpeaker) (mv_ho_isSpeaker) (Nat.le_of_ble_eq_true rfl) rfl 6 rfl rfl rfl rfl (mc_ho_isSpeaker (a1) w) (fun x1 w2 => ?_)
  refine sm_if_eq 21 ii_ho_mark_5 (by decide) ?_ ?_
  · refine sm_iconst (-1 : Int32) ii_ho_mark_21 (by decide) ?_
    exact sm_iret ii_ho_mark_22 rfl
  · refine sm_iload_n ii_ho_mark_8 rfl ?_
    refine sm_if_eq 21 ii_ho_mark_9 (by decide) ?_ ?_
    · refine sm_iconst (-1 : Int32) ii_ho_mark_21 (by decide) ?_
      exact sm_iret ii_ho_mark_22 rfl
    · refine sm_iload_n ii_ho_mark_12 rfl ?_
      refine sm_bipush (6 : Int32) ii_ho_mark_13 (by decide) ?_
      refine sm_csI [.int a2, .int (6 : Int32)] [] rfl ii_ho_mark_15 ml_ho_81 (mf_ho_isWithin) (mv_ho_isWithin) (Nat.le_of_ble_eq_true rfl) rfl rfl rfl (mc_ho_isWithin (a2) ((6 : Int32)) w2) (fun x3 w4 => ?_)
      refine sm_if_ne 23 ii_ho_mark_18 (by decide) ?_ ?_
      · refine sm_iconst (-1 : Int32) ii_ho_mark_21 (by decide) ?_
        exact sm_iret ii_ho_mark_22 rfl
      · refine sm_aload_n ii_ho_mark_23 rfl ?_
        refine sm_getR 36 ii_ho_mark_24 fl_ho_31 (k := 0) rfl ?_
        refine sm_getR 37 ii_ho_mark_27 fl_ho_126 (k := 36) rfl ?_
        refine sm_iload_n ii_ho_mark_30 rfl ?_
        refine sm_iald ii_ho_mark_31 (k := 37) rfl (fun x5 => ?_)
        refine sm_iload_n ii_ho_mark_32 rfl ?_
        refine sm_csI [.int x5, .int a2] [] rfl ii_ho_mark_33 ml_ho_129 (mf_ho_isOf) (mv_ho_isOf) (Nat.le_of_ble_eq_true rfl) rfl rfl rfl (mc_ho_isOf (x5) (a2) w4) (fun x6 w7 => ?_)
        refine sm_if_ne 48 ii_ho_mark_36 (by decide) ?_ ?_
        · refine sm_aload_n ii_ho_mark_39 rfl ?_
          refine sm_getR 60 ii_ho_mark_40 fl_ho_54 (k := 0) rfl ?_
          refine sm_iconst (3 : Int32) ii_ho_mark_43 (by decide) ?_
          refine sm_cvI [.int (3 : Int32)] [] rfl ii_ho_mark_44 ml_ho_85 (mf_td_refuse) (mv_td_refuse) (Nat.le_of_ble_eq_true rfl) rfl 3 rfl rfl rfl rfl (mc_td_refuse ((3 : Int32)) w7) (fun x18 w19 => ?_)
          exact sm_iret ii_ho_mark_47 rfl
        · refine sm_iload_n ii_ho_mark_48 rfl ?_
          refine sm_table [80, 89, 99, 108] 124 ii_ho_mark_49 rfl rfl rfl ⟨?_, ?_, ?_, ?_, trivial⟩ ?_
          · refine sm_aload_n ii_ho_mark_80 rfl ?_
            refine sm_getR 36 ii_ho_mark_81 fl_ho_31 (k := 0) rfl ?_
            refine sm_iload_n ii_ho_mark_84 rfl ?_
            refine sm_cvI [.int a1] [] rfl ii_ho_mark_85 ml_ho_132 (mf_hs_echoesOf) (mv_hs_echoesOf) (Nat.le_of_ble_eq_true rfl) rfl 1 rfl rfl rfl rfl (mc_hs_echoesOf (a1) w7) (fun x8 w9 => ?_)
            exact sm_iret ii_ho_mark_88 rfl
          · refine sm_aload_n ii_ho_mark_89 rfl ?_
            refine sm_getR 36 ii_ho_mark_90 fl_ho_31 (k := 0) rfl ?_
            refine sm_getI ii_ho_mark_93 fl_ho_135 (k := 36) rfl ?_
            refine sm_iconst (2 : Int32) ii_ho_mark_96 (by decide) ?_
            refine sm_irem ii_ho_mark_97 ?_
            exact sm_iret ii_ho_mark_98 rfl
          · refine sm_aload_n ii_ho_mark_99 rfl ?_
            refine sm_getR 36 ii_ho_mark_100 fl_ho_31 (k := 0) rfl ?_
            refine sm_iload_n ii_ho_mark_103 rfl ?_
            refine sm_cvI [.int a1] [] rfl ii_ho_mark_104 ml_ho_138 (mf_hs_othersWhoCan) (mv_hs_othersWhoCan) (Nat.le_of_ble_eq_true rfl) rfl 1 rfl rfl rfl rfl (mc_hs_othersWhoCan (a1) w7) (fun x11 w12 => ?_)
            exact sm_iret ii_ho_mark_107 rfl
          · refine sm_aload_n ii_ho_mark_108 rfl ?_
            refine sm_getR 36 ii_ho_mark_109 fl_ho_31 (k := 0) rfl ?_
            refine sm_getR 38 ii_ho_mark_112 fl_ho_141 (k := 36) rfl ?_
            refine sm_iload_n ii_ho_mark_115 rfl ?_
            refine sm_iald ii_ho_mark_116 (k := 38) rfl (fun x13 => ?_)
            refine sm_bipush (21 : Int32) ii_ho_mark_117 (by decide) ?_
            refine sm_iand ii_ho_mark_119 ?_
            refine sm_csI [.int (x13 &&& (21 : Int32))] [] rfl ii_ho_mark_120 ml_ho_144 (mf_ig_bitCount) (mv_ig_bitCount) (Nat.le_of_ble_eq_true rfl) rfl rfl rfl (mc_ig_bitCount ((x13 &&& (21 : Int32))) w7) (fun x14 w15 => ?_)
            exact sm_iret ii_ho_mark_123 rfl
          · refine sm_aload_n ii_ho_mark_124 rfl ?_
            refine sm_getR 36 ii_ho_mark_125 fl_ho_31 (k := 0) rfl ?_
            refine sm_iload_n ii_ho_mark_128 rfl ?_
            refine sm_cvI [.int a1] [] rfl ii_ho_mark_129 ml_ho_149 (mf_hs_othersInRoom) (mv_hs_othersInRoom) (Nat.le_of_ble_eq_true rfl) rfl 1 rfl rfl rfl rfl (mc_hs_othersInRoom (a1) w7) (fun x16 w17 => ?_)
            exact sm_iret ii_ho_mark_132 rfl
set_option maxHeartbeats 4000000 in
set_option maxRecDepth 100000 in
theorem mc_ho_mark (a1 : Int32) (a2 : Int32) (w : sm_Mem) : sm_MC mi_ho_mark [.ref 0, .int a1, .int a2] w (ff_ho_mark a1 a2 w) := sm_MC_of (0, fun _ => 0) (by decide +kernel) (by decide) rfl (Nat.le_of_ble_eq_true rfl) (ss_ho_mark_0 a1 a2 w)
