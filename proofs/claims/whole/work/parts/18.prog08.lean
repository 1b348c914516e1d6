/-! the program, by a program: functions of its methods and that the methods do them -/
set_option maxRecDepth 100000 in
theorem ml_ho_262 : sm_ML "HerOrders" 262 ⟨"HerOrders", "greaterPart", "(IIII)I"⟩ := Or.inl (List.mem_of_getElem? (i := 787) (by decide +kernel))
set_option maxRecDepth 100000 in
theorem ml_ho_266 : sm_ML "HerOrders" 266 ⟨"HerOrders$House", "invite", "(I)V"⟩ := Or.inr ⟨"HerOrders", List.mem_of_getElem? (i := 796) (by decide +kernel)⟩
set_option maxRecDepth 100000 in
theorem ml_ho_269 : sm_ML "HerOrders" 269 ⟨"HerOrders$House", "dismiss", "()V"⟩ := Or.inr ⟨"HerOrders", List.mem_of_getElem? (i := 800) (by decide +kernel)⟩
set_option maxRecDepth 100000 in
theorem fl_ho_272 : sm_FL "HerOrders" 272 5 13 := ⟨RX5, TX5, 14, rfl, by decide, rfl, sm_inX5, Or.inr ⟨"HerOrders", List.mem_of_getElem? (i := 283) (by decide +kernel)⟩⟩
set_option maxRecDepth 100000 in
theorem fp_mo_217 : sm_FP "HerOrdersModel" 217 7 24 .int := ⟨RX7, TX7, 30, tyX7, rfl, by decide, rfl, sm_inX7, tyX7_ok, nmX7, rfl, by decide +kernel, Or.inl (List.mem_of_getElem? (i := 966) (by decide +kernel))⟩
set_option maxRecDepth 100000 in
theorem fl_tr_22 : sm_FL "HerOrders$Trials" 22 4 4 := ⟨RX4, TX4, 5, rfl, by decide, rfl, sm_inX4, Or.inl (List.mem_of_getElem? (i := 325) (by decide +kernel))⟩
set_option maxRecDepth 100000 in
theorem mq_tr_74 : Cond.methodLink "HerOrders$Trials" 74 Lib.Math.min.name ∈ lw_tbl := List.mem_of_getElem? (i := 812) (by decide +kernel)
set_option maxRecDepth 100000 in
theorem fl_tr_78 : sm_FL "HerOrders$Trials" 78 1 9 := ⟨RX1, TX1, 13, rfl, by decide, rfl, sm_inX1, Or.inr ⟨"HerOrders", List.mem_of_getElem? (i := 221) (by decide +kernel)⟩⟩
set_option maxRecDepth 100000 in
theorem fl_tr_81 : sm_FL "HerOrders$Trials" 81 2 0 := ⟨RX2, TX2, 2, rfl, by decide, rfl, sm_inX2, Or.inr ⟨"HerOrders", List.mem_of_getElem? (i := 157) (by decide +kernel)⟩⟩
set_option maxRecDepth 100000 in
theorem fl_tr_77 : sm_FL "HerOrders$Trials" 77 1 11 := ⟨RX1, TX1, 13, rfl, by decide, rfl, sm_inX1, Or.inr ⟨"HerOrders", List.mem_of_getElem? (i := 226) (by decide +kernel)⟩⟩
set_option maxRecDepth 100000 in
theorem fl_tr_69 : sm_FL "HerOrders$Trials" 69 2 1 := ⟨RX2, TX2, 2, rfl, by decide, rfl, sm_inX2, Or.inr ⟨"HerOrders", List.mem_of_getElem? (i := 162) (by decide +kernel)⟩⟩
set_option maxRecDepth 100000 in
theorem ml_ho_275 : sm_ML "HerOrders" 275 ⟨"HerOrders$Trials", "distanceTo", "(LHerOrders$Row;)I"⟩ := Or.inr ⟨"HerOrders", List.mem_of_getElem? (i := 808) (by decide +kernel)⟩
set_option maxRecDepth 100000 in
theorem fl_mo_59 : sm_FL "HerOrdersModel" 59 7 29 := ⟨RX7, TX7, 30, rfl, by decide, rfl, sm_inX7, Or.inl (List.mem_of_getElem? (i := 971) (by decide +kernel))⟩
abbrev mi_ho_test : sm_MI := (⟨"HerOrders", "test", "(II)I"⟩, prog_1_method_32_code, 10, (some .int), 4)
set_option maxRecDepth 100000 in
theorem mf_ho_test : sm_MF mi_ho_test 2 := ⟨List.mem_of_getElem? (i := 786) (by decide +kernel), List.mem_of_getElem? (i := 124) (by decide +kernel), ⟨by decide, by decide⟩, by decide +kernel⟩
set_option maxRecDepth 100000 in
theorem mv_ho_test : sm_MFV mi_ho_test := ⟨List.mem_of_getElem? (i := 784) (by decide +kernel), List.mem_of_getElem? (i := 785) (by decide +kernel)⟩
set_option maxRecDepth 100000 in
theorem ii_ho_test_0 : sm_D prog_1_method_32_code 0 1 1 (.aload_n 0) := ⟨by decide +kernel, rfl⟩
set_option maxRecDepth 100000 in
theorem ii_ho_test_1 : sm_D prog_1_method_32_code 1 1 2 (.iload_n 1) := ⟨by decide +kernel, rfl⟩
set_option maxRecDepth 100000 in
theorem ii_ho_test_2 : sm_D prog_1_method_32_code 2 1 3 (.iload_n 2) := ⟨by decide +kernel, rfl⟩
set_option maxRecDepth 100000 in
theorem ii_ho_test_3 : sm_D prog_1_method_32_code 3 3 6 (.invokevirtual 255) := ⟨by decide +kernel, rfl⟩
set_option maxRecDepth 100000 in
theorem ii_ho_test_6 : sm_D prog_1_method_32_code 6 1 7 (.istore_n 3) := ⟨by decide +kernel, rfl⟩
set_option maxRecDepth 100000 in
theorem ii_ho_test_7 : sm_D prog_1_method_32_code 7 1 8 (.iload_n 3) := ⟨by decide +kernel, rfl⟩
set_option maxRecDepth 100000 in
theorem ii_ho_test_8 : sm_D prog_1_method_32_code 8 3 11 (.ifCond .eq 5) := ⟨by decide +kernel, rfl⟩
set_option maxRecDepth 100000 in
theorem ii_ho_test_11 : sm_D prog_1_method_32_code 11 1 12 (.iload_n 3) := ⟨by decide +kernel, rfl⟩
set_option maxRecDepth 100000 in
theorem ii_ho_test_12 : sm_D prog_1_method_32_code 12 1 13 (.ireturn) := ⟨by decide +kernel, rfl⟩
set_option maxRecDepth 100000 in
theorem ii_ho_test_13 : sm_D prog_1_method_32_code 13 1 14 (.aload_n 0) := ⟨by decide +kernel, rfl⟩
set_option maxRecDepth 100000 in
theorem ii_ho_test_14 : sm_D prog_1_method_32_code 14 1 15 (.iload_n 1) := ⟨by decide +kernel, rfl⟩
set_option maxRecDepth 100000 in
theorem ii_ho_test_15 : sm_D prog_1_method_32_code 15 1 16 (.aload_n 0) := ⟨by decide +kernel, rfl⟩
set_option maxRecDepth 100000 in
theorem ii_ho_test_16 : sm_D prog_1_method_32_code 16 3 19 (.getfield 11) := ⟨by decide +kernel, rfl⟩
set_option maxRecDepth 100000 in
theorem ii_ho_test_19 : sm_D prog_1_method_32_code 19 1 20 (.iload_n 2) := ⟨by decide +kernel, rfl⟩
set_option maxRecDepth 100000 in
theorem ii_ho_test_20 : sm_D prog_1_method_32_code 20 1 21 (.aaload) := ⟨by decide +kernel, rfl⟩
set_option maxRecDepth 100000 in
theorem ii_ho_test_21 : sm_D prog_1_method_32_code 21 3 24 (.invokevirtual 258) := ⟨by decide +kernel, rfl⟩
set_option maxRecDepth 100000 in
theorem ii_ho_test_24 : sm_D prog_1_method_32_code 24 2 26 (.istore 4) := ⟨by decide +kernel, rfl⟩
set_option maxRecDepth 100000 in
theorem ii_ho_test_26 : sm_D prog_1_method_32_code 26 2 28 (.iload 4) := ⟨by decide +kernel, rfl⟩
set_option maxRecDepth 100000 in
theorem ii_ho_test_28 : sm_D prog_1_method_32_code 28 3 31 (.ifCond .ne 6) := ⟨by decide +kernel, rfl⟩
set_option maxRecDepth 100000 in
theorem ii_ho_test_31 : sm_D prog_1_method_32_code 31 2 33 (.bipush (-9)) := ⟨by decide +kernel, rfl⟩
set_option maxRecDepth 100000 in
theorem ii_ho_test_33 : sm_D prog_1_method_32_code 33 1 34 (.ireturn) := ⟨by decide +kernel, rfl⟩
set_option maxRecDepth 100000 in
theorem ii_ho_test_34 : sm_D prog_1_method_32_code 34 1 35 (.iconst 0) := ⟨by decide +kernel, rfl⟩
set_option maxRecDepth 100000 in
theorem ii_ho_test_35 : sm_D prog_1_method_32_code 35 2 37 (.istore 5) := ⟨by decide +kernel, rfl⟩
set_option maxRecDepth 100000 in
theorem ii_ho_test_37 : sm_D prog_1_method_32_code 37 2 39 (.bipush 7) := ⟨by decide +kernel, rfl⟩
set_option maxRecDepth 100000 in
theorem ii_ho_test_39 : sm_D prog_1_method_32_code 39 2 41 (.istore 6) := ⟨by decide +kernel, rfl⟩
set_option maxRecDepth 100000 in
theorem ii_ho_test_41 : sm_D prog_1_method_32_code 41 1 42 (.iconst 0) := ⟨by decide +kernel, rfl⟩
set_option maxRecDepth 100000 in
theorem ii_ho_test_42 : sm_D prog_1_method_32_code 42 2 44 (.istore 7) := ⟨by decide +kernel, rfl⟩
set_option maxRecDepth 100000 in
theorem ii_ho_test_44 : sm_D prog_1_method_32_code 44 2 46 (.iload 7) := ⟨by decide +kernel, rfl⟩
set_option maxRecDepth 100000 in
theorem ii_ho_test_46 : sm_D prog_1_method_32_code 46 2 48 (.bipush 6) := ⟨by decide +kernel, rfl⟩
set_option maxRecDepth 100000 in
theorem ii_ho_test_48 : sm_D prog_1_method_32_code 48 3 51 (.if_icmp .gt 71) := ⟨by decide +kernel, rfl⟩
set_option maxRecDepth 100000 in
theorem ii_ho_test_51 : sm_D prog_1_method_32_code 51 1 52 (.iconst 0) := ⟨by decide +kernel, rfl⟩
set_option maxRecDepth 100000 in
theorem ii_ho_test_52 : sm_D prog_1_method_32_code 52 2 54 (.istore 8) := ⟨by decide +kernel, rfl⟩
set_option maxRecDepth 100000 in
theorem ii_ho_test_54 : sm_D prog_1_method_32_code 54 2 56 (.iload 8) := ⟨by decide +kernel, rfl⟩
set_option maxRecDepth 100000 in
theorem ii_ho_test_56 : sm_D prog_1_method_32_code 56 2 58 (.bipush 6) := ⟨by decide +kernel, rfl⟩
set_option maxRecDepth 100000 in
theorem ii_ho_test_58 : sm_D prog_1_method_32_code 58 3 61 (.if_icmp .ge 55) := ⟨by decide +kernel, rfl⟩
set_option maxRecDepth 100000 in
theorem ii_ho_test_61 : sm_D prog_1_method_32_code 61 1 62 (.aload_n 0) := ⟨by decide +kernel, rfl⟩
set_option maxRecDepth 100000 in
theorem ii_ho_test_62 : sm_D prog_1_method_32_code 62 1 63 (.iload_n 1) := ⟨by decide +kernel, rfl⟩
set_option maxRecDepth 100000 in
theorem ii_ho_test_63 : sm_D prog_1_method_32_code 63 2 65 (.iload 4) := ⟨by decide +kernel, rfl⟩
set_option maxRecDepth 100000 in
theorem ii_ho_test_65 : sm_D prog_1_method_32_code 65 2 67 (.iload 7) := ⟨by decide +kernel, rfl⟩
set_option maxRecDepth 100000 in
theorem ii_ho_test_67 : sm_D prog_1_method_32_code 67 3 70 (.ifCond .ne 8) := ⟨by decide +kernel, rfl⟩
set_option maxRecDepth 100000 in
theorem ii_ho_test_70 : sm_D prog_1_method_32_code 70 2 72 (.bipush (-9)) := ⟨by decide +kernel, rfl⟩
set_option maxRecDepth 100000 in
theorem ii_ho_test_72 : sm_D prog_1_method_32_code 72 3 75 (.goto 7) := ⟨by decide +kernel, rfl⟩
set_option maxRecDepth 100000 in
theorem ii_ho_test_75 : sm_D prog_1_method_32_code 75 2 77 (.iload 7) := ⟨by decide +kernel, rfl⟩
set_option maxRecDepth 100000 in
theorem ii_ho_test_77 : sm_D prog_1_method_32_code 77 1 78 (.iconst 1) := ⟨by decide +kernel, rfl⟩
set_option maxRecDepth 100000 in
theorem ii_ho_test_78 : sm_D prog_1_method_32_code 78 1 79 (.isub) := ⟨by decide +kernel, rfl⟩
set_option maxRecDepth 100000 in
theorem ii_ho_test_79 : sm_D prog_1_method_32_code 79 2 81 (.iload 8) := ⟨by decide +kernel, rfl⟩
set_option maxRecDepth 100000 in
theorem ii_ho_test_81 : sm_D prog_1_method_32_code 81 3 84 (.invokevirtual 262) := ⟨by decide +kernel, rfl⟩
set_option maxRecDepth 100000 in
theorem ii_ho_test_84 : sm_D prog_1_method_32_code 84 2 86 (.istore 9) := ⟨by decide +kernel, rfl⟩
set_option maxRecDepth 100000 in
theorem ii_ho_test_86 : sm_D prog_1_method_32_code 86 2 88 (.iload 9) := ⟨by decide +kernel, rfl⟩
set_option maxRecDepth 100000 in
theorem ii_ho_test_88 : sm_D prog_1_method_32_code 88 2 90 (.iload 6) := ⟨by decide +kernel, rfl⟩
set_option maxRecDepth 100000 in
theorem ii_ho_test_90 : sm_D prog_1_method_32_code 90 3 93 (.if_icmp .ge 17) := ⟨by decide +kernel, rfl⟩
set_option maxRecDepth 100000 in
theorem ii_ho_test_93 : sm_D prog_1_method_32_code 93 2 95 (.iload 9) := ⟨by decide +kernel, rfl⟩
set_option maxRecDepth 100000 in
theorem ii_ho_test_95 : sm_D prog_1_method_32_code 95 2 97 (.istore 6) := ⟨by decide +kernel, rfl⟩
set_option maxRecDepth 100000 in
theorem ii_ho_test_97 : sm_D prog_1_method_32_code 97 2 99 (.bipush 10) := ⟨by decide +kernel, rfl⟩
set_option maxRecDepth 100000 in
theorem ii_ho_test_99 : sm_D prog_1_method_32_code 99 2 101 (.iload 7) := ⟨by decide +kernel, rfl⟩
set_option maxRecDepth 100000 in
theorem ii_ho_test_101 : sm_D prog_1_method_32_code 101 1 102 (.imul) := ⟨by decide +kernel, rfl⟩
set_option maxRecDepth 100000 in
theorem ii_ho_test_102 : sm_D prog_1_method_32_code 102 2 104 (.iload 8) := ⟨by decide +kernel, rfl⟩
set_option maxRecDepth 100000 in
theorem ii_ho_test_104 : sm_D prog_1_method_32_code 104 1 105 (.iadd) := ⟨by decide +kernel, rfl⟩
set_option maxRecDepth 100000 in
theorem ii_ho_test_105 : sm_D prog_1_method_32_code 105 2 107 (.istore 5) := ⟨by decide +kernel, rfl⟩
set_option maxRecDepth 100000 in
theorem ii_ho_test_107 : sm_D prog_1_method_32_code 107 3 110 (.iinc 8 1) := ⟨by decide +kernel, rfl⟩
set_option maxRecDepth 100000 in
theorem ii_ho_test_110 : sm_D prog_1_method_32_code 110 3 113 (.goto (-56)) := ⟨by decide +kernel, rfl⟩
set_option maxRecDepth 100000 in
theorem ii_ho_test_113 : sm_D prog_1_method_32_code 113 3 116 (.iinc 7 1) := ⟨by decide +kernel, rfl⟩
set_option maxRecDepth 100000 in
theorem ii_ho_test_116 : sm_D prog_1_method_32_code 116 3 119 (.goto (-72)) := ⟨by decide +kernel, rfl⟩
set_option maxRecDepth 100000 in
theorem ii_ho_test_119 : sm_D prog_1_method_32_code 119 1 120 (.aload_n 0) := ⟨by decide +kernel, rfl⟩
set_option maxRecDepth 100000 in
theorem ii_ho_test_120 : sm_D prog_1_method_32_code 120 3 123 (.getfield 54) := ⟨by decide +kernel, rfl⟩
set_option maxRecDepth 100000 in
theorem ii_ho_test_123 : sm_D prog_1_method_32_code 123 2 125 (.iload 6) := ⟨by decide +kernel, rfl⟩
set_option maxRecDepth 100000 in
theorem ii_ho_test_125 : sm_D prog_1_method_32_code 125 3 128 (.putfield 70) := ⟨by decide +kernel, rfl⟩
set_option maxRecDepth 100000 in
theorem ii_ho_test_128 : sm_D prog_1_method_32_code 128 2 130 (.iload 5) := ⟨by decide +kernel, rfl⟩
set_option maxRecDepth 100000 in
theorem ii_ho_test_130 : sm_D prog_1_method_32_code 130 1 131 (.ireturn) := ⟨by decide +kernel, rfl⟩
noncomputable def ff_ho_test_79 (self44 : Int32 → Int32 → Int32 → Int32 → Int32 → sm_Mem → sm_R) (self54 : Int32 → Int32 → Int32 → Int32 → Int32 → Int32 → sm_Mem → sm_R) (a1 : Int32) (a4 : Int32) (a5 : Int32) (a6 : Int32) (a7 : Int32) (a8 : Int32) (b1 : Int32) (b2 : Int32) (b3 : Int32) (w : sm_Mem) : sm_R := (sm_cI (ff_ho_greaterPart (b1) (b2) (b3) (a8) w) fun x1 w2 => (if a6 ≤ x1 then self54 (a1) (a4) (a5) (a6) (a7) ((a8 + (1 : Int32))) w2 else self54 (a1) (a4) ((((10 : Int32) * a7) + a8)) (x1) (a7) ((a8 + (1 : Int32))) w2))
set_option maxHeartbeats 4000000 in
set_option maxRecDepth 100000 in
theorem ss_ho_test_79 {E : Nat × (Nat → Int32)} (self44 : Int32 → Int32 → Int32 → Int32 → Int32 → sm_Mem → sm_R) (hself44 : ∀ (a1 : Int32) (a4 : Int32) (a5 : Int32) (a6 : Int32) (a7 : Int32) (w : sm_Mem), sm_Sim E (mi_ho_test) 44 [some (.ref 0), some (.int a1), none, none, some (.int a4), some (.int a5), some (.int a6), some (.int a7), none, none] [] w (self44 a1 a4 a5 a6 a7 w)) (self54 : Int32 → Int32 → Int32 → Int32 → Int32 → Int32 → sm_Mem → sm_R) (hself54 : ∀ (a1 : Int32) (a4 : Int32) (a5 : Int32) (a6 : Int32) (a7 : Int32) (a8 : Int32) (w : sm_Mem), sm_Sim E (mi_ho_test) 54 [some (.ref 0), some (.int a1), none, none, some (.int a4), some (.int a5), some (.int a6), some (.int a7), some (.int a8), none] [] w (self54 a1 a4 a5 a6 a7 a8 w)) (a1 : Int32) (a4 : Int32) (a5 : Int32) (a6 : Int32) (a7 : Int32) (a8 : Int32) (b1 : Int32) (b2 : Int32) (b3 : Int32) (w : sm_Mem) : sm_Sim E (mi_ho_test) 79 [some (.ref 0), some (.int a1), none, none, some (.int a4), some (.int a5), some (.int a6), some (.int a7), some (.int a8), none] [.int b3, .int b2, .int b1, .ref 0] w (ff_ho_test_79 self44 self54 a1 a4 a5 a6 a7 a8 b1 b2 b3 w) := by
  unfold ff_ho_test_79
  refine sm_iload ii_ho_test_79 rfl ?_
  refine sm_cvI [.int b1, .int b2, .int b3, .int a8] [] rfl ii_ho_test_81 ml_ho_262 (mf_ho_greaterPart) (mv_ho_greaterPart) (Nat.le_of_ble_eq_true rfl) rfl 6 rfl rfl rfl rfl (mc_ho_greaterPart (b1) (b2) (b3) (a8) w) (fun x1 w2 => ?_)
  refine sm_istore [some (.ref 0), some (.int a1), none, none, some (.int a4), some (.int a5), some (.int a6), some (.int a7), some (.int a8), some (.int x1)] ii_ho_test_84 rfl rfl ?_
  refine sm_iload ii_ho_test_86 rfl ?_
  refine sm_iload ii_ho_test_88 rfl ?_
  refine sm_icmp_ge 107 ii_ho_test_90 (by decide) ?_ ?_
  · refine sm_iinc (a8 + (1 : Int32)) [some (.ref 0), some (.int a1), none, none, some (.int a4), some (.int a5), some (.int a6), some (.int a7), some (.int (a8 + (1 : Int32))), some (.int x1)] ii_ho_test_107 rfl rfl rfl rfl ?_
    refine sm_goto 54 ii_ho_test_110 (by decide) ?_
    refine sm_msk [true, true, false, false, true, true, true, true, true, false] [some (.ref 0), some (.int a1), none, none, some (.int a4), some (.int a5), some (.int a6), some (.int a7), some (.int (a8 + (1 : Int32))), none] rfl ?_
    exact hself54 (a1) (a4) (a5) (a6) (a7) ((a8 + (1 : Int32))) w2
  · refine sm_iload ii_ho_test_93 rfl ?_
    refine sm_istore [some (.ref 0), some (.int a1), none, none, some (.int a4), some (.int a5), some (.int x1), some (.int a7), some (.int a8), some (.int x1)] ii_ho_test_95 rfl rfl ?_
    refine sm_bipush (10 : Int32) ii_ho_test_97 (by decide) ?_
    refine sm_iload ii_ho_test_99 rfl ?_
    refine sm_imul ii_ho_test_101 ?_
    refine sm_iload ii_ho_test_102 rfl ?_
    refine sm_iadd ii_ho_test_104 ?_
    refine sm_istore [some (.ref 0), some (.int a1), none, none, some (.int a4), some (.int (((10 : Int32) * a7) + a8)), some (.int x1), some (.int a7), some (.int a8), some (.int x1)] ii_ho_test_105 rfl rfl ?_
    refine sm_iinc (a8 + (1 : Int32)) [some (.ref 0), some (.int a1), none, none, some (.int a4), some (.int (((10 : Int32) * a7) + a8)), some (.int x1), some (.int a7), some (.int (a8 + (1 : Int32))), some (.int x1)] ii_ho_test_107 rfl rfl rfl rfl ?_
    refine sm_goto 54 ii_ho_test_110 (by decide) ?_
    refine sm_msk [true, true, false, false, true, true, true, true, true, false] [some (.ref 0), some (.int a1), none, none, some (.int a4), some (.int (((10 : Int32) * a7) + a8)), some (.int x1), some (.int a7), some (.int (a8 + (1 : Int32))), none] rfl ?_
    exact hself54 (a1) (a4) ((((10 : Int32) * a7) + a8)) (x1) (a7) ((a8 + (1 : Int32))) w2
noncomputable def ff_ho_test_54_b (self44 : Int32 → Int32 → Int32 → Int32 → Int32 → sm_Mem → sm_R) (self54 : Int32 → Int32 → Int32 → Int32 → Int32 → Int32 → sm_Mem → sm_R) (a1 : Int32) (a4 : Int32) (a5 : Int32) (a6 : Int32) (a7 : Int32) (a8 : Int32) (w : sm_Mem) : sm_R := (if (6 : Int32) ≤ a8 then self44 (a1) (a4) (a5) (a6) ((a7 + (1 : Int32))) w else (if a7 = (0 : Int32) then ff_ho_test_79 self44 self54 (a1) (a4) (a5) (a6) (a7) (a8) (a1) (a4) ((-9 : Int32)) w else ff_ho_test_79 self44 self54 (a1) (a4) (a5) (a6) (a7) (a8) (a1) (a4) ((a7 - (1 : Int32))) w))
noncomputable def ff_ho_test_54_f (self44 : Int32 → Int32 → Int32 → Int32 → Int32 → sm_Mem → sm_R) : Nat → Int32 → Int32 → Int32 → Int32 → Int32 → Int32 → sm_Mem → sm_R
  | 0, _, _, _, _, _, _, _ => none
  | n + 1, a1, a4, a5, a6, a7, a8, w => ff_ho_test_54_b self44 (ff_ho_test_54_f self44 n) a1 a4 a5 a6 a7 a8 w
noncomputable def ff_ho_test_54 (self44 : Int32 → Int32 → Int32 → Int32 → Int32 → sm_Mem → sm_R) (a1 : Int32) (a4 : Int32) (a5 : Int32) (a6 : Int32) (a7 : Int32) (a8 : Int32) (w : sm_Mem) : sm_R := ff_ho_test_54_f self44 sm_N a1 a4 a5 a6 a7 a8 w
set_option maxHeartbeats 4000000 in
set_option maxRecDepth 100000 in
theorem ss_ho_test_54_b {E : Nat × (Nat → Int32)} (self44 : Int32 → Int32 → Int32 → Int32 → Int32 → sm_Mem → sm_R) (hself44 : ∀ (a1 : Int32) (a4 : Int32) (a5 : Int32) (a6 : Int32) (a7 : Int32) (w : sm_Mem), sm_Sim E (mi_ho_test) 44 [some (.ref 0), some (.int a1), none, none, some (.int a4), some (.int a5), some (.int a6), some (.int a7), none, none] [] w (self44 a1 a4 a5 a6 a7 w)) (self54 : Int32 → Int32 → Int32 → Int32 → Int32 → Int32 → sm_Mem → sm_R) (hself54 : ∀ (a1 : Int32) (a4 : Int32) (a5 : Int32) (a6 : Int32) (a7 : Int32) (a8 : Int32) (w : sm_Mem), sm_Sim E (mi_ho_test) 54 [some (.ref 0), some (.int a1), none, none, some (.int a4), some (.int a5), some (.int a6), some (.int a7), some (.int a8), none] [] w (self54 a1 a4 a5 a6 a7 a8 w)) (a1 : Int32) (a4 : Int32) (a5 : Int32) (a6 : Int32) (a7 : Int32) (a8 : Int32) (w : sm_Mem) : sm_Sim E (mi_ho_test) 54 [some (.ref 0), some (.int a1), none, none, some (.int a4), some (.int a5), some (.int a6), some (.int a7), some (.int a8), none] [] w (ff_ho_test_54_b self44 self54 a1 a4 a5 a6 a7 a8 w) := by
  unfold ff_ho_test_54_b
  refine sm_iload ii_ho_test_54 rfl ?_
  refine sm_bipush (6 : Int32) ii_ho_test_56 (by decide) ?_
  refine sm_icmp_ge 113 ii_ho_test_58 (by decide) ?_ ?_
  · refine sm_iinc (a7 + (1 : Int32)) [some (.ref 0), some (.int a1), none, none, some (.int a4), some (.int a5), some (.int a6), some (.int (a7 + (1 : Int32))), some (.int a8), none] ii_ho_test_113 rfl rfl rfl rfl ?_
    refine sm_goto 44 ii_ho_test_116 (by decide) ?_
    refine sm_msk [true, true, false, false, true, true, true, true, false, false] [some (.ref 0), some (.int a1), none, none, some (.int a4), some (.int a5), some (.int a6), some (.int (a7 + (1 : Int32))), none, none] rfl ?_
    exact hself44 (a1) (a4) (a5) (a6) ((a7 + (1 : Int32))) w
  · refine sm_aload_n ii_ho_test_61 rfl ?_
    refine sm_iload_n ii_ho_test_62 rfl ?_
    refine sm_iload ii_ho_test_63 rfl ?_
    refine sm_iload ii_ho_test_65 rfl ?_
    refine sm_if_ne 75 ii_ho_test_67 (by decide) ?_ ?_
    · refine sm_bipush (-9 : Int32) ii_ho_test_70 (by decide) ?_
      refine sm_goto 79 ii_ho_test_72 (by decide) ?_
      exact ss_ho_test_79 self44 hself44 self54 hself54 (a1) (a4) (a5) (a6) (a7) (a8) (a1) (a4) ((-9 : Int32)) w
    · refine sm_iload ii_ho_test_75 rfl ?_
      refine sm_iconst (1 : Int32) ii_ho_test_77 (by decide) ?_
      refine sm_isub ii_ho_test_78 ?_
      exact ss_ho_test_79 self44 hself44 self54 hself54 (a1) (a4) (a5) (a6) (a7) (a8) (a1) (a4) ((a7 - (1 : Int32))) w
set_option maxHeartbeats 4000000 in
set_option maxRecDepth 100000 in
theorem ss_ho_test_54_f {E : Nat × (Nat → Int32)} (self44 : Int32 → Int32 → Int32 → Int32 → Int32 → sm_Mem → sm_R) (hself44 : ∀ (a1 : Int32) (a4 : Int32) (a5 : Int32) (a6 : Int32) (a7 : Int32) (w : sm_Mem), sm_Sim E (mi_ho_test) 44 [some (.ref 0), some (.int a1), none, none, some (.int a4), some (.int a5), some (.int a6), some (.int a7), none, none] [] w (self44 a1 a4 a5 a6 a7 w)) : ∀ (n : Nat) (a1 : Int32) (a4 : Int32) (a5 : Int32) (a6 : Int32) (a7 : Int32) (a8 : Int32) (w : sm_Mem), sm_Sim E (mi_ho_test) 54 [some (.ref 0), some (.int a1), none, none, some (.int a4), some (.int a5), some (.int a6), some (.int a7), some (.int a8), none] [] w (ff_ho_test_54_f self44 n a1 a4 a5 a6 a7 a8 w)
  | 0, _, _, _, _, _, _, _ => fun _ _ h => by cases h
  | n + 1, a1, a4, a5, a6, a7, a8, w => ss_ho_test_54_b self44 hself44 _ (ss_ho_test_54_f self44 hself44 n) a1 a4 a5 a6 a7 a8 w
set_option maxHeartbeats 4000000 in
set_option maxRecDepth 100000 in
theorem ss_ho_test_54 {E : Nat × (Nat → Int32)} (self44 : Int32 → Int32 → Int32 → Int32 → Int32 → sm_Mem → sm_R) (hself44 : ∀ (a1 : Int32) (a4 : Int32) (a5 : Int32) (a6 : Int32) (a7 : Int32) (w : sm_Mem), sm_Sim E (mi_ho_test) 44 [some (.ref 0), some (.int a1), none, none, some (.int a4), some (.int a5), some (.int a6), some (.int a7), none, none] [] w (self44 a1 a4 a5 a6 a7 w)) (a1 : Int32) (a4 : Int32) (a5 : Int32) (a6 : Int32) (a7 : Int32) (a8 : Int32) (w : sm_Mem) : sm_Sim E (mi_ho_test) 54 [some (.ref 0), some (.int a1), none, none, some (.int a4), some (.int a5), some (.int a6), some (.int a7), some (.int a8), none] [] w (ff_ho_test_54 self44 a1 a4 a5 a6 a7 a8 w) := ss_ho_test_54_f self44 hself44 sm_N a1 a4 a5 a6 a7 a8 w
noncomputable def ff_ho_test_44_b  (self44 : Int32 → Int32 → Int32 → Int32 → Int32 → sm_Mem → sm_R) (a1 : Int32) (a4 : Int32) (a5 : Int32) (a6 : Int32) (a7 : Int32) (w : sm_Mem) : sm_R := (if (6 : Int32) < a7 then (sm_let (sm_wI w 60 0 a6) fun w3 => (some (.int a5, w3))) else ff_ho_test_54 self44 (a1) (a4) (a5) (a6) (a7) ((0 : Int32)) w)
noncomputable def ff_ho_test_44_f  : Nat → Int32 → Int32 → Int32 → Int32 → Int32 → sm_Mem → sm_R
  | 0, _, _, _, _, _, _ => none
  | n + 1, a1, a4, a5, a6, a7, w => ff_ho_test_44_b  (ff_ho_test_44_f  n) a1 a4 a5 a6 a7 w
noncomputable def ff_ho_test_44  (a1 : Int32) (a4 : Int32) (a5 : Int32) (a6 : Int32) (a7 : Int32) (w : sm_Mem) : sm_R := ff_ho_test_44_f  sm_N a1 a4 a5 a6 a7 w
set_option maxHeartbeats 4000000 in
set_option maxRecDepth 100000 in
theorem ss_ho_test_44_b {E : Nat × (Nat → Int32)}  (self44 : Int32 → Int32 → Int32 → Int32 → Int32 → sm_Mem → sm_R) (hself44 : ∀ (a1 : Int32) (a4 : Int32) (a5 : Int32) (a6 : Int32) (a7 : Int32) (w : sm_Mem), sm_Sim E (mi_ho_test) 44 [some (.ref 0), some (.int a1), none, none, some (.int a4), some (.int a5), some (.int a6), some (.int a7), none, none] [] w (self44 a1 a4 a5 a6 a7 w)) (a1 : Int32) (a4 : Int32) (a5 : Int32) (a6 : Int32) (a7 : Int32) (w : sm_Mem) : sm_Sim E (mi_ho_test) 44 [some (.ref 0), some (.int a1), none, none, some (.int a4), some (.int a5), some (.int a6), some (.int a7), none, none] [] w (ff_ho_test_44_b  self44 a1 a4 a5 a6 a7 w) := by
  unfold ff_ho_test_44_b
  refine sm_iload ii_ho_test_44 rfl ?_
  refine sm_bipush (6 : Int32) ii_ho_test_46 (by decide) ?_
  refine sm_icmp_gt 119 ii_ho_test_48 (by decide) ?_ ?_
  · refine sm_aload_n ii_ho_test_119 rfl ?_
    refine sm_getR 60 ii_ho_test_120 fl_ho_54 (k := 0) rfl ?_
    refine sm_iload ii_ho_test_123 rfl ?_
    refine sm_putI ii_ho_test_125 fp_ho_70 (k := 60) rfl (fun w3 => ?_)
    refine sm_iload ii_ho_test_128 rfl ?_
    exact sm_iret ii_ho_test_130 rfl
  · refine sm_iconst (0 : Int32) ii_ho_test_51 (by decide) ?_
    refine sm_istore [some (.ref 0), some (.int a1), none, none, some (.int a4), some (.int a5), some (.int a6), some (.int a7), some (.int (0 : Int32)), none] ii_ho_test_52 rfl rfl ?_
    exact ss_ho_test_54 self44 hself44 (a1) (a4) (a5) (a6) (a7) ((0 : Int32)) w
set_option maxHeartbeats 4000000 in
set_option maxRecDepth 100000 in
theorem ss_ho_test_44_f {E : Nat × (Nat → Int32)}  : ∀ (n : Nat) (a1 : Int32) (a4 : Int32) (a5 : Int32) (a6 : Int32) (a7 : Int32) (w : sm_Mem), sm_Sim E (mi_ho_test) 44 [some (.ref 0), some (.int a1), none, none, some (.int a4), some (.int a5), some (.int a6), some (.int a7), none, none] [] w (ff_ho_test_44_f  n a1 a4 a5 a6 a7 w)
  | 0, _, _, _, _, _, _ => fun _ _ h => by cases h
  | n + 1, a1, a4, a5, a6, a7, w => ss_ho_test_44_b  _ (ss_ho_test_44_f  n) a1 a4 a5 a6 a7 w
set_option maxHeartbeats 4000000 in
set_option maxRecDepth 100000 in
theorem ss_ho_test_44 {E : Nat × (Nat → Int32)}  (a1 : Int32) (a4 : Int32) (a5 : Int32) (a6 : Int32) (a7 : Int32) (w : sm_Mem) : sm_Sim E (mi_ho_test) 44 [some (.ref 0), some (.int a1), none, none, some (.int a4), some (.int a5), some (.int a6), some (.int a7), none, none] [] w (ff_ho_test_44  a1 a4 a5 a6 a7 w) := ss_ho_test_44_f  sm_N a1 a4 a5 a6 a7 w
noncomputable def ff_ho_test  (a1 : Int32) (a2 : Int32) (w : sm_Mem) : sm_R := (sm_cI (ff_ho_refusalOfTriples (a1) (a2) w) fun x4 w5 => (if x4 = (0 : Int32) then (Option.bind (sm_rr 1 a2) fun r6 => (sm_cI (ff_ho_kindsBy (a1) (r6) w5) fun x7 w8 => (if x7 = (0 : Int32) then (some (.int (-9 : Int32), w8)) else ff_ho_test_44 (a1) (x7) ((0 : Int32)) ((7 : Int32)) ((0 : Int32)) w8))) else (some (.int x4, w5))))
set_option maxHeartbeats 4000000 in
set_option maxRecDepth 100000 in
theorem ss_ho_test_0 {E : Nat × (Nat → Int32)}  (a1 : Int32) (a2 : Int32) (w : sm_Mem) : sm_Sim E (mi_ho_test) 0 [some (.ref 0), some (.int a1), some (.int a2), none, none, none, none, none, none, none] [] w (ff_ho_test  a1 a2 w) := by
  unfold ff_ho_test
  refine sm_aload_n ii_ho_test_0 rfl ?_
  refine sm_iload_n ii_ho_test_1 rfl ?_
  refine sm_iload_n ii_ho_test_2 rfl ?_
  refine sm_cvI [.int a1, .int a2] [] rfl ii_ho_test_3 ml_ho_255 (mf_ho_refusalOfTriples) (mv_ho_refusalOfTriples) (Nat.le_of_ble_eq_true rfl) rfl 6 rfl rfl rfl rfl (mc_ho_refusalOfTriples (a1) (a2) w) (fun x4 w5 => ?_)
  refine sm_istore_n [some (.ref 0), some (.int a1), some (.int a2), some (.int x4), none, none, none, none, none, none] ii_ho_test_6 rfl rfl ?_
  refine sm_iload_n ii_ho_test_7 rfl ?_
  refine sm_if_eq 13 ii_ho_test_8 (by decide) ?_ ?_
  · refine sm_aload_n ii_ho_test_13 rfl ?_
    refine sm_iload_n ii_ho_test_14 rfl ?_
    refine sm_aload_n ii_ho_test_15 rfl ?_
    refine sm_getR 1 ii_ho_test_16 fl_ho_11 (k := 0) rfl ?_
    refine sm_iload_n ii_ho_test_19 rfl ?_
    refine sm_aald ii_ho_test_20 (fun r6 => ?_)
    refine sm_cvI [.int a1, .ref r6] [] rfl ii_ho_test_21 ml_ho_258 (mf_ho_kindsBy) (mv_ho_kindsBy) (Nat.le_of_ble_eq_true rfl) rfl 6 rfl rfl rfl rfl (mc_ho_kindsBy (a1) (r6) w5) (fun x7 w8 => ?_)
    refine sm_istore [some (.ref 0), some (.int a1), some (.int a2), some (.int x4), some (.int x7), none, none, none, none, none] ii_ho_test_24 rfl rfl ?_
    refine sm_iload ii_ho_test_26 rfl ?_
    refine sm_if_ne 34 ii_ho_test_28 (by decide) ?_ ?_
    · refine sm_bipush (-9 : Int32) ii_ho_test_31 (by decide) ?_
      exact sm_iret ii_ho_test_33 rfl
    · refine sm_iconst (0 : Int32) ii_ho_test_34 (by decide) ?_
      refine sm_istore [some (.ref 0), some (.int a1), some (.int a2), some (.int x4), some (.int x7), some (.int (0 : Int32)), none, none, none, none] ii_ho_test_35 rfl rfl ?_
      refine sm_bipush (7 : Int32) ii_ho_test_37 (by decide) ?_
      refine sm_istore [some (.ref 0), some (.int a1), some (.int a2), some (.int x4), some (.int x7), some (.int (0 : Int32)), some (.int (7 : Int32)), none, none, none] ii_ho_test_39 rfl rfl ?_
      refine sm_iconst (0 : Int32) ii_ho_test_41 (by decide) ?_
      refine sm_istore [some (.ref 0), some (.int a1), some (.int a2), some (.int x4), some (.int x7), some (.int (0 : Int32)), some (.int (7 : Int32)), some (.int (0 : Int32)), none, none] ii_ho_test_42 rfl rfl ?_
      refine sm_msk [true, true, false, false, true, true, true, true, false, false] [some (.ref 0), some (.int a1), none, none, some (.int x7), some (.int (0 : Int32)), some (.int (7 : Int32)), some (.int (0 : Int32)), none, none] rfl ?_
      exact ss_ho_test_44 (a1) (x7) ((0 : Int32)) ((7 : Int32)) ((0 : Int32)) w8
  · refine sm_iload_n ii_ho_test_11 rfl ?_
    exact sm_iret ii_ho_test_12 rfl
set_option maxHeartbeats 4000000 in
set_option maxRecDepth 100000 in
theorem mc_ho_test (a1 : Int32) (a2 : Int32) (w : sm_Mem) : sm_MC mi_ho_test [.ref 0, .int a1, .int a2] w (ff_ho_test a1 a2 w) := sm_MC_of (0, fun _ => 0) (by decide +kernel) (by decide) rfl (Nat.le_of_ble_eq_true rfl) (ss_ho_test_0 a1 a2 w)
abbrev mi_mo_test : sm_MI := (⟨"HerOrdersModel", "test", "(II)I"⟩, prog_9_method_82_code, 13, (some .int), 4)
set_option maxRecDepth 100000 in
theorem mf_mo_test : sm_MF mi_mo_test 2 := ⟨List.mem_of_getElem? (i := 1346) (by decide +kernel), List.mem_of_getElem? (i := 132) (by decide +kernel), ⟨by decide, by decide⟩, by decide +kernel⟩
set_option maxRecDepth 100000 in
theorem mv_mo_test : sm_MFV mi_mo_test := ⟨List.mem_of_getElem? (i := 1344) (by decide +kernel), List.mem_of_getElem? (i := 1345) (by decide +kernel)⟩
set_option maxRecDepth 100000 in
theorem ii_mo_test_0 : sm_D prog_9_method_82_code 0 1 1 (.aload_n 0) := ⟨by decide +kernel, rfl⟩
set_option maxRecDepth 100000 in
theorem ii_mo_test_1 : sm_D prog_9_method_82_code 1 1 2 (.iload_n 1) := ⟨by decide +kernel, rfl⟩
set_option maxRecDepth 100000 in
theorem ii_mo_test_2 : sm_D prog_9_method_82_code 2 3 5 (.invokevirtual 160) := ⟨by decide +kernel, rfl⟩
set_option maxRecDepth 100000 in
theorem ii_mo_test_5 : sm_D prog_9_method_82_code 5 3 8 (.ifCond .eq 10) := ⟨by decide +kernel, rfl⟩
set_option maxRecDepth 100000 in
theorem ii_mo_test_8 : sm_D prog_9_method_82_code 8 1 9 (.iload_n 2) := ⟨by decide +kernel, rfl⟩
set_option maxRecDepth 100000 in
theorem ii_mo_test_9 : sm_D prog_9_method_82_code 9 3 12 (.invokestatic 77) := ⟨by decide +kernel, rfl⟩
set_option maxRecDepth 100000 in
theorem ii_mo_test_12 : sm_D prog_9_method_82_code 12 3 15 (.ifCond .ne 5) := ⟨by decide +kernel, rfl⟩
set_option maxRecDepth 100000 in
theorem ii_mo_test_15 : sm_D prog_9_method_82_code 15 1 16 (.iconst (-1)) := ⟨by decide +kernel, rfl⟩
set_option maxRecDepth 100000 in
theorem ii_mo_test_16 : sm_D prog_9_method_82_code 16 1 17 (.ireturn) := ⟨by decide +kernel, rfl⟩
set_option maxRecDepth 100000 in
theorem ii_mo_test_17 : sm_D prog_9_method_82_code 17 1 18 (.aload_n 0) := ⟨by decide +kernel, rfl⟩
set_option maxRecDepth 100000 in
theorem ii_mo_test_18 : sm_D prog_9_method_82_code 18 1 19 (.iload_n 2) := ⟨by decide +kernel, rfl⟩
set_option maxRecDepth 100000 in
theorem ii_mo_test_19 : sm_D prog_9_method_82_code 19 3 22 (.invokevirtual 263) := ⟨by decide +kernel, rfl⟩
set_option maxRecDepth 100000 in
theorem ii_mo_test_22 : sm_D prog_9_method_82_code 22 1 23 (.istore_n 3) := ⟨by decide +kernel, rfl⟩
set_option maxRecDepth 100000 in
theorem ii_mo_test_23 : sm_D prog_9_method_82_code 23 1 24 (.iload_n 3) := ⟨by decide +kernel, rfl⟩
set_option maxRecDepth 100000 in
theorem ii_mo_test_24 : sm_D prog_9_method_82_code 24 3 27 (.ifCond .eq 5) := ⟨by decide +kernel, rfl⟩
set_option maxRecDepth 100000 in
theorem ii_mo_test_27 : sm_D prog_9_method_82_code 27 1 28 (.iload_n 3) := ⟨by decide +kernel, rfl⟩
set_option maxRecDepth 100000 in
theorem ii_mo_test_28 : sm_D prog_9_method_82_code 28 1 29 (.ireturn) := ⟨by decide +kernel, rfl⟩
set_option maxRecDepth 100000 in
theorem ii_mo_test_29 : sm_D prog_9_method_82_code 29 1 30 (.aload_n 0) := ⟨by decide +kernel, rfl⟩
set_option maxRecDepth 100000 in
theorem ii_mo_test_30 : sm_D prog_9_method_82_code 30 1 31 (.iload_n 1) := ⟨by decide +kernel, rfl⟩
set_option maxRecDepth 100000 in
theorem ii_mo_test_31 : sm_D prog_9_method_82_code 31 1 32 (.iload_n 2) := ⟨by decide +kernel, rfl⟩
set_option maxRecDepth 100000 in
theorem ii_mo_test_32 : sm_D prog_9_method_82_code 32 3 35 (.invokevirtual 266) := ⟨by decide +kernel, rfl⟩
set_option maxRecDepth 100000 in
theorem ii_mo_test_35 : sm_D prog_9_method_82_code 35 2 37 (.istore 4) := ⟨by decide +kernel, rfl⟩
set_option maxRecDepth 100000 in
theorem ii_mo_test_37 : sm_D prog_9_method_82_code 37 2 39 (.iload 4) := ⟨by decide +kernel, rfl⟩
set_option maxRecDepth 100000 in
theorem ii_mo_test_39 : sm_D prog_9_method_82_code 39 3 42 (.ifCond .ne 6) := ⟨by decide +kernel, rfl⟩
set_option maxRecDepth 100000 in
theorem ii_mo_test_42 : sm_D prog_9_method_82_code 42 2 44 (.bipush (-9)) := ⟨by decide +kernel, rfl⟩
set_option maxRecDepth 100000 in
theorem ii_mo_test_44 : sm_D prog_9_method_82_code 44 1 45 (.ireturn) := ⟨by decide +kernel, rfl⟩
set_option maxRecDepth 100000 in
theorem ii_mo_test_45 : sm_D prog_9_method_82_code 45 2 47 (.bipush (-9)) := ⟨by decide +kernel, rfl⟩
set_option maxRecDepth 100000 in
theorem ii_mo_test_47 : sm_D prog_9_method_82_code 47 2 49 (.istore 5) := ⟨by decide +kernel, rfl⟩
set_option maxRecDepth 100000 in
theorem ii_mo_test_49 : sm_D prog_9_method_82_code 49 2 51 (.bipush 7) := ⟨by decide +kernel, rfl⟩
set_option maxRecDepth 100000 in
theorem ii_mo_test_51 : sm_D prog_9_method_82_code 51 2 53 (.istore 6) := ⟨by decide +kernel, rfl⟩
set_option maxRecDepth 100000 in
theorem ii_mo_test_53 : sm_D prog_9_method_82_code 53 1 54 (.iconst 0) := ⟨by decide +kernel, rfl⟩
set_option maxRecDepth 100000 in
theorem ii_mo_test_54 : sm_D prog_9_method_82_code 54 2 56 (.istore 7) := ⟨by decide +kernel, rfl⟩
set_option maxRecDepth 100000 in
theorem ii_mo_test_56 : sm_D prog_9_method_82_code 56 2 58 (.iload 7) := ⟨by decide +kernel, rfl⟩
set_option maxRecDepth 100000 in
theorem ii_mo_test_58 : sm_D prog_9_method_82_code 58 2 60 (.bipush 42) := ⟨by decide +kernel, rfl⟩
set_option maxRecDepth 100000 in
theorem ii_mo_test_60 : sm_D prog_9_method_82_code 60 3 63 (.if_icmp .ge 172) := ⟨by decide +kernel, rfl⟩
set_option maxRecDepth 100000 in
theorem ii_mo_test_63 : sm_D prog_9_method_82_code 63 2 65 (.iload 7) := ⟨by decide +kernel, rfl⟩
set_option maxRecDepth 100000 in
theorem ii_mo_test_65 : sm_D prog_9_method_82_code 65 2 67 (.bipush 6) := ⟨by decide +kernel, rfl⟩
set_option maxRecDepth 100000 in
theorem ii_mo_test_67 : sm_D prog_9_method_82_code 67 1 68 (.idiv) := ⟨by decide +kernel, rfl⟩
set_option maxRecDepth 100000 in
theorem ii_mo_test_68 : sm_D prog_9_method_82_code 68 3 71 (.ifCond .ne 8) := ⟨by decide +kernel, rfl⟩
set_option maxRecDepth 100000 in
theorem ii_mo_test_71 : sm_D prog_9_method_82_code 71 2 73 (.bipush (-9)) := ⟨by decide +kernel, rfl⟩
set_option maxRecDepth 100000 in
theorem ii_mo_test_73 : sm_D prog_9_method_82_code 73 3 76 (.goto 10) := ⟨by decide +kernel, rfl⟩
set_option maxRecDepth 100000 in
theorem ii_mo_test_76 : sm_D prog_9_method_82_code 76 2 78 (.iload 7) := ⟨by decide +kernel, rfl⟩
set_option maxRecDepth 100000 in
theorem ii_mo_test_78 : sm_D prog_9_method_82_code 78 2 80 (.bipush 6) := ⟨by decide +kernel, rfl⟩
set_option maxRecDepth 100000 in
theorem ii_mo_test_80 : sm_D prog_9_method_82_code 80 1 81 (.idiv) := ⟨by decide +kernel, rfl⟩
set_option maxRecDepth 100000 in
theorem ii_mo_test_81 : sm_D prog_9_method_82_code 81 1 82 (.iconst 1) := ⟨by decide +kernel, rfl⟩
set_option maxRecDepth 100000 in
theorem ii_mo_test_82 : sm_D prog_9_method_82_code 82 1 83 (.isub) := ⟨by decide +kernel, rfl⟩
set_option maxRecDepth 100000 in
theorem ii_mo_test_83 : sm_D prog_9_method_82_code 83 2 85 (.istore 8) := ⟨by decide +kernel, rfl⟩
set_option maxRecDepth 100000 in
theorem ii_mo_test_85 : sm_D prog_9_method_82_code 85 1 86 (.iconst 0) := ⟨by decide +kernel, rfl⟩
set_option maxRecDepth 100000 in
theorem ii_mo_test_86 : sm_D prog_9_method_82_code 86 2 88 (.istore 9) := ⟨by decide +kernel, rfl⟩
set_option maxRecDepth 100000 in
theorem ii_mo_test_88 : sm_D prog_9_method_82_code 88 1 89 (.iconst 0) := ⟨by decide +kernel, rfl⟩
set_option maxRecDepth 100000 in
theorem ii_mo_test_89 : sm_D prog_9_method_82_code 89 2 91 (.istore 10) := ⟨by decide +kernel, rfl⟩
set_option maxRecDepth 100000 in
theorem ii_mo_test_91 : sm_D prog_9_method_82_code 91 2 93 (.iload 10) := ⟨by decide +kernel, rfl⟩
set_option maxRecDepth 100000 in
theorem ii_mo_test_93 : sm_D prog_9_method_82_code 93 2 95 (.bipush 6) := ⟨by decide +kernel, rfl⟩
set_option maxRecDepth 100000 in
theorem ii_mo_test_95 : sm_D prog_9_method_82_code 95 3 98 (.if_icmp .ge 49) := ⟨by decide +kernel, rfl⟩
set_option maxRecDepth 100000 in
theorem ii_mo_test_98 : sm_D prog_9_method_82_code 98 2 100 (.iload 9) := ⟨by decide +kernel, rfl⟩
set_option maxRecDepth 100000 in
theorem ii_mo_test_100 : sm_D prog_9_method_82_code 100 2 102 (.iload 10) := ⟨by decide +kernel, rfl⟩
set_option maxRecDepth 100000 in
theorem ii_mo_test_102 : sm_D prog_9_method_82_code 102 1 103 (.aload_n 0) := ⟨by decide +kernel, rfl⟩
set_option maxRecDepth 100000 in
theorem ii_mo_test_103 : sm_D prog_9_method_82_code 103 3 106 (.getfield 16) := ⟨by decide +kernel, rfl⟩
set_option maxRecDepth 100000 in
theorem ii_mo_test_106 : sm_D prog_9_method_82_code 106 1 107 (.iload_n 1) := ⟨by decide +kernel, rfl⟩
set_option maxRecDepth 100000 in
theorem ii_mo_test_107 : sm_D prog_9_method_82_code 107 1 108 (.iaload) := ⟨by decide +kernel, rfl⟩
set_option maxRecDepth 100000 in
theorem ii_mo_test_108 : sm_D prog_9_method_82_code 108 2 110 (.iload 8) := ⟨by decide +kernel, rfl⟩
set_option maxRecDepth 100000 in
theorem ii_mo_test_110 : sm_D prog_9_method_82_code 110 2 112 (.iload 7) := ⟨by decide +kernel, rfl⟩
set_option maxRecDepth 100000 in
theorem ii_mo_test_112 : sm_D prog_9_method_82_code 112 2 114 (.bipush 6) := ⟨by decide +kernel, rfl⟩
set_option maxRecDepth 100000 in
theorem ii_mo_test_114 : sm_D prog_9_method_82_code 114 1 115 (.irem) := ⟨by decide +kernel, rfl⟩
set_option maxRecDepth 100000 in
theorem ii_mo_test_115 : sm_D prog_9_method_82_code 115 1 116 (.aload_n 0) := ⟨by decide +kernel, rfl⟩
set_option maxRecDepth 100000 in
theorem ii_mo_test_116 : sm_D prog_9_method_82_code 116 3 119 (.getfield 7) := ⟨by decide +kernel, rfl⟩
set_option maxRecDepth 100000 in
theorem ii_mo_test_119 : sm_D prog_9_method_82_code 119 1 120 (.iconst 1) := ⟨by decide +kernel, rfl⟩
set_option maxRecDepth 100000 in
theorem ii_mo_test_120 : sm_D prog_9_method_82_code 120 1 121 (.iaload) := ⟨by decide +kernel, rfl⟩
set_option maxRecDepth 100000 in
theorem ii_mo_test_121 : sm_D prog_9_method_82_code 121 3 124 (.invokestatic 153) := ⟨by decide +kernel, rfl⟩
set_option maxRecDepth 100000 in
theorem ii_mo_test_124 : sm_D prog_9_method_82_code 124 3 127 (.ifCond .eq 10) := ⟨by decide +kernel, rfl⟩
set_option maxRecDepth 100000 in
theorem ii_mo_test_127 : sm_D prog_9_method_82_code 127 1 128 (.iconst 1) := ⟨by decide +kernel, rfl⟩
set_option maxRecDepth 100000 in
theorem ii_mo_test_128 : sm_D prog_9_method_82_code 128 2 130 (.iload 10) := ⟨by decide +kernel, rfl⟩
set_option maxRecDepth 100000 in
theorem ii_mo_test_130 : sm_D prog_9_method_82_code 130 1 131 (.ishl) := ⟨by decide +kernel, rfl⟩
set_option maxRecDepth 100000 in
theorem ii_mo_test_131 : sm_D prog_9_method_82_code 131 3 134 (.goto 4) := ⟨by decide +kernel, rfl⟩
set_option maxRecDepth 100000 in
theorem ii_mo_test_134 : sm_D prog_9_method_82_code 134 1 135 (.iconst 0) := ⟨by decide +kernel, rfl⟩
set_option maxRecDepth 100000 in
theorem ii_mo_test_135 : sm_D prog_9_method_82_code 135 1 136 (.ior) := ⟨by decide +kernel, rfl⟩
set_option maxRecDepth 100000 in
theorem ii_mo_test_136 : sm_D prog_9_method_82_code 136 2 138 (.istore 9) := ⟨by decide +kernel, rfl⟩
set_option maxRecDepth 100000 in
theorem ii_mo_test_138 : sm_D prog_9_method_82_code 138 3 141 (.iinc 10 1) := ⟨by decide +kernel, rfl⟩
set_option maxRecDepth 100000 in
theorem ii_mo_test_141 : sm_D prog_9_method_82_code 141 3 144 (.goto (-50)) := ⟨by decide +kernel, rfl⟩
set_option maxRecDepth 100000 in
theorem ii_mo_test_144 : sm_D prog_9_method_82_code 144 2 146 (.iload 4) := ⟨by decide +kernel, rfl⟩
set_option maxRecDepth 100000 in
theorem ii_mo_test_146 : sm_D prog_9_method_82_code 146 2 148 (.iload 9) := ⟨by decide +kernel, rfl⟩
set_option maxRecDepth 100000 in
theorem ii_mo_test_148 : sm_D prog_9_method_82_code 148 1 149 (.iand) := ⟨by decide +kernel, rfl⟩
set_option maxRecDepth 100000 in
theorem ii_mo_test_149 : sm_D prog_9_method_82_code 149 3 152 (.invokestatic 178) := ⟨by decide +kernel, rfl⟩
set_option maxRecDepth 100000 in
theorem ii_mo_test_152 : sm_D prog_9_method_82_code 152 2 154 (.istore 10) := ⟨by decide +kernel, rfl⟩
set_option maxRecDepth 100000 in
theorem ii_mo_test_154 : sm_D prog_9_method_82_code 154 2 156 (.iload 4) := ⟨by decide +kernel, rfl⟩
set_option maxRecDepth 100000 in
theorem ii_mo_test_156 : sm_D prog_9_method_82_code 156 2 158 (.iload 9) := ⟨by decide +kernel, rfl⟩
set_option maxRecDepth 100000 in
theorem ii_mo_test_158 : sm_D prog_9_method_82_code 158 1 159 (.iconst (-1)) := ⟨by decide +kernel, rfl⟩
set_option maxRecDepth 100000 in
theorem ii_mo_test_159 : sm_D prog_9_method_82_code 159 1 160 (.ixor) := ⟨by decide +kernel, rfl⟩
set_option maxRecDepth 100000 in
theorem ii_mo_test_160 : sm_D prog_9_method_82_code 160 1 161 (.iand) := ⟨by decide +kernel, rfl⟩
set_option maxRecDepth 100000 in
theorem ii_mo_test_161 : sm_D prog_9_method_82_code 161 3 164 (.invokestatic 178) := ⟨by decide +kernel, rfl⟩
set_option maxRecDepth 100000 in
theorem ii_mo_test_164 : sm_D prog_9_method_82_code 164 2 166 (.istore 11) := ⟨by decide +kernel, rfl⟩
set_option maxRecDepth 100000 in
theorem ii_mo_test_166 : sm_D prog_9_method_82_code 166 2 168 (.iload 10) := ⟨by decide +kernel, rfl⟩
set_option maxRecDepth 100000 in
theorem ii_mo_test_168 : sm_D prog_9_method_82_code 168 2 170 (.iload 11) := ⟨by decide +kernel, rfl⟩
set_option maxRecDepth 100000 in
theorem ii_mo_test_170 : sm_D prog_9_method_82_code 170 3 173 (.if_icmp .le 8) := ⟨by decide +kernel, rfl⟩
set_option maxRecDepth 100000 in
theorem ii_mo_test_173 : sm_D prog_9_method_82_code 173 2 175 (.iload 10) := ⟨by decide +kernel, rfl⟩
set_option maxRecDepth 100000 in
theorem ii_mo_test_175 : sm_D prog_9_method_82_code 175 3 178 (.goto 5) := ⟨by decide +kernel, rfl⟩
set_option maxRecDepth 100000 in
theorem ii_mo_test_178 : sm_D prog_9_method_82_code 178 2 180 (.iload 11) := ⟨by decide +kernel, rfl⟩
set_option maxRecDepth 100000 in
theorem ii_mo_test_180 : sm_D prog_9_method_82_code 180 2 182 (.istore 12) := ⟨by decide +kernel, rfl⟩
set_option maxRecDepth 100000 in
theorem ii_mo_test_182 : sm_D prog_9_method_82_code 182 2 184 (.iload 12) := ⟨by decide +kernel, rfl⟩
set_option maxRecDepth 100000 in
theorem ii_mo_test_184 : sm_D prog_9_method_82_code 184 2 186 (.iload 6) := ⟨by decide +kernel, rfl⟩
set_option maxRecDepth 100000 in
theorem ii_mo_test_186 : sm_D prog_9_method_82_code 186 3 189 (.if_icmp .ge 20) := ⟨by decide +kernel, rfl⟩
set_option maxRecDepth 100000 in
theorem ii_mo_test_189 : sm_D prog_9_method_82_code 189 2 191 (.bipush 10) := ⟨by decide +kernel, rfl⟩
set_option maxRecDepth 100000 in
theorem ii_mo_test_191 : sm_D prog_9_method_82_code 191 2 193 (.iload 7) := ⟨by decide +kernel, rfl⟩
set_option maxRecDepth 100000 in
theorem ii_mo_test_193 : sm_D prog_9_method_82_code 193 2 195 (.bipush 6) := ⟨by decide +kernel, rfl⟩
set_option maxRecDepth 100000 in
theorem ii_mo_test_195 : sm_D prog_9_method_82_code 195 1 196 (.idiv) := ⟨by decide +kernel, rfl⟩
set_option maxRecDepth 100000 in
theorem ii_mo_test_196 : sm_D prog_9_method_82_code 196 1 197 (.imul) := ⟨by decide +kernel, rfl⟩
set_option maxRecDepth 100000 in
theorem ii_mo_test_197 : sm_D prog_9_method_82_code 197 2 199 (.iload 7) := ⟨by decide +kernel, rfl⟩
set_option maxRecDepth 100000 in
theorem ii_mo_test_199 : sm_D prog_9_method_82_code 199 2 201 (.bipush 6) := ⟨by decide +kernel, rfl⟩
set_option maxRecDepth 100000 in
theorem ii_mo_test_201 : sm_D prog_9_method_82_code 201 1 202 (.irem) := ⟨by decide +kernel, rfl⟩
set_option maxRecDepth 100000 in
theorem ii_mo_test_202 : sm_D prog_9_method_82_code 202 1 203 (.iadd) := ⟨by decide +kernel, rfl⟩
set_option maxRecDepth 100000 in
theorem ii_mo_test_203 : sm_D prog_9_method_82_code 203 3 206 (.goto 5) := ⟨by decide +kernel, rfl⟩
set_option maxRecDepth 100000 in
theorem ii_mo_test_206 : sm_D prog_9_method_82_code 206 2 208 (.iload 5) := ⟨by decide +kernel, rfl⟩
set_option maxRecDepth 100000 in
theorem ii_mo_test_208 : sm_D prog_9_method_82_code 208 2 210 (.istore 5) := ⟨by decide +kernel, rfl⟩
set_option maxRecDepth 100000 in
theorem ii_mo_test_210 : sm_D prog_9_method_82_code 210 2 212 (.iload 12) := ⟨by decide +kernel, rfl⟩
set_option maxRecDepth 100000 in
theorem ii_mo_test_212 : sm_D prog_9_method_82_code 212 2 214 (.iload 6) := ⟨by decide +kernel, rfl⟩
set_option maxRecDepth 100000 in
theorem ii_mo_test_214 : sm_D prog_9_method_82_code 214 3 217 (.if_icmp .ge 8) := ⟨by decide +kernel, rfl⟩
set_option maxRecDepth 100000 in
theorem ii_mo_test_217 : sm_D prog_9_method_82_code 217 2 219 (.iload 12) := ⟨by decide +kernel, rfl⟩
set_option maxRecDepth 100000 in
theorem ii_mo_test_219 : sm_D prog_9_method_82_code 219 3 222 (.goto 5) := ⟨by decide +kernel, rfl⟩
set_option maxRecDepth 100000 in
theorem ii_mo_test_222 : sm_D prog_9_method_82_code 222 2 224 (.iload 6) := ⟨by decide +kernel, rfl⟩
set_option maxRecDepth 100000 in
theorem ii_mo_test_224 : sm_D prog_9_method_82_code 224 2 226 (.istore 6) := ⟨by decide +kernel, rfl⟩
set_option maxRecDepth 100000 in
theorem ii_mo_test_226 : sm_D prog_9_method_82_code 226 3 229 (.iinc 7 1) := ⟨by decide +kernel, rfl⟩
set_option maxRecDepth 100000 in
theorem ii_mo_test_229 : sm_D prog_9_method_82_code 229 3 232 (.goto (-173)) := ⟨by decide +kernel, rfl⟩
set_option maxRecDepth 100000 in
theorem ii_mo_test_232 : sm_D prog_9_method_82_code 232 1 233 (.aload_n 0) := ⟨by decide +kernel, rfl⟩
set_option maxRecDepth 100000 in
theorem ii_mo_test_233 : sm_D prog_9_method_82_code 233 2 235 (.iload 6) := ⟨by decide +kernel, rfl⟩
set_option maxRecDepth 100000 in
theorem ii_mo_test_235 : sm_D prog_9_method_82_code 235 3 238 (.putfield 66) := ⟨by decide +kernel, rfl⟩
set_option maxRecDepth 100000 in
theorem ii_mo_test_238 : sm_D prog_9_method_82_code 238 2 240 (.iload 5) := ⟨by decide +kernel, rfl⟩
set_option maxRecDepth 100000 in
theorem ii_mo_test_240 : sm_D prog_9_method_82_code 240 1 241 (.ireturn) := ⟨by decide +kernel, rfl⟩
noncomputable def ff_mo_test_208 (self56 : Int32 → Int32 → Int32 → Int32 → Int32 → sm_Mem → sm_R) (a1 : Int32) (a4 : Int32) (a6 : Int32) (a7 : Int32) (a12 : Int32) (b0 : Int32) (w : sm_Mem) : sm_R := (if a6 ≤ a12 then self56 (a1) (a4) (b0) (a6) ((a7 + (1 : Int32))) w else self56 (a1) (a4) (b0) (a12) ((a7 + (1 : Int32))) w)
set_option maxHeartbeats 4000000 in
set_option maxRecDepth 100000 in
theorem ss_mo_test_208 {E : Nat × (Nat → Int32)} (self56 : Int32 → Int32 → Int32 → Int32 → Int32 → sm_Mem → sm_R) (hself56 : ∀ (a1 : Int32) (a4 : Int32) (a5 : Int32) (a6 : Int32) (a7 : Int32) (w : sm_Mem), sm_Sim E (mi_mo_test) 56 [some (.ref 62), some (.int a1), none, none, some (.int a4), some (.int a5), some (.int a6), some (.int a7), none, none, none, none, none] [] w (self56 a1 a4 a5 a6 a7 w)) (a1 : Int32) (a4 : Int32) (a6 : Int32) (a7 : Int32) (a12 : Int32) (b0 : Int32) (w : sm_Mem) : sm_Sim E (mi_mo_test) 208 [some (.ref 62), some (.int a1), none, none, some (.int a4), none, some (.int a6), some (.int a7), none, none, none, none, some (.int a12)] [.int b0] w (ff_mo_test_208 self56 a1 a4 a6 a7 a12 b0 w) := by
  unfold ff_mo_test_208
  refine sm_istore [some (.ref 62), some (.int a1), none, none, some (.int a4), some (.int b0), some (.int a6), some (.int a7), none, none, none, none, some (.int a12)] ii_mo_test_208 rfl rfl ?_
  refine sm_iload ii_mo_test_210 rfl ?_
  refine sm_iload ii_mo_test_212 rfl ?_
  refine sm_icmp_ge 222 ii_mo_test_214 (by decide) ?_ ?_
  · refine sm_iload ii_mo_test_222 rfl ?_
    refine sm_istore [some (.ref 62), some (.int a1), none, none, some (.int a4), some (.int b0), some (.int a6), some (.int a7), none, none, none, none, some (.int a12)] ii_mo_test_224 rfl rfl ?_
    refine sm_iinc (a7 + (1 : Int32)) [some (.ref 62), some (.int a1), none, none, some (.int a4), some (.int b0), some (.int a6), some (.int (a7 + (1 : Int32))), none, none, none, none, some (.int a12)] ii_mo_test_226 rfl rfl rfl rfl ?_
    refine sm_goto 56 ii_mo_test_229 (by decide) ?_
    refine sm_msk [true, true, false, false, true, true, true, true, false, false, false, false, false] [some (.ref 62), some (.int a1), none, none, some (.int a4), some (.int b0), some (.int a6), some (.int (a7 + (1 : Int32))), none, none, none, none, none] rfl ?_
    exact hself56 (a1) (a4) (b0) (a6) ((a7 + (1 : Int32))) w
  · refine sm_iload ii_mo_test_217 rfl ?_
    refine sm_goto 224 ii_mo_test_219 (by decide) ?_
    refine sm_istore [some (.ref 62), some (.int a1), none, none, some (.int a4), some (.int b0), some (.int a12), some (.int a7), none, none, none, none, some (.int a12)] ii_mo_test_224 rfl rfl ?_
    refine sm_iinc (a7 + (1 : Int32)) [some (.ref 62), some (.int a1), none, none, some (.int a4), some (.int b0), some (.int a12), some (.int (a7 + (1 : Int32))), none, none, none, none, some (.int a12)] ii_mo_test_226 rfl rfl rfl rfl ?_
    refine sm_goto 56 ii_mo_test_229 (by decide) ?_
    refine sm_msk [true, true, false, false, true, true, true, true, false, false, false, false, false] [some (.ref 62), some (.int a1), none, none, some (.int a4), some (.int b0), some (.int a12), some (.int (a7 + (1 : Int32))), none, none, none, none, none] rfl ?_
    exact hself56 (a1) (a4) (b0) (a12) ((a7 + (1 : Int32))) w
noncomputable def ff_mo_test_180 (self56 : Int32 → Int32 → Int32 → Int32 → Int32 → sm_Mem → sm_R) (a1 : Int32) (a4 : Int32) (a5 : Int32) (a6 : Int32) (a7 : Int32) (b0 : Int32) (w : sm_Mem) : sm_R := (if a6 ≤ b0 then ff_mo_test_208 self56 (a1) (a4) (a6) (a7) (b0) (a5) w else (if (6 : Int32) = (0 : Int32) then none else (if (6 : Int32) = (0 : Int32) then none else ff_mo_test_208 self56 (a1) (a4) (a6) (a7) (b0) ((((10 : Int32) * (a7 / (6 : Int32))) + (a7 - a7 / (6 : Int32) * (6 : Int32)))) w)))
set_option maxHeartbeats 4000000 in
set_option maxRecDepth 100000 in
theorem ss_mo_test_180 {E : Nat × (Nat → Int32)} (self56 : Int32 → Int32 → Int32 → Int32 → Int32 → sm_Mem → sm_R) (hself56 : ∀ (a1 : Int32) (a4 : Int32) (a5 : Int32) (a6 : Int32) (a7 : Int32) (w : sm_Mem), sm_Sim E (mi_mo_test) 56 [some (.ref 62), some (.int a1), none, none, some (.int a4), some (.int a5), some (.int a6), some (.int a7), none, none, none, none, none] [] w (self56 a1 a4 a5 a6 a7 w)) (a1 : Int32) (a4 : Int32) (a5 : Int32) (a6 : Int32) (a7 : Int32) (b0 : Int32) (w : sm_Mem) : sm_Sim E (mi_mo_test) 180 [some (.ref 62), some (.int a1), none, none, some (.int a4), some (.int a5), some (.int a6), some (.int a7), none, none, none, none, none] [.int b0] w (ff_mo_test_180 self56 a1 a4 a5 a6 a7 b0 w) := by
  unfold ff_mo_test_180
  refine sm_istore [some (.ref 62), some (.int a1), none, none, some (.int a4), some (.int a5), some (.int a6), some (.int a7), none, none, none, none, some (.int b0)] ii_mo_test_180 rfl rfl ?_
  refine sm_iload ii_mo_test_182 rfl ?_
  refine sm_iload ii_mo_test_184 rfl ?_
  refine sm_icmp_ge 206 ii_mo_test_186 (by decide) ?_ ?_
  · refine sm_iload ii_mo_test_206 rfl ?_
    refine sm_msk [true, true, false, false, true, false, true, true, false, false, false, false, true] [some (.ref 62), some (.int a1), none, none, some (.int a4), none, some (.int a6), some (.int a7), none, none, none, none, some (.int b0)] rfl ?_
    exact ss_mo_test_208 self56 hself56 (a1) (a4) (a6) (a7) (b0) (a5) w
  · refine sm_bipush (10 : Int32) ii_mo_test_189 (by decide) ?_
    refine sm_iload ii_mo_test_191 rfl ?_
    refine sm_bipush (6 : Int32) ii_mo_test_193 (by decide) ?_
    refine sm_idiv ii_mo_test_195 ?_
    refine sm_imul ii_mo_test_196 ?_
    refine sm_iload ii_mo_test_197 rfl ?_
    refine sm_bipush (6 : Int32) ii_mo_test_199 (by decide) ?_
    refine sm_irem ii_mo_test_201 ?_
    refine sm_iadd ii_mo_test_202 ?_
    refine sm_goto 208 ii_mo_test_203 (by decide) ?_
    refine sm_msk [true, true, false, false, true, false, true, true, false, false, false, false, true] [some (.ref 62), some (.int a1), none, none, some (.int a4), none, some (.int a6), some (.int a7), none, none, none, none, some (.int b0)] rfl ?_
    exact ss_mo_test_208 self56 hself56 (a1) (a4) (a6) (a7) (b0) ((((10 : Int32) * (a7 / (6 : Int32))) + (a7 - a7 / (6 : Int32) * (6 : Int32)))) w
noncomputable def ff_mo_test_135 (self56 : Int32 → Int32 → Int32 → Int32 → Int32 → sm_Mem → sm_R) (self91 : Int32 → Int32 → Int32 → Int32 → Int32 → Int32 → Int32 → Int32 → sm_Mem → sm_R) (a1 : Int32) (a4 : Int32) (a5 : Int32) (a6 : Int32) (a7 : Int32) (a8 : Int32) (a10 : Int32) (b0 : Int32) (b1 : Int32) (w : sm_Mem) : sm_R := self91 (a1) (a4) (a5) (a6) (a7) (a8) ((b0 ||| b1)) ((a10 + (1 : Int32))) w
set_option maxHeartbeats 4000000 in
set_option maxRecDepth 100000 in
theorem ss_mo_test_135 {E : Nat × (Nat → Int32)} (self56 : Int32 → Int32 → Int32 → Int32 → Int32 → sm_Mem → sm_R) (hself56 : ∀ (a1 : Int32) (a4 : Int32) (a5 : Int32) (a6 : Int32) (a7 : Int32) (w : sm_Mem), sm_Sim E (mi_mo_test) 56 [some (.ref 62), some (.int a1), none, none, some (.int a4), some (.int a5), some (.int a6), some (.int a7), none, none, none, none, none] [] w (self56 a1 a4 a5 a6 a7 w)) (self91 : Int32 → Int32 → Int32 → Int32 → Int32 → Int32 → Int32 → Int32 → sm_Mem → sm_R) (hself91 : ∀ (a1 : Int32) (a4 : Int32) (a5 : Int32) (a6 : Int32) (a7 : Int32) (a8 : Int32) (a9 : Int32) (a10 : Int32) (w : sm_Mem), sm_Sim E (mi_mo_test) 91 [some (.ref 62), some (.int a1), none, none, some (.int a4), some (.int a5), some (.int a6), some (.int a7), some (.int a8), some (.int a9), some (.int a10), none, none] [] w (self91 a1 a4 a5 a6 a7 a8 a9 a10 w)) (a1 : Int32) (a4 : Int32) (a5 : Int32) (a6 : Int32) (a7 : Int32) (a8 : Int32) (a10 : Int32) (b0 : Int32) (b1 : Int32) (w : sm_Mem) : sm_Sim E (mi_mo_test) 135 [some (.ref 62), some (.int a1), none, none, some (.int a4), some (.int a5), some (.int a6), some (.int a7), some (.int a8), none, some (.int a10), none, none] [.int b1, .int b0] w (ff_mo_test_135 self56 self91 a1 a4 a5 a6 a7 a8 a10 b0 b1 w) := by
  unfold ff_mo_test_135
  refine sm_ior ii_mo_test_135 ?_
  refine sm_istore [some (.ref 62), some (.int a1), none, none, some (.int a4), some (.int a5), some (.int a6), some (.int a7), some (.int a8), some (.int (b0 ||| b1)), some (.int a10), none, none] ii_mo_test_136 rfl rfl ?_
  refine sm_iinc (a10 + (1 : Int32)) [some (.ref 62), some (.int a1), none, none, some (.int a4), some (.int a5), some (.int a6), some (.int a7), some (.int a8), some (.int (b0 ||| b1)), some (.int (a10 + (1 : Int32))), none, none] ii_mo_test_138 rfl rfl rfl rfl ?_
  refine sm_goto 91 ii_mo_test_141 (by decide) ?_
  exact hself91 (a1) (a4) (a5) (a6) (a7) (a8) ((b0 ||| b1)) ((a10 + (1 : Int32))) w
noncomputable def ff_mo_test_91_b (self56 : Int32 → Int32 → Int32 → Int32 → Int32 → sm_Mem → sm_R) (self91 : Int32 → Int32 → Int32 → Int32 → Int32 → Int32 → Int32 → Int32 → sm_Mem → sm_R) (a1 : Int32) (a4 : Int32) (a5 : Int32) (a6 : Int32) (a7 : Int32) (a8 : Int32) (a9 : Int32) (a10 : Int32) (w : sm_Mem) : sm_R := (if (6 : Int32) ≤ a10 then (sm_cI (ff_mo_bits ((a4 &&& a9)) w) fun x3 w4 => (sm_cI (ff_mo_bits ((a4 &&& (a9 ^^^ (-1 : Int32)))) w4) fun x5 w6 => (if x3 ≤ x5 then ff_mo_test_180 self56 (a1) (a4) (a5) (a6) (a7) (x5) w6 else ff_mo_test_180 self56 (a1) (a4) (a5) (a6) (a7) (x3) w6))) else (Option.bind (sm_rd w 65 7 a1) fun x7 => (if (6 : Int32) = (0 : Int32) then none else (Option.bind (sm_rd w 63 5184 (1 : Int32)) fun x9 => (sm_cI (ff_mo_isAble (a10) (x7) (a8) ((a7 - a7 / (6 : Int32) * (6 : Int32))) (x9) w) fun x10 w11 => (if x10 = (0 : Int32) then ff_mo_test_135 self56 self91 (a1) (a4) (a5) (a6) (a7) (a8) (a10) (a9) ((0 : Int32)) w11 else ff_mo_test_135 self56 self91 (a1) (a4) (a5) (a6) (a7) (a8) (a10) (a9) (((1 : Int32) <<< (a10 &&& (31 : Int32)))) w11))))))
noncomputable def ff_mo_test_91_f (self56 : Int32 → Int32 → Int32 → Int32 → Int32 → sm_Mem → sm_R) : Nat → Int32 → Int32 → Int32 → Int32 → Int32 → Int32 → Int32 → Int32 → sm_Mem → sm_R
  | 0, _, _, _, _, _, _, _, _, _ => none
  | n + 1, a1, a4, a5, a6, a7, a8, a9, a10, w => ff_mo_test_91_b self56 (ff_mo_test_91_f self56 n) a1 a4 a5 a6 a7 a8 a9 a10 w
noncomputable def ff_mo_test_91 (self56 : Int32 → Int32 → Int32 → Int32 → Int32 → sm_Mem → sm_R) (a1 : Int32) (a4 : Int32) (a5 : Int32) (a6 : Int32) (a7 : Int32) (a8 : Int32) (a9 : Int32) (a10 : Int32) (w : sm_Mem) : sm_R := ff_mo_test_91_f self56 sm_N a1 a4 a5 a6 a7 a8 a9 a10 w
set_option maxHeartbeats 4000000 in
set_option maxRecDepth 100000 in
theorem ss_mo_test_91_b {E : Nat × (Nat → Int32)} (self56 : Int32 → Int32 → Int32 → Int32 → Int32 → sm_Mem → sm_R) (hself56 : ∀ (a1 : Int32) (a4 : Int32) (a5 : Int32) (a6 : Int32) (a7 : Int32) (w : sm_Mem), sm_Sim E (mi_mo_test) 56 [some (.ref 62), some (.int a1), none, none, some (.int a4), some (.int a5), some (.int a6), some (.int a7), none, none, none, none, none] [] w (self56 a1 a4 a5 a6 a7 w)) (self91 : Int32 → Int32 → Int32 → Int32 → Int32 → Int32 → Int32 → Int32 → sm_Mem → sm_R) (hself91 : ∀ (a1 : Int32) (a4 : Int32) (a5 : Int32) (a6 : Int32) (a7 : Int32) (a8 : Int32) (a9 : Int32) (a10 : Int32) (w : sm_Mem), sm_Sim E (mi_mo_test) 91 [some (.ref 62), some (.int a1), none, none, some (.int a4), some (.int a5), some (.int a6), some (.int a7), some (.int a8), some (.int a9), some (.int a10), none, none] [] w (self91 a1 a4 a5 a6 a7 a8 a9 a10 w)) (a1 : Int32) (a4 : Int32) (a5 : Int32) (a6 : Int32) (a7 : Int32) (a8 : Int32) (a9 : Int32) (a10 : Int32) (w : sm_Mem) : sm_Sim E (mi_mo_test) 91 [some (.ref 62), some (.int a1), none, none, some (.int a4), some (.int a5), some (.int a6), some (.int a7), some (.int a8), some (.int a9), some (.int a10), none, none] [] w (ff_mo_test_91_b self56 self91 a1 a4 a5 a6 a7 a8 a9 a10 w) := by
  unfold ff_mo_test_91_b
  refine sm_iload ii_mo_test_91 rfl ?_
  refine sm_bipush (6 : Int32) ii_mo_test_93 (by decide) ?_
  refine sm_icmp_ge 144 ii_mo_test_95 (by decide) ?_ ?_
  · refine sm_iload ii_mo_test_144 rfl ?_
    refine sm_iload ii_mo_test_146 rfl ?_
    refine sm_iand ii_mo_test_148 ?_
    refine sm_csI [.int (a4 &&& a9)] [] rfl ii_mo_test_149 ml_mo_178 (mf_mo_bits) (mv_mo_bits) (Nat.le_of_ble_eq_true rfl) rfl rfl rfl (mc_mo_bits ((a4 &&& a9)) w) (fun x3 w4 => ?_)
    refine sm_istore [some (.ref 62), some (.int a1), none, none, some (.int a4), some (.int a5), some (.int a6), some (.int a7), some (.int a8), some (.int a9), some (.int x3), none, none] ii_mo_test_152 rfl rfl ?_
    refine sm_iload ii_mo_test_154 rfl ?_
    refine sm_iload ii_mo_test_156 rfl ?_
    refine sm_iconst (-1 : Int32) ii_mo_test_158 (by decide) ?_
    refine sm_ixor ii_mo_test_159 ?_
    refine sm_iand ii_mo_test_160 ?_
    refine sm_csI [.int (a4 &&& (a9 ^^^ (-1 : Int32)))] [] rfl ii_mo_test_161 ml_mo_178 (mf_mo_bits) (mv_mo_bits) (Nat.le_of_ble_eq_true rfl) rfl rfl rfl (mc_mo_bits ((a4 &&& (a9 ^^^ (-1 : Int32)))) w4) (fun x5 w6 => ?_)
    refine sm_istore [some (.ref 62), some (.int a1), none, none, some (.int a4), some (.int a5), some (.int a6), some (.int a7), some (.int a8), some (.int a9), some (.int x3), some (.int x5), none] ii_mo_test_164 rfl rfl ?_
    refine sm_iload ii_mo_test_166 rfl ?_
    refine sm_iload ii_mo_test_168 rfl ?_
    refine sm_icmp_le 178 ii_mo_test_170 (by decide) ?_ ?_
    · refine sm_iload ii_mo_test_178 rfl ?_
      refine sm_msk [true, true, false, false, true, true, true, true, false, false, false, false, false] [some (.ref 62), some (.int a1), none, none, some (.int a4), some (.int a5), some (.int a6), some (.int a7), none, none, none, none, none] rfl ?_
      exact ss_mo_test_180 self56 hself56 (a1) (a4) (a5) (a6) (a7) (x5) w6
    · refine sm_iload ii_mo_test_173 rfl ?_
      refine sm_goto 180 ii_mo_test_175 (by decide) ?_
      refine sm_msk [true, true, false, false, true, true, true, true, false, false, false, false, false] [some (.ref 62), some (.int a1), none, none, some (.int a4), some (.int a5), some (.int a6), some (.int a7), none, none, none, none, none] rfl ?_
      exact ss_mo_test_180 self56 hself56 (a1) (a4) (a5) (a6) (a7) (x3) w6
  · refine sm_iload ii_mo_test_98 rfl ?_
    refine sm_iload ii_mo_test_100 rfl ?_
    refine sm_aload_n ii_mo_test_102 rfl ?_
    refine sm_getR 65 ii_mo_test_103 fl_mo_16 (k := 62) rfl ?_
    refine sm_iload_n ii_mo_test_106 rfl ?_
    refine sm_iald ii_mo_test_107 (k := 65) rfl (fun x7 => ?_)
    refine sm_iload ii_mo_test_108 rfl ?_
    refine sm_iload ii_mo_test_110 rfl ?_
    refine sm_bipush (6 : Int32) ii_mo_test_112 (by decide) ?_
    refine sm_irem ii_mo_test_114 ?_
    refine sm_aload_n ii_mo_test_115 rfl ?_
    refine sm_getR 63 ii_mo_test_116 fl_mo_7 (k := 62) rfl ?_
    refine sm_iconst (1 : Int32) ii_mo_test_119 (by decide) ?_
    refine sm_iald ii_mo_test_120 (k := 63) rfl (fun x9 => ?_)
    refine sm_csI [.int a10, .int x7, .int a8, .int (a7 - a7 / (6 : Int32) * (6 : Int32)), .int x9] [.int a9] rfl ii_mo_test_121 ml_mo_153 (mf_mo_isAble) (mv_mo_isAble) (Nat.le_of_ble_eq_true rfl) rfl rfl rfl (mc_mo_isAble (a10) (x7) (a8) ((a7 - a7 / (6 : Int32) * (6 : Int32))) (x9) w) (fun x10 w11 => ?_)
    refine sm_if_eq 134 ii_mo_test_124 (by decide) ?_ ?_
    · refine sm_iconst (0 : Int32) ii_mo_test_134 (by decide) ?_
      refine sm_msk [true, true, false, false, true, true, true, true, true, false, true, false, false] [some (.ref 62), some (.int a1), none, none, some (.int a4), some (.int a5), some (.int a6), some (.int a7), some (.int a8), none, some (.int a10), none, none] rfl ?_
      exact ss_mo_test_135 self56 hself56 self91 hself91 (a1) (a4) (a5) (a6) (a7) (a8) (a10) (a9) ((0 : Int32)) w11
    · refine sm_iconst (1 : Int32) ii_mo_test_127 (by decide) ?_
      refine sm_iload ii_mo_test_128 rfl ?_
      refine sm_ishl ii_mo_test_130 ?_
      refine sm_goto 135 ii_mo_test_131 (by decide) ?_
      refine sm_msk [true, true, false, false, true, true, true, true, true, false, true, false, false] [some (.ref 62), some (.int a1), none, none, some (.int a4), some (.int a5), some (.int a6), some (.int a7), some (.int a8), none, some (.int a10), none, none] rfl ?_
      exact ss_mo_test_135 self56 hself56 self91 hself91 (a1) (a4) (a5) (a6) (a7) (a8) (a10) (a9) (((1 : Int32) <<< (a10 &&& (31 : Int32)))) w11
set_option maxHeartbeats 4000000 in
set_option maxRecDepth 100000 in
theorem ss_mo_test_91_f {E : Nat × (Nat → Int32)} (self56 : Int32 → Int32 → Int32 → Int32 → Int32 → sm_Mem → sm_R) (hself56 : ∀ (a1 : Int32) (a4 : Int32) (a5 : Int32) (a6 : Int32) (a7 : Int32) (w : sm_Mem), sm_Sim E (mi_mo_test) 56 [some (.ref 62), some (.int a1), none, none, some (.int a4), some (.int a5), some (.int a6), some (.int a7), none, none, none, none, none] [] w (self56 a1 a4 a5 a6 a7 w)) : ∀ (n : Nat) (a1 : Int32) (a4 : Int32) (a5 : Int32) (a6 : Int32) (a7 : Int32) (a8 : Int32) (a9 : Int32) (a10 : Int32) (w : sm_Mem), sm_Sim E (mi_mo_test) 91 [some (.ref 62), some (.int a1), none, none, some (.int a4), some (.int a5), some (.int a6), some (.int a7), some (.int a8), some (.int a9), some (.int a10), none, none] [] w (ff_mo_test_91_f self56 n a1 a4 a5 a6 a7 a8 a9 a10 w)
  | 0, _, _, _, _, _, _, _, _, _ => fun _ _ h => by cases h
  | n + 1, a1, a4, a5, a6, a7, a8, a9, a10, w => ss_mo_test_91_b self56 hself56 _ (ss_mo_test_91_f self56 hself56 n) a1 a4 a5 a6 a7 a8 a9 a10 w
set_option maxHeartbeats 4000000 in
set_option maxRecDepth 100000 in
theorem ss_mo_test_91 {E : Nat × (Nat → Int32)} (self56 : Int32 → Int32 → Int32 → Int32 → Int32 → sm_Mem → sm_R) (hself56 : ∀ (a1 : Int32) (a4 : Int32) (a5 : Int32) (a6 : Int32) (a7 : Int32) (w : sm_Mem), sm_Sim E (mi_mo_test) 56 [some (.ref 62), some (.int a1), none, none, some (.int a4), some (.int a5), some (.int a6), some (.int a7), none, none, none, none, none] [] w (self56 a1 a4 a5 a6 a7 w)) (a1 : Int32) (a4 : Int32) (a5 : Int32) (a6 : Int32) (a7 : Int32) (a8 : Int32) (a9 : Int32) (a10 : Int32) (w : sm_Mem) : sm_Sim E (mi_mo_test) 91 [some (.ref 62), some (.int a1), none, none, some (.int a4), some (.int a5), some (.int a6), some (.int a7), some (.int a8), some (.int a9), some (.int a10), none, none] [] w (ff_mo_test_91 self56 a1 a4 a5 a6 a7 a8 a9 a10 w) := ss_mo_test_91_f self56 hself56 sm_N a1 a4 a5 a6 a7 a8 a9 a10 w
noncomputable def ff_mo_test_83 (self56 : Int32 → Int32 → Int32 → Int32 → Int32 → sm_Mem → sm_R) (a1 : Int32) (a4 : Int32) (a5 : Int32) (a6 : Int32) (a7 : Int32) (b0 : Int32) (w : sm_Mem) : sm_R := ff_mo_test_91 self56 (a1) (a4) (a5) (a6) (a7) (b0) ((0 : Int32)) ((0 : Int32)) w
set_option maxHeartbeats 4000000 in
set_option maxRecDepth 100000 in
theorem ss_mo_test_83 {E : Nat × (Nat → Int32)} (self56 : Int32 → Int32 → Int32 → Int32 → Int32 → sm_Mem → sm_R) (hself56 : ∀ (a1 : Int32) (a4 : Int32) (a5 : Int32) (a6 : Int32) (a7 : Int32) (w : sm_Mem), sm_Sim E (mi_mo_test) 56 [some (.ref 62), some (.int a1), none, none, some (.int a4), some (.int a5), some (.int a6), some (.int a7), none, none, none, none, none] [] w (self56 a1 a4 a5 a6 a7 w)) (a1 : Int32) (a4 : Int32) (a5 : Int32) (a6 : Int32) (a7 : Int32) (b0 : Int32) (w : sm_Mem) : sm_Sim E (mi_mo_test) 83 [some (.ref 62), some (.int a1), none, none, some (.int a4), some (.int a5), some (.int a6), some (.int a7), none, none, none, none, none] [.int b0] w (ff_mo_test_83 self56 a1 a4 a5 a6 a7 b0 w) := by
  unfold ff_mo_test_83
  refine sm_istore [some (.ref 62), some (.int a1), none, none, some (.int a4), some (.int a5), some (.int a6), some (.int a7), some (.int b0), none, none, none, none] ii_mo_test_83 rfl rfl ?_
  refine sm_iconst (0 : Int32) ii_mo_test_85 (by decide) ?_
  refine sm_istore [some (.ref 62), some (.int a1), none, none, some (.int a4), some (.int a5), some (.int a6), some (.int a7), some (.int b0), some (.int (0 : Int32)), none, none, none] ii_mo_test_86 rfl rfl ?_
  refine sm_iconst (0 : Int32) ii_mo_test_88 (by decide) ?_
  refine sm_istore [some (.ref 62), some (.int a1), none, none, some (.int a4), some (.int a5), some (.int a6), some (.int a7), some (.int b0), some (.int (0 : Int32)), some (.int (0 : Int32)), none, none] ii_mo_test_89 rfl rfl ?_
  exact ss_mo_test_91 self56 hself56 (a1) (a4) (a5) (a6) (a7) (b0) ((0 : Int32)) ((0 : Int32)) w
noncomputable def ff_mo_test_56_b  (self56 : Int32 → Int32 → Int32 → Int32 → Int32 → sm_Mem → sm_R) (a1 : Int32) (a4 : Int32) (a5 : Int32) (a6 : Int32) (a7 : Int32) (w : sm_Mem) : sm_R := (if (42 : Int32) ≤ a7 then (sm_let (sm_wI w 62 9 a6) fun w12 => (some (.int a5, w12))) else (if (6 : Int32) = (0 : Int32) then none else (if (a7 / (6 : Int32)) = (0 : Int32) then ff_mo_test_83 self56 (a1) (a4) (a5) (a6) (a7) ((-9 : Int32)) w else (if (6 : Int32) = (0 : Int32) then none else ff_mo_test_83 self56 (a1) (a4) (a5) (a6) (a7) (((a7 / (6 : Int32)) - (1 : Int32))) w))))
noncomputable def ff_mo_test_56_f  : Nat → Int32 → Int32 → Int32 → Int32 → Int32 → sm_Mem → sm_R
  | 0, _, _, _, _, _, _ => none
  | n + 1, a1, a4, a5, a6, a7, w => ff_mo_test_56_b  (ff_mo_test_56_f  n) a1 a4 a5 a6 a7 w
noncomputable def ff_mo_test_56  (a1 : Int32) (a4 : Int32) (a5 : Int32) (a6 : Int32) (a7 : Int32) (w : sm_Mem) : sm_R := ff_mo_test_56_f  sm_N a1 a4 a5 a6 a7 w
set_option maxHeartbeats 4000000 in
set_option maxRecDepth 100000 in
theorem ss_mo_test_56_b {E : Nat × (Nat → Int32)}  (self56 : Int32 → Int32 → Int32 → Int32 → Int32 → sm_Mem → sm_R) (hself56 : ∀ (a1 : Int32) (a4 : Int32) (a5 : Int32) (a6 : Int32) (a7 : Int32) (w : sm_Mem), sm_Sim E (mi_mo_test) 56 [some (.ref 62), some (.int a1), none, none, some (.int a4), some (.int a5), some (.int a6), some (.int a7), none, none, none, none, none] [] w (self56 a1 a4 a5 a6 a7 w)) (a1 : Int32) (a4 : Int32) (a5 : Int32) (a6 : Int32) (a7 : Int32) (w : sm_Mem) : sm_Sim E (mi_mo_test) 56 [some (.ref 62), some (.int a1), none, none, some (.int a4), some (.int a5), some (.int a6), some (.int a7), none, none, none, none, none] [] w (ff_mo_test_56_b  self56 a1 a4 a5 a6 a7 w) := by
  unfold ff_mo_test_56_b
  refine sm_iload ii_mo_test_56 rfl ?_
  refine sm_bipush (42 : Int32) ii_mo_test_58 (by decide) ?_
  refine sm_icmp_ge 232 ii_mo_test_60 (by decide) ?_ ?_
  · refine sm_aload_n ii_mo_test_232 rfl ?_
    refine sm_iload ii_mo_test_233 rfl ?_
    refine sm_putI ii_mo_test_235 fp_mo_66 (k := 62) rfl (fun w12 => ?_)
    refine sm_iload ii_mo_test_238 rfl ?_
    exact sm_iret ii_mo_test_240 rfl
  · refine sm_iload ii_mo_test_63 rfl ?_
    refine sm_bipush (6 : Int32) ii_mo_test_65 (by decide) ?_
    refine sm_idiv ii_mo_test_67 ?_
    refine sm_if_ne 76 ii_mo_test_68 (by decide) ?_ ?_
    · refine sm_bipush (-9 : Int32) ii_mo_test_71 (by decide) ?_
      refine sm_goto 83 ii_mo_test_73 (by decide) ?_
      exact ss_mo_test_83 self56 hself56 (a1) (a4) (a5) (a6) (a7) ((-9 : Int32)) w
    · refine sm_iload ii_mo_test_76 rfl ?_
      refine sm_bipush (6 : Int32) ii_mo_test_78 (by decide) ?_
      refine sm_idiv ii_mo_test_80 ?_
      refine sm_iconst (1 : Int32) ii_mo_test_81 (by decide) ?_
      refine sm_isub ii_mo_test_82 ?_
      exact ss_mo_test_83 self56 hself56 (a1) (a4) (a5) (a6) (a7) (((a7 / (6 : Int32)) - (1 : Int32))) w
set_option maxHeartbeats 4000000 in
set_option maxRecDepth 100000 in
theorem ss_mo_test_56_f {E : Nat × (Nat → Int32)}  : ∀ (n : Nat) (a1 : Int32) (a4 : Int32) (a5 : Int32) (a6 : Int32) (a7 : Int32) (w : sm_Mem), sm_Sim E (mi_mo_test) 56 [some (.ref 62), some (.int a1), none, none, some (.int a4), some (.int a5), some (.int a6), some (.int a7), none, none, none, none, none] [] w (ff_mo_test_56_f  n a1 a4 a5 a6 a7 w)
  | 0, _, _, _, _, _, _ => fun _ _ h => by cases h
  | n + 1, a1, a4, a5, a6, a7, w => ss_mo_test_56_b  _ (ss_mo_test_56_f  n) a1 a4 a5 a6 a7 w
set_option maxHeartbeats 4000000 in
set_option maxRecDepth 100000 in
theorem ss_mo_test_56 {E : Nat × (Nat → Int32)}  (a1 : Int32) (a4 : Int32) (a5 : Int32) (a6 : Int32) (a7 : Int32) (w : sm_Mem) : sm_Sim E (mi_mo_test) 56 [some (.ref 62), some (.int a1), none, none, some (.int a4), some (.int a5), some (.int a6), some (.int a7), none, none, none, none, none] [] w (ff_mo_test_56  a1 a4 a5 a6 a7 w) := ss_mo_test_56_f  sm_N a1 a4 a5 a6 a7 w
noncomputable def ff_mo_test  (a1 : Int32) (a2 : Int32) (w : sm_Mem) : sm_R := (sm_cI (ff_mo_isSpeaker (a1) w) fun x15 w16 => (if x15 = (0 : Int32) then (some (.int (-1 : Int32), w16)) else (sm_cI (ff_mo_isRow (a2) w16) fun x17 w18 => (if x17 = (0 : Int32) then (some (.int (-1 : Int32), w18)) else (sm_cI (ff_mo_noTriples (a2) w18) fun x19 w20 => (if x19 = (0 : Int32) then (sm_cI (ff_mo_kindsBy (a1) (a2) w20) fun x21 w22 => (if x21 = (0 : Int32) then (some (.int (-9 : Int32), w22)) else ff_mo_test_56 (a1) (x21) ((-9 : Int32)) ((7 : Int32)) ((0 : Int32)) w22)) else (some (.int x19, w20))))))))
set_option maxHeartbeats 4000000 in
set_option maxRecDepth 100000 in
theorem ss_mo_test_0 {E : Nat × (Nat → Int32)}  (a1 : Int32) (a2 : Int32) (w : sm_Mem) : sm_Sim E (mi_mo_test) 0 [some (.ref 62), some (.int a1), some (.int a2), none, none, none, none, none, none, none, none, none, none] [] w (ff_mo_test  a1 a2 w) := by
  unfold ff_mo_test
  refine sm_aload_n ii_mo_test_0 rfl ?_
  refine sm_iload_n ii_mo_test_1 rfl ?_
  refine sm_cvI [.int a1] [] rfl ii_mo_test_2 ml_mo_160 (mf_mo_isSpeaker) (mv_mo_isSpeaker) (Nat.le_of_ble_eq_true rfl) rfl 7 rfl rfl rfl rfl (mc_mo_isSpeaker (a1) w) (fun x15 w16 => ?_)
  refine sm_if_eq 15 ii_mo_test_5 (by decide) ?_ ?_
  · refine sm_iconst (-1 : Int32) ii_mo_test_15 (by decide) ?_
    exact sm_iret ii_mo_test_16 rfl
  · refine sm_iload_n ii_mo_test_8 rfl ?_
    refine sm_csI [.int a2] [] rfl ii_mo_test_9 ml_mo_77 (mf_mo_isRow) (mv_mo_isRow) (Nat.le_of_ble_eq_true rfl) rfl rfl rfl (mc_mo_isRow (a2) w16) (fun x17 w18 => ?_)
    refine sm_if_ne 17 ii_mo_test_12 (by decide) ?_ ?_
    · refine sm_iconst (-1 : Int32) ii_mo_test_15 (by decide) ?_
      exact sm_iret ii_mo_test_16 rfl
    · refine sm_aload_n ii_mo_test_17 rfl ?_
      refine sm_iload_n ii_mo_test_18 rfl ?_
      refine sm_cvI [.int a2] [] rfl ii_mo_test_19 ml_mo_263 (mf_mo_noTriples) (mv_mo_noTriples) (Nat.le_of_ble_eq_true rfl) rfl 7 rfl rfl rfl rfl (mc_mo_noTriples (a2) w18) (fun x19 w20 => ?_)
      refine sm_istore_n [some (.ref 62), some (.int a1), some (.int a2), some (.int x19), none, none, none, none, none, none, none, none, none] ii_mo_test_22 rfl rfl ?_
      refine sm_iload_n ii_mo_test_23 rfl ?_
      refine sm_if_eq 29 ii_mo_test_24 (by decide) ?_ ?_
      · refine sm_aload_n ii_mo_test_29 rfl ?_
        refine sm_iload_n ii_mo_test_30 rfl ?_
        refine sm_iload_n ii_mo_test_31 rfl ?_
        refine sm_cvI [.int a1, .int a2] [] rfl ii_mo_test_32 ml_mo_266 (mf_mo_kindsBy) (mv_mo_kindsBy) (Nat.le_of_ble_eq_true rfl) rfl 7 rfl rfl rfl rfl (mc_mo_kindsBy (a1) (a2) w20) (fun x21 w22 => ?_)
        refine sm_istore [some (.ref 62), some (.int a1), some (.int a2), some (.int x19), some (.int x21), none, none, none, none, none, none, none, none] ii_mo_test_35 rfl rfl ?_
        refine sm_iload ii_mo_test_37 rfl ?_
        refine sm_if_ne 45 ii_mo_test_39 (by decide) ?_ ?_
        · refine sm_bipush (-9 : Int32) ii_mo_test_42 (by decide) ?_
          exact sm_iret ii_mo_test_44 rfl
        · refine sm_bipush (-9 : Int32) ii_mo_test_45 (by decide) ?_
          refine sm_istore [some (.ref 62), some (.int a1), some (.int a2), some (.int x19), some (.int x21), some (.int (-9 : Int32)), none, none, none, none, none, none, none] ii_mo_test_47 rfl rfl ?_
          refine sm_bipush (7 : Int32) ii_mo_test_49 (by decide) ?_
          refine sm_istore [some (.ref 62), some (.int a1), some (.int a2), some (.int x19), some (.int x21), some (.int (-9 : Int32)), some (.int (7 : Int32)), none, none, none, none, none, none] ii_mo_test_51 rfl rfl ?_
          refine sm_iconst (0 : Int32) ii_mo_test_53 (by decide) ?_
          refine sm_istore [some (.ref 62), some (.int a1), some (.int a2), some (.int x19), some (.int x21), some (.int (-9 : Int32)), some (.int (7 : Int32)), some (.int (0 : Int32)), none, none, none, none, none] ii_mo_test_54 rfl rfl ?_
          refine sm_msk [true, true, false, false, true, true, true, true, false, false, false, false, false] [some (.ref 62), some (.int a1), none, none, some (.int x21), some (.int (-9 : Int32)), some (.int (7 : Int32)), some (.int (0 : Int32)), none, none, none, none, none] rfl ?_
          exact ss_mo_test_56 (a1) (x21) ((-9 : Int32)) ((7 : Int32)) ((0 : Int32)) w22
      · refine sm_iload_n ii_mo_test_27 rfl ?_
        exact sm_iret ii_mo_test_28 rfl
set_option maxHeartbeats 4000000 in
set_option maxRecDepth 100000 in
theorem mc_mo_test (a1 : Int32) (a2 : Int32) (w : sm_Mem) : sm_MC mi_mo_test [.ref 62, .int a1, .int a2] w (ff_mo_test a1 a2 w) := sm_MC_of (0, fun _ => 0) (by decide +kernel) (by decide) rfl (Nat.le_of_ble_eq_true rfl) (ss_mo_test_0 a1 a2 w)
abbrev mi_hs_invite : sm_MI := (⟨"HerOrders$House", "invite", "(I)V"⟩, prog_3_method_11_code, 2, none, 1)
set_option maxRecDepth 100000 in
theorem mf_hs_invite : sm_MF mi_hs_invite 1 := ⟨List.mem_of_getElem? (i := 799) (by decide +kernel), List.mem_of_getElem? (i := 128) (by decide +kernel), ⟨by decide, by decide⟩, by decide +kernel⟩
set_option maxRecDepth 100000 in
theorem mv_hs_invite : sm_MFV mi_hs_invite := ⟨List.mem_of_getElem? (i := 798) (by decide +kernel), List.mem_of_getElem? (i := 56) (by decide +kernel)⟩
set_option maxRecDepth 100000 in
theorem ii_hs_invite_0 : sm_D prog_3_method_11_code 0 1 1 (.aload_n 0) := ⟨by decide +kernel, rfl⟩
set_option maxRecDepth 100000 in
theorem ii_hs_invite_1 : sm_D prog_3_method_11_code 1 3 4 (.getfield 45) := ⟨by decide +kernel, rfl⟩
set_option maxRecDepth 100000 in
theorem ii_hs_invite_4 : sm_D prog_3_method_11_code 4 2 6 (.bipush 6) := ⟨by decide +kernel, rfl⟩
set_option maxRecDepth 100000 in
theorem ii_hs_invite_6 : sm_D prog_3_method_11_code 6 3 9 (.if_icmp .lt 4) := ⟨by decide +kernel, rfl⟩
set_option maxRecDepth 100000 in
theorem ii_hs_invite_9 : sm_D prog_3_method_11_code 9 1 10 (.return_) := ⟨by decide +kernel, rfl⟩
set_option maxRecDepth 100000 in
theorem ii_hs_invite_10 : sm_D prog_3_method_11_code 10 1 11 (.aload_n 0) := ⟨by decide +kernel, rfl⟩
set_option maxRecDepth 100000 in
theorem ii_hs_invite_11 : sm_D prog_3_method_11_code 11 3 14 (.getfield 9) := ⟨by decide +kernel, rfl⟩
set_option maxRecDepth 100000 in
theorem ii_hs_invite_14 : sm_D prog_3_method_11_code 14 1 15 (.aload_n 0) := ⟨by decide +kernel, rfl⟩
set_option maxRecDepth 100000 in
theorem ii_hs_invite_15 : sm_D prog_3_method_11_code 15 3 18 (.getfield 45) := ⟨by decide +kernel, rfl⟩
set_option maxRecDepth 100000 in
theorem ii_hs_invite_18 : sm_D prog_3_method_11_code 18 1 19 (.iconst 0) := ⟨by decide +kernel, rfl⟩
set_option maxRecDepth 100000 in
theorem ii_hs_invite_19 : sm_D prog_3_method_11_code 19 1 20 (.iastore) := ⟨by decide +kernel, rfl⟩
set_option maxRecDepth 100000 in
theorem ii_hs_invite_20 : sm_D prog_3_method_11_code 20 1 21 (.aload_n 0) := ⟨by decide +kernel, rfl⟩
set_option maxRecDepth 100000 in
theorem ii_hs_invite_21 : sm_D prog_3_method_11_code 21 3 24 (.getfield 15) := ⟨by decide +kernel, rfl⟩
set_option maxRecDepth 100000 in
theorem ii_hs_invite_24 : sm_D prog_3_method_11_code 24 1 25 (.aload_n 0) := ⟨by decide +kernel, rfl⟩
set_option maxRecDepth 100000 in
theorem ii_hs_invite_25 : sm_D prog_3_method_11_code 25 3 28 (.getfield 45) := ⟨by decide +kernel, rfl⟩
set_option maxRecDepth 100000 in
theorem ii_hs_invite_28 : sm_D prog_3_method_11_code 28 2 30 (.bipush 63) := ⟨by decide +kernel, rfl⟩
set_option maxRecDepth 100000 in
theorem ii_hs_invite_30 : sm_D prog_3_method_11_code 30 1 31 (.iastore) := ⟨by decide +kernel, rfl⟩
set_option maxRecDepth 100000 in
theorem ii_hs_invite_31 : sm_D prog_3_method_11_code 31 1 32 (.aload_n 0) := ⟨by decide +kernel, rfl⟩
set_option maxRecDepth 100000 in
theorem ii_hs_invite_32 : sm_D prog_3_method_11_code 32 3 35 (.getfield 24) := ⟨by decide +kernel, rfl⟩
set_option maxRecDepth 100000 in
theorem ii_hs_invite_35 : sm_D prog_3_method_11_code 35 1 36 (.aload_n 0) := ⟨by decide +kernel, rfl⟩
set_option maxRecDepth 100000 in
theorem ii_hs_invite_36 : sm_D prog_3_method_11_code 36 3 39 (.getfield 45) := ⟨by decide +kernel, rfl⟩
set_option maxRecDepth 100000 in
theorem ii_hs_invite_39 : sm_D prog_3_method_11_code 39 1 40 (.iload_n 1) := ⟨by decide +kernel, rfl⟩
set_option maxRecDepth 100000 in
theorem ii_hs_invite_40 : sm_D prog_3_method_11_code 40 1 41 (.iastore) := ⟨by decide +kernel, rfl⟩
set_option maxRecDepth 100000 in
theorem ii_hs_invite_41 : sm_D prog_3_method_11_code 41 1 42 (.aload_n 0) := ⟨by decide +kernel, rfl⟩
set_option maxRecDepth 100000 in
theorem ii_hs_invite_42 : sm_D prog_3_method_11_code 42 3 45 (.getfield 27) := ⟨by decide +kernel, rfl⟩
set_option maxRecDepth 100000 in
theorem ii_hs_invite_45 : sm_D prog_3_method_11_code 45 1 46 (.aload_n 0) := ⟨by decide +kernel, rfl⟩
set_option maxRecDepth 100000 in
theorem ii_hs_invite_46 : sm_D prog_3_method_11_code 46 3 49 (.getfield 45) := ⟨by decide +kernel, rfl⟩
set_option maxRecDepth 100000 in
theorem ii_hs_invite_49 : sm_D prog_3_method_11_code 49 2 51 (.bipush 9) := ⟨by decide +kernel, rfl⟩
set_option maxRecDepth 100000 in
theorem ii_hs_invite_51 : sm_D prog_3_method_11_code 51 1 52 (.iastore) := ⟨by decide +kernel, rfl⟩
set_option maxRecDepth 100000 in
theorem ii_hs_invite_52 : sm_D prog_3_method_11_code 52 1 53 (.aload_n 0) := ⟨by decide +kernel, rfl⟩
set_option maxRecDepth 100000 in
theorem ii_hs_invite_53 : sm_D prog_3_method_11_code 53 1 54 (.dup) := ⟨by decide +kernel, rfl⟩
set_option maxRecDepth 100000 in
theorem ii_hs_invite_54 : sm_D prog_3_method_11_code 54 3 57 (.getfield 45) := ⟨by decide +kernel, rfl⟩
set_option maxRecDepth 100000 in
theorem ii_hs_invite_57 : sm_D prog_3_method_11_code 57 1 58 (.iconst 1) := ⟨by decide +kernel, rfl⟩
set_option maxRecDepth 100000 in
theorem ii_hs_invite_58 : sm_D prog_3_method_11_code 58 1 59 (.iadd) := ⟨by decide +kernel, rfl⟩
set_option maxRecDepth 100000 in
theorem ii_hs_invite_59 : sm_D prog_3_method_11_code 59 3 62 (.putfield 45) := ⟨by decide +kernel, rfl⟩
set_option maxRecDepth 100000 in
theorem ii_hs_invite_62 : sm_D prog_3_method_11_code 62 1 63 (.return_) := ⟨by decide +kernel, rfl⟩
noncomputable def ff_hs_invite  (a1 : Int32) (w : sm_Mem) : sm_R := (if (w.1 36 0) < (6 : Int32) then (Option.bind (sm_wr w 37 6 (w.1 36 0) (0 : Int32)) fun w1 => (Option.bind (sm_wr w1 38 6 (w1.1 36 0) (63 : Int32)) fun w2 => (Option.bind (sm_wr w2 41 6 (w2.1 36 0) a1) fun w3 => (Option.bind (sm_wr w3 42 6 (w3.1 36 0) (9 : Int32)) fun w4 => (sm_let (sm_wI w4 36 0 ((w4.1 36 0) + (1 : Int32))) fun w5 => (some (.null, w5))))))) else (some (.null, w)))
set_option maxHeartbeats 4000000 in
set_option maxRecDepth 100000 in
theorem ss_hs_invite_0 {E : Nat × (Nat → Int32)}  (a1 : Int32) (w : sm_Mem) : sm_Sim E (mi_hs_invite) 0 [some (.ref 36), some (.int a1)] [] w (ff_hs_invite  a1 w) := by
  unfold ff_hs_invite
  refine sm_aload_n ii_hs_invite_0 rfl ?_
  refine sm_getI ii_hs_invite_1 fl_hs_45 (k := 36) rfl ?_
  refine sm_bipush (6 : Int32) ii_hs_invite_4 (by decide) ?_
  refine sm_icmp_lt 10 ii_hs_invite_6 (by decide) ?_ ?_
  · refine sm_aload_n ii_hs_invite_10 rfl ?_
    refine sm_getR 37 ii_hs_invite_11 fl_hs_9 (k := 36) rfl ?_
    refine sm_aload_n ii_hs_invite_14 rfl ?_
    refine sm_getI ii_hs_invite_15 fl_hs_45 (k := 36) rfl ?_
    refine sm_iconst (0 : Int32) ii_hs_invite_18 (by decide) ?_
    refine sm_iast ii_hs_invite_19 (k := 37) rfl (fun w1 => ?_)
    refine sm_aload_n ii_hs_invite_20 rfl ?_
    refine sm_getR 38 ii_hs_invite_21 fl_hs_15 (k := 36) rfl ?_
    refine sm_aload_n ii_hs_invite_24 rfl ?_
    refine sm_getI ii_hs_invite_25 fl_hs_45 (k := 36) rfl ?_
    refine sm_bipush (63 : Int32) ii_hs_invite_28 (by decide) ?_
    refine sm_iast ii_hs_invite_30 (k := 38) rfl (fun w2 => ?_)
    refine sm_aload_n ii_hs_invite_31 rfl ?_
    refine sm_getR 41 ii_hs_invite_32 fl_hs_24 (k := 36) rfl ?_
    refine sm_aload_n ii_hs_invite_35 rfl ?_
    refine sm_getI ii_hs_invite_36 fl_hs_45 (k := 36) rfl ?_
    refine sm_iload_n ii_hs_invite_39 rfl ?_
    refine sm_iast ii_hs_invite_40 (k := 41) rfl (fun w3 => ?_)
    refine sm_aload_n ii_hs_invite_41 rfl ?_
    refine sm_getR 42 ii_hs_invite_42 fl_hs_27 (k := 36) rfl ?_
    refine sm_aload_n ii_hs_invite_45 rfl ?_
    refine sm_getI ii_hs_invite_46 fl_hs_45 (k := 36) rfl ?_
    refine sm_bipush (9 : Int32) ii_hs_invite_49 (by decide) ?_
    refine sm_iast ii_hs_invite_51 (k := 42) rfl (fun w4 => ?_)
    refine sm_aload_n ii_hs_invite_52 rfl ?_
    refine sm_dupR ii_hs_invite_53 ?_
    refine sm_getI ii_hs_invite_54 fl_hs_45 (k := 36) rfl ?_
    refine sm_iconst (1 : Int32) ii_hs_invite_57 (by decide) ?_
    refine sm_iadd ii_hs_invite_58 ?_
    refine sm_putI ii_hs_invite_59 fp_hs_45 (k := 36) rfl (fun w5 => ?_)
    exact sm_vret ii_hs_invite_62 rfl
  · exact sm_vret ii_hs_invite_9 rfl
set_option maxHeartbeats 4000000 in
set_option maxRecDepth 100000 in
theorem mc_hs_invite (a1 : Int32) (w : sm_Mem) : sm_MC mi_hs_invite [.ref 36, .int a1] w (ff_hs_invite a1 w) := sm_MC_of (0, fun _ => 0) (by decide +kernel) (by decide) rfl (Nat.le_of_ble_eq_true rfl) (ss_hs_invite_0 a1 w)
abbrev mi_hs_dismiss : sm_MI := (⟨"HerOrders$House", "dismiss", "()V"⟩, prog_3_method_12_code, 1, none, 1)
set_option maxRecDepth 100000 in
theorem mf_hs_dismiss : sm_MF mi_hs_dismiss 0 := ⟨List.mem_of_getElem? (i := 803) (by decide +kernel), List.mem_of_getElem? (i := 128) (by decide +kernel), ⟨by decide, by decide⟩, by decide +kernel⟩
set_option maxRecDepth 100000 in
theorem mv_hs_dismiss : sm_MFV mi_hs_dismiss := ⟨List.mem_of_getElem? (i := 802) (by decide +kernel), List.mem_of_getElem? (i := 57) (by decide +kernel)⟩
set_option maxRecDepth 100000 in
theorem ii_hs_dismiss_0 : sm_D prog_3_method_12_code 0 1 1 (.aload_n 0) := ⟨by decide +kernel, rfl⟩
set_option maxRecDepth 100000 in
theorem ii_hs_dismiss_1 : sm_D prog_3_method_12_code 1 3 4 (.getfield 45) := ⟨by decide +kernel, rfl⟩
set_option maxRecDepth 100000 in
theorem ii_hs_dismiss_4 : sm_D prog_3_method_12_code 4 3 7 (.ifCond .le 13) := ⟨by decide +kernel, rfl⟩
set_option maxRecDepth 100000 in
theorem ii_hs_dismiss_7 : sm_D prog_3_method_12_code 7 1 8 (.aload_n 0) := ⟨by decide +kernel, rfl⟩
set_option maxRecDepth 100000 in
theorem ii_hs_dismiss_8 : sm_D prog_3_method_12_code 8 1 9 (.dup) := ⟨by decide +kernel, rfl⟩
set_option maxRecDepth 100000 in
theorem ii_hs_dismiss_9 : sm_D prog_3_method_12_code 9 3 12 (.getfield 45) := ⟨by decide +kernel, rfl⟩
set_option maxRecDepth 100000 in
theorem ii_hs_dismiss_12 : sm_D prog_3_method_12_code 12 1 13 (.iconst 1) := ⟨by decide +kernel, rfl⟩
set_option maxRecDepth 100000 in
theorem ii_hs_dismiss_13 : sm_D prog_3_method_12_code 13 1 14 (.isub) := ⟨by decide +kernel, rfl⟩
set_option maxRecDepth 100000 in
theorem ii_hs_dismiss_14 : sm_D prog_3_method_12_code 14 3 17 (.putfield 45) := ⟨by decide +kernel, rfl⟩
set_option maxRecDepth 100000 in
theorem ii_hs_dismiss_17 : sm_D prog_3_method_12_code 17 1 18 (.return_) := ⟨by decide +kernel, rfl⟩
noncomputable def ff_hs_dismiss   (w : sm_Mem) : sm_R := (if (w.1 36 0) ≤ (0 : Int32) then (some (.null, w)) else (sm_let (sm_wI w 36 0 ((w.1 36 0) - (1 : Int32))) fun w1 => (some (.null, w1))))
set_option maxHeartbeats 4000000 in
set_option maxRecDepth 100000 in
theorem ss_hs_dismiss_0 {E : Nat × (Nat → Int32)}   (w : sm_Mem) : sm_Sim E (mi_hs_dismiss) 0 [some (.ref 36)] [] w (ff_hs_dismiss   w) := by
  unfold ff_hs_dismiss
  refine sm_aload_n ii_hs_dismiss_0 rfl ?_
  refine sm_getI ii_hs_dismiss_1 fl_hs_45 (k := 36) rfl ?_
  refine sm_if_le 17 ii_hs_dismiss_4 (by decide) ?_ ?_
  · exact sm_vret ii_hs_dismiss_17 rfl
  · refine sm_aload_n ii_hs_dismiss_7 rfl ?_
    refine sm_dupR ii_hs_dismiss_8 ?_
    refine sm_getI ii_hs_dismiss_9 fl_hs_45 (k := 36) rfl ?_
    refine sm_iconst (1 : Int32) ii_hs_dismiss_12 (by decide) ?_
    refine sm_isub ii_hs_dismiss_13 ?_
    refine sm_putI ii_hs_dismiss_14 fp_hs_45 (k := 36) rfl (fun w1 => ?_)
    exact sm_vret ii_hs_dismiss_17 rfl
set_option maxHeartbeats 4000000 in
set_option maxRecDepth 100000 in
theorem mc_hs_dismiss  (w : sm_Mem) : sm_MC mi_hs_dismiss [.ref 36] w (ff_hs_dismiss  w) := sm_MC_of (0, fun _ => 0) (by decide +kernel) (by decide) rfl (Nat.le_of_ble_eq_true rfl) (ss_hs_dismiss_0  w)
abbrev mi_ho_fourth : sm_MI := (⟨"HerOrders", "fourth", "(II)I"⟩, prog_1_method_33_code, 4, (some .int), 15)
set_option maxRecDepth 100000 in
theorem mf_ho_fourth : sm_MF mi_ho_fourth 2 := ⟨List.mem_of_getElem? (i := 795) (by decide +kernel), List.mem_of_getElem? (i := 124) (by decide +kernel), ⟨by decide, by decide⟩, by decide +kernel⟩
set_option maxRecDepth 100000 in
theorem mv_ho_fourth : sm_MFV mi_ho_fourth := ⟨List.mem_of_getElem? (i := 793) (by decide +kernel), List.mem_of_getElem? (i := 794) (by decide +kernel)⟩
set_option maxRecDepth 100000 in
theorem ii_ho_fourth_0 : sm_D prog_1_method_33_code 0 1 1 (.iload_n 2) := ⟨by decide +kernel, rfl⟩
set_option maxRecDepth 100000 in
theorem ii_ho_fourth_1 : sm_D prog_1_method_33_code 1 2 3 (.bipush 6) := ⟨by decide +kernel, rfl⟩
set_option maxRecDepth 100000 in
theorem ii_ho_fourth_3 : sm_D prog_1_method_33_code 3 3 6 (.invokestatic 81) := ⟨by decide +kernel, rfl⟩
set_option maxRecDepth 100000 in
theorem ii_ho_fourth_6 : sm_D prog_1_method_33_code 6 3 9 (.ifCond .ne 5) := ⟨by decide +kernel, rfl⟩
set_option maxRecDepth 100000 in
theorem ii_ho_fourth_9 : sm_D prog_1_method_33_code 9 1 10 (.iconst (-1)) := ⟨by decide +kernel, rfl⟩
set_option maxRecDepth 100000 in
theorem ii_ho_fourth_10 : sm_D prog_1_method_33_code 10 1 11 (.ireturn) := ⟨by decide +kernel, rfl⟩
set_option maxRecDepth 100000 in
theorem ii_ho_fourth_11 : sm_D prog_1_method_33_code 11 1 12 (.aload_n 0) := ⟨by decide +kernel, rfl⟩
set_option maxRecDepth 100000 in
theorem ii_ho_fourth_12 : sm_D prog_1_method_33_code 12 1 13 (.iload_n 1) := ⟨by decide +kernel, rfl⟩
set_option maxRecDepth 100000 in
theorem ii_ho_fourth_13 : sm_D prog_1_method_33_code 13 1 14 (.iconst 5) := ⟨by decide +kernel, rfl⟩
set_option maxRecDepth 100000 in
theorem ii_ho_fourth_14 : sm_D prog_1_method_33_code 14 3 17 (.invokevirtual 192) := ⟨by decide +kernel, rfl⟩
set_option maxRecDepth 100000 in
theorem ii_ho_fourth_17 : sm_D prog_1_method_33_code 17 1 18 (.istore_n 3) := ⟨by decide +kernel, rfl⟩
set_option maxRecDepth 100000 in
theorem ii_ho_fourth_18 : sm_D prog_1_method_33_code 18 1 19 (.iload_n 3) := ⟨by decide +kernel, rfl⟩
set_option maxRecDepth 100000 in
theorem ii_ho_fourth_19 : sm_D prog_1_method_33_code 19 3 22 (.ifCond .eq 5) := ⟨by decide +kernel, rfl⟩
set_option maxRecDepth 100000 in
theorem ii_ho_fourth_22 : sm_D prog_1_method_33_code 22 1 23 (.iload_n 3) := ⟨by decide +kernel, rfl⟩
set_option maxRecDepth 100000 in
theorem ii_ho_fourth_23 : sm_D prog_1_method_33_code 23 1 24 (.ireturn) := ⟨by decide +kernel, rfl⟩
set_option maxRecDepth 100000 in
theorem ii_ho_fourth_24 : sm_D prog_1_method_33_code 24 1 25 (.aload_n 0) := ⟨by decide +kernel, rfl⟩
set_option maxRecDepth 100000 in
theorem ii_ho_fourth_25 : sm_D prog_1_method_33_code 25 3 28 (.getfield 31) := ⟨by decide +kernel, rfl⟩
set_option maxRecDepth 100000 in
theorem ii_ho_fourth_28 : sm_D prog_1_method_33_code 28 3 31 (.getfield 115) := ⟨by decide +kernel, rfl⟩
set_option maxRecDepth 100000 in
theorem ii_ho_fourth_31 : sm_D prog_1_method_33_code 31 2 33 (.bipush 6) := ⟨by decide +kernel, rfl⟩
set_option maxRecDepth 100000 in
theorem ii_ho_fourth_33 : sm_D prog_1_method_33_code 33 3 36 (.if_icmp .lt 6) := ⟨by decide +kernel, rfl⟩
set_option maxRecDepth 100000 in
theorem ii_ho_fourth_36 : sm_D prog_1_method_33_code 36 2 38 (.bipush (-9)) := ⟨by decide +kernel, rfl⟩
set_option maxRecDepth 100000 in
theorem ii_ho_fourth_38 : sm_D prog_1_method_33_code 38 1 39 (.ireturn) := ⟨by decide +kernel, rfl⟩
set_option maxRecDepth 100000 in
theorem ii_ho_fourth_39 : sm_D prog_1_method_33_code 39 1 40 (.aload_n 0) := ⟨by decide +kernel, rfl⟩
set_option maxRecDepth 100000 in
theorem ii_ho_fourth_40 : sm_D prog_1_method_33_code 40 3 43 (.getfield 31) := ⟨by decide +kernel, rfl⟩
set_option maxRecDepth 100000 in
theorem ii_ho_fourth_43 : sm_D prog_1_method_33_code 43 1 44 (.iload_n 2) := ⟨by decide +kernel, rfl⟩
set_option maxRecDepth 100000 in
theorem ii_ho_fourth_44 : sm_D prog_1_method_33_code 44 3 47 (.invokevirtual 266) := ⟨by decide +kernel, rfl⟩
set_option maxRecDepth 100000 in
theorem ii_ho_fourth_47 : sm_D prog_1_method_33_code 47 1 48 (.aload_n 0) := ⟨by decide +kernel, rfl⟩
set_option maxRecDepth 100000 in
theorem ii_ho_fourth_48 : sm_D prog_1_method_33_code 48 3 51 (.getfield 40) := ⟨by decide +kernel, rfl⟩
set_option maxRecDepth 100000 in
theorem ii_ho_fourth_51 : sm_D prog_1_method_33_code 51 1 52 (.aload_n 0) := ⟨by decide +kernel, rfl⟩
set_option maxRecDepth 100000 in
theorem ii_ho_fourth_52 : sm_D prog_1_method_33_code 52 3 55 (.getfield 11) := ⟨by decide +kernel, rfl⟩
set_option maxRecDepth 100000 in
theorem ii_ho_fourth_55 : sm_D prog_1_method_33_code 55 1 56 (.iload_n 1) := ⟨by decide +kernel, rfl⟩
set_option maxRecDepth 100000 in
theorem ii_ho_fourth_56 : sm_D prog_1_method_33_code 56 1 57 (.aaload) := ⟨by decide +kernel, rfl⟩
set_option maxRecDepth 100000 in
theorem ii_ho_fourth_57 : sm_D prog_1_method_33_code 57 1 58 (.aload_n 0) := ⟨by decide +kernel, rfl⟩
set_option maxRecDepth 100000 in
theorem ii_ho_fourth_58 : sm_D prog_1_method_33_code 58 3 61 (.getfield 31) := ⟨by decide +kernel, rfl⟩
set_option maxRecDepth 100000 in
theorem ii_ho_fourth_61 : sm_D prog_1_method_33_code 61 3 64 (.getfield 115) := ⟨by decide +kernel, rfl⟩
set_option maxRecDepth 100000 in
theorem ii_ho_fourth_64 : sm_D prog_1_method_33_code 64 1 65 (.iconst 1) := ⟨by decide +kernel, rfl⟩
set_option maxRecDepth 100000 in
theorem ii_ho_fourth_65 : sm_D prog_1_method_33_code 65 1 66 (.isub) := ⟨by decide +kernel, rfl⟩
set_option maxRecDepth 100000 in
theorem ii_ho_fourth_66 : sm_D prog_1_method_33_code 66 3 69 (.invokevirtual 195) := ⟨by decide +kernel, rfl⟩
set_option maxRecDepth 100000 in
theorem ii_ho_fourth_69 : sm_D prog_1_method_33_code 69 1 70 (.aload_n 0) := ⟨by decide +kernel, rfl⟩
set_option maxRecDepth 100000 in
theorem ii_ho_fourth_70 : sm_D prog_1_method_33_code 70 3 73 (.getfield 31) := ⟨by decide +kernel, rfl⟩
set_option maxRecDepth 100000 in
theorem ii_ho_fourth_73 : sm_D prog_1_method_33_code 73 3 76 (.invokevirtual 269) := ⟨by decide +kernel, rfl⟩
set_option maxRecDepth 100000 in
theorem ii_ho_fourth_76 : sm_D prog_1_method_33_code 76 1 77 (.aload_n 0) := ⟨by decide +kernel, rfl⟩
set_option maxRecDepth 100000 in
theorem ii_ho_fourth_77 : sm_D prog_1_method_33_code 77 3 80 (.getfield 40) := ⟨by decide +kernel, rfl⟩
set_option maxRecDepth 100000 in
theorem ii_ho_fourth_80 : sm_D prog_1_method_33_code 80 3 83 (.getfield 272) := ⟨by decide +kernel, rfl⟩
set_option maxRecDepth 100000 in
theorem ii_ho_fourth_83 : sm_D prog_1_method_33_code 83 2 85 (.bipush (-9)) := ⟨by decide +kernel, rfl⟩
set_option maxRecDepth 100000 in
theorem ii_ho_fourth_85 : sm_D prog_1_method_33_code 85 3 88 (.if_icmp .ne 6) := ⟨by decide +kernel, rfl⟩
set_option maxRecDepth 100000 in
theorem ii_ho_fourth_88 : sm_D prog_1_method_33_code 88 2 90 (.bipush (-9)) := ⟨by decide +kernel, rfl⟩
set_option maxRecDepth 100000 in
theorem ii_ho_fourth_90 : sm_D prog_1_method_33_code 90 1 91 (.ireturn) := ⟨by decide +kernel, rfl⟩
set_option maxRecDepth 100000 in
theorem ii_ho_fourth_91 : sm_D prog_1_method_33_code 91 1 92 (.aload_n 0) := ⟨by decide +kernel, rfl⟩
set_option maxRecDepth 100000 in
theorem ii_ho_fourth_92 : sm_D prog_1_method_33_code 92 3 95 (.getfield 54) := ⟨by decide +kernel, rfl⟩
set_option maxRecDepth 100000 in
theorem ii_ho_fourth_95 : sm_D prog_1_method_33_code 95 1 96 (.aload_n 0) := ⟨by decide +kernel, rfl⟩
set_option maxRecDepth 100000 in
theorem ii_ho_fourth_96 : sm_D prog_1_method_33_code 96 3 99 (.getfield 40) := ⟨by decide +kernel, rfl⟩
set_option maxRecDepth 100000 in
theorem ii_ho_fourth_99 : sm_D prog_1_method_33_code 99 3 102 (.getfield 272) := ⟨by decide +kernel, rfl⟩
set_option maxRecDepth 100000 in
theorem ii_ho_fourth_102 : sm_D prog_1_method_33_code 102 3 105 (.putfield 70) := ⟨by decide +kernel, rfl⟩
set_option maxRecDepth 100000 in
theorem ii_ho_fourth_105 : sm_D prog_1_method_33_code 105 1 106 (.aload_n 0) := ⟨by decide +kernel, rfl⟩
set_option maxRecDepth 100000 in
theorem ii_ho_fourth_106 : sm_D prog_1_method_33_code 106 3 109 (.getfield 40) := ⟨by decide +kernel, rfl⟩
set_option maxRecDepth 100000 in
theorem ii_ho_fourth_109 : sm_D prog_1_method_33_code 109 3 112 (.getfield 272) := ⟨by decide +kernel, rfl⟩
set_option maxRecDepth 100000 in
theorem ii_ho_fourth_112 : sm_D prog_1_method_33_code 112 3 115 (.invokestatic 144) := ⟨by decide +kernel, rfl⟩
set_option maxRecDepth 100000 in
theorem ii_ho_fourth_115 : sm_D prog_1_method_33_code 115 1 116 (.ireturn) := ⟨by decide +kernel, rfl⟩
noncomputable def ff_ho_fourth  (a1 : Int32) (a2 : Int32) (w : sm_Mem) : sm_R := (sm_cI (ff_ho_isWithin (a2) ((6 : Int32)) w) fun x1 w2 => (if x1 = (0 : Int32) then (some (.int (-1 : Int32), w2)) else (sm_cI (ff_ho_refusalOfWords (a1) ((5 : Int32)) w2) fun x3 w4 => (if x3 = (0 : Int32) then (if (w4.1 36 0) < (6 : Int32) then (sm_cV (ff_hs_invite (a2) w4) fun w6 => (Option.bind (sm_rr 1 a1) fun r7 => (sm_cV (ff_wy_runWords (r7) (((w6.1 36 0) - (1 : Int32))) w6) fun w9 => (sm_cV (ff_hs_dismiss  w9) fun w11 => (if (w11.1 49 13) = (-9 : Int32) then (some (.int (-9 : Int32), w11)) else (sm_let (sm_wI w11 60 0 (w11.1 49 13)) fun w12 => (sm_cI (ff_ig_bitCount ((w12.1 49 13)) w12) fun x13 w14 => (some (.int x13, w14))))))))) else (some (.int (-9 : Int32), w4))) else (some (.int x3, w4))))))
set_option maxHeartbeats 4000000 in
set_option maxRecDepth 100000 in
theorem ss_ho_fourth_0 {E : Nat × (Nat → Int32)}  (a1 : Int32) (a2 : Int32) (w : sm_Mem) : sm_Sim E (mi_ho_fourth) 0 [some (.ref 0), some (.int a1), some (.int a2), none] [] w (ff_ho_fourth  a1 a2 w) := by
  unfold ff_ho_fourth
  refine sm_iload_n ii_ho_fourth_0 rfl ?_
  refine sm_bipush (6 : Int32) ii_ho_fourth_1 (by decide) ?_
  refine sm_csI [.int a2, .int (6 : Int32)] [] rfl ii_ho_fourth_3 ml_ho_81 (mf_ho_isWithin) (mv_ho_isWithin) (Nat.le_of_ble_eq_true rfl) rfl rfl rfl (mc_ho_isWithin (a2) ((6 : Int32)) w) (fun x1 w2 => ?_)
  refine sm_if_ne 11 ii_ho_fourth_6 (by decide) ?_ ?_
  · refine sm_iconst (-1 : Int32) ii_ho_fourth_9 (by decide) ?_
    exact sm_iret ii_ho_fourth_10 rfl
  · refine sm_aload_n ii_ho_fourth_11 rfl ?_
    refine sm_iload_n ii_ho_fourth_12 rfl ?_
    refine sm_iconst (5 : Int32) ii_ho_fourth_13 (by decide) ?_
    refine sm_cvI [.int a1, .int (5 : Int32)] [] rfl ii_ho_fourth_14 ml_ho_192 (mf_ho_refusalOfWords) (mv_ho_refusalOfWords) (Nat.le_of_ble_eq_true rfl) rfl 6 rfl rfl rfl rfl (mc_ho_refusalOfWords (a1) ((5 : Int32)) w2) (fun x3 w4 => ?_)
    refine sm_istore_n [some (.ref 0), some (.int a1), some (.int a2), some (.int x3)] ii_ho_fourth_17 rfl rfl ?_
    refine sm_iload_n ii_ho_fourth_18 rfl ?_
    refine sm_if_eq 24 ii_ho_fourth_19 (by decide) ?_ ?_
    · refine sm_aload_n ii_ho_fourth_24 rfl ?_
      refine sm_getR 36 ii_ho_fourth_25 fl_ho_31 (k := 0) rfl ?_
      refine sm_getI ii_ho_fourth_28 fl_ho_115 (k := 36) rfl ?_
      refine sm_bipush (6 : Int32) ii_ho_fourth_31 (by decide) ?_
      refine sm_icmp_lt 39 ii_ho_fourth_33 (by decide) ?_ ?_
      · refine sm_aload_n ii_ho_fourth_39 rfl ?_
        refine sm_getR 36 ii_ho_fourth_40 fl_ho_31 (k := 0) rfl ?_
        refine sm_iload_n ii_ho_fourth_43 rfl ?_
        refine sm_cvV [.int a2] [] rfl ii_ho_fourth_44 ml_ho_266 (mf_hs_invite) (mv_hs_invite) (Nat.le_of_ble_eq_true rfl) rfl 1 rfl rfl rfl rfl (mc_hs_invite (a2) w4) (fun w6 => ?_)
        refine sm_aload_n ii_ho_fourth_47 rfl ?_
        refine sm_getR 49 ii_ho_fourth_48 fl_ho_40 (k := 0) rfl ?_
        refine sm_aload_n ii_ho_fourth_51 rfl ?_
        refine sm_getR 1 ii_ho_fourth_52 fl_ho_11 (k := 0) rfl ?_
        refine sm_iload_n ii_ho_fourth_55 rfl ?_
        refine sm_aald ii_ho_fourth_56 (fun r7 => ?_)
        refine sm_aload_n ii_ho_fourth_57 rfl ?_
        refine sm_getR 36 ii_ho_fourth_58 fl_ho_31 (k := 0) rfl ?_
        refine sm_getI ii_ho_fourth_61 fl_ho_115 (k := 36) rfl ?_
        refine sm_iconst (1 : Int32) ii_ho_fourth_64 (by decide) ?_
        refine sm_isub ii_ho_fourth_65 ?_
        refine sm_cvV [.ref r7, .int ((w6.1 36 0) - (1 : Int32))] [] rfl ii_ho_fourth_66 ml_ho_195 (mf_wy_runWords) (mv_wy_runWords) (Nat.le_of_ble_eq_true rfl) rfl 5 rfl rfl rfl rfl (mc_wy_runWords (r7) (((w6.1 36 0) - (1 : Int32))) w6) (fun w9 => ?_)
        refine sm_aload_n ii_ho_fourth_69 rfl ?_
        refine sm_getR 36 ii_ho_fourth_70 fl_ho_31 (k := 0) rfl ?_
        refine sm_cvV [] [] rfl ii_ho_fourth_73 ml_ho_269 (mf_hs_dismiss) (mv_hs_dismiss) (Nat.le_of_ble_eq_true rfl) rfl 1 rfl rfl rfl rfl (mc_hs_dismiss  w9) (fun w11 => ?_)
        refine sm_aload_n ii_ho_fourth_76 rfl ?_
        refine sm_getR 49 ii_ho_fourth_77 fl_ho_40 (k := 0) rfl ?_
        refine sm_getI ii_ho_fourth_80 fl_ho_272 (k := 49) rfl ?_
        refine sm_bipush (-9 : Int32) ii_ho_fourth_83 (by decide) ?_
        refine sm_icmp_ne 91 ii_ho_fourth_85 (by decide) ?_ ?_
        · refine sm_bipush (-9 : Int32) ii_ho_fourth_88 (by decide) ?_
          exact sm_iret ii_ho_fourth_90 rfl
        · refine sm_aload_n ii_ho_fourth_91 rfl ?_
          refine sm_getR 60 ii_ho_fourth_92 fl_ho_54 (k := 0) rfl ?_
          refine sm_aload_n ii_ho_fourth_95 rfl ?_
          refine sm_getR 49 ii_ho_fourth_96 fl_ho_40 (k := 0) rfl ?_
          refine sm_getI ii_ho_fourth_99 fl_ho_272 (k := 49) rfl ?_
          refine sm_putI ii_ho_fourth_102 fp_ho_70 (k := 60) rfl (fun w12 => ?_)
          refine sm_aload_n ii_ho_fourth_105 rfl ?_
          refine sm_getR 49 ii_ho_fourth_106 fl_ho_40 (k := 0) rfl ?_
          refine sm_getI ii_ho_fourth_109 fl_ho_272 (k := 49) rfl ?_
          refine sm_csI [.int (w12.1 49 13)] [] rfl ii_ho_fourth_112 ml_ho_144 (mf_ig_bitCount) (mv_ig_bitCount) (Nat.le_of_ble_eq_true rfl) rfl rfl rfl (mc_ig_bitCount ((w12.1 49 13)) w12) (fun x13 w14 => ?_)
          exact sm_iret ii_ho_fourth_115 rfl
      · refine sm_bipush (-9 : Int32) ii_ho_fourth_36 (by decide) ?_
        exact sm_iret ii_ho_fourth_38 rfl
    · refine sm_iload_n ii_ho_fourth_22 rfl ?_
      exact sm_iret ii_ho_fourth_23 rfl
set_option maxHeartbeats 4000000 in
set_option maxRecDepth 100000 in
theorem mc_ho_fourth (a1 : Int32) (a2 : Int32) (w : sm_Mem) : sm_MC mi_ho_fourth [.ref 0, .int a1, .int a2] w (ff_ho_fourth a1 a2 w) := sm_MC_of (0, fun _ => 0) (by decide +kernel) (by decide) rfl (Nat.le_of_ble_eq_true rfl) (ss_ho_fourth_0 a1 a2 w)
abbrev mi_mo_fourth : sm_MI := (⟨"HerOrdersModel", "fourth", "(II)I"⟩, prog_9_method_83_code, 7, (some .int), 7)
set_option maxRecDepth 100000 in
theorem mf_mo_fourth : sm_MF mi_mo_fourth 2 := ⟨List.mem_of_getElem? (i := 1350) (by decide +kernel), List.mem_of_getElem? (i := 132) (by decide +kernel), ⟨by decide, by decide⟩, by decide +kernel⟩
set_option maxRecDepth 100000 in
theorem mv_mo_fourth : sm_MFV mi_mo_fourth := ⟨List.mem_of_getElem? (i := 1348) (by decide +kernel), List.mem_of_getElem? (i := 1349) (by decide +kernel)⟩
set_option maxRecDepth 100000 in
theorem ii_mo_fourth_0 : sm_D prog_9_method_83_code 0 1 1 (.iload_n 1) := ⟨by decide +kernel, rfl⟩
set_option maxRecDepth 100000 in
theorem ii_mo_fourth_1 : sm_D prog_9_method_83_code 1 3 4 (.invokestatic 77) := ⟨by decide +kernel, rfl⟩
set_option maxRecDepth 100000 in
theorem ii_mo_fourth_4 : sm_D prog_9_method_83_code 4 3 7 (.ifCond .eq 15) := ⟨by decide +kernel, rfl⟩
set_option maxRecDepth 100000 in
theorem ii_mo_fourth_7 : sm_D prog_9_method_83_code 7 1 8 (.iload_n 2) := ⟨by decide +kernel, rfl⟩
set_option maxRecDepth 100000 in
theorem ii_mo_fourth_8 : sm_D prog_9_method_83_code 8 1 9 (.i2l) := ⟨by decide +kernel, rfl⟩
set_option maxRecDepth 100000 in
theorem ii_mo_fourth_9 : sm_D prog_9_method_83_code 9 1 10 (.lconst 0) := ⟨by decide +kernel, rfl⟩
set_option maxRecDepth 100000 in
theorem ii_mo_fourth_10 : sm_D prog_9_method_83_code 10 3 13 (.ldc2_w 69) := ⟨by decide +kernel, rfl⟩
set_option maxRecDepth 100000 in
theorem ii_mo_fourth_13 : sm_D prog_9_method_83_code 13 3 16 (.invokestatic 71) := ⟨by decide +kernel, rfl⟩
set_option maxRecDepth 100000 in
theorem ii_mo_fourth_16 : sm_D prog_9_method_83_code 16 3 19 (.ifCond .ne 5) := ⟨by decide +kernel, rfl⟩
set_option maxRecDepth 100000 in
theorem ii_mo_fourth_19 : sm_D prog_9_method_83_code 19 1 20 (.iconst (-1)) := ⟨by decide +kernel, rfl⟩
set_option maxRecDepth 100000 in
theorem ii_mo_fourth_20 : sm_D prog_9_method_83_code 20 1 21 (.ireturn) := ⟨by decide +kernel, rfl⟩
set_option maxRecDepth 100000 in
theorem ii_mo_fourth_21 : sm_D prog_9_method_83_code 21 1 22 (.aload_n 0) := ⟨by decide +kernel, rfl⟩
set_option maxRecDepth 100000 in
theorem ii_mo_fourth_22 : sm_D prog_9_method_83_code 22 1 23 (.iload_n 1) := ⟨by decide +kernel, rfl⟩
set_option maxRecDepth 100000 in
theorem ii_mo_fourth_23 : sm_D prog_9_method_83_code 23 1 24 (.iconst 1) := ⟨by decide +kernel, rfl⟩
set_option maxRecDepth 100000 in
theorem ii_mo_fourth_24 : sm_D prog_9_method_83_code 24 3 27 (.invokevirtual 242) := ⟨by decide +kernel, rfl⟩
set_option maxRecDepth 100000 in
theorem ii_mo_fourth_27 : sm_D prog_9_method_83_code 27 1 28 (.istore_n 3) := ⟨by decide +kernel, rfl⟩
set_option maxRecDepth 100000 in
theorem ii_mo_fourth_28 : sm_D prog_9_method_83_code 28 1 29 (.iload_n 3) := ⟨by decide +kernel, rfl⟩
set_option maxRecDepth 100000 in
theorem ii_mo_fourth_29 : sm_D prog_9_method_83_code 29 3 32 (.ifCond .eq 5) := ⟨by decide +kernel, rfl⟩
set_option maxRecDepth 100000 in
theorem ii_mo_fourth_32 : sm_D prog_9_method_83_code 32 1 33 (.iload_n 3) := ⟨by decide +kernel, rfl⟩
set_option maxRecDepth 100000 in
theorem ii_mo_fourth_33 : sm_D prog_9_method_83_code 33 1 34 (.ireturn) := ⟨by decide +kernel, rfl⟩
set_option maxRecDepth 100000 in
theorem ii_mo_fourth_34 : sm_D prog_9_method_83_code 34 1 35 (.aload_n 0) := ⟨by decide +kernel, rfl⟩
set_option maxRecDepth 100000 in
theorem ii_mo_fourth_35 : sm_D prog_9_method_83_code 35 3 38 (.getfield 135) := ⟨by decide +kernel, rfl⟩
set_option maxRecDepth 100000 in
theorem ii_mo_fourth_38 : sm_D prog_9_method_83_code 38 2 40 (.bipush 6) := ⟨by decide +kernel, rfl⟩
set_option maxRecDepth 100000 in
theorem ii_mo_fourth_40 : sm_D prog_9_method_83_code 40 3 43 (.if_icmp .ne 6) := ⟨by decide +kernel, rfl⟩
set_option maxRecDepth 100000 in
theorem ii_mo_fourth_43 : sm_D prog_9_method_83_code 43 2 45 (.bipush (-9)) := ⟨by decide +kernel, rfl⟩
set_option maxRecDepth 100000 in
theorem ii_mo_fourth_45 : sm_D prog_9_method_83_code 45 1 46 (.ireturn) := ⟨by decide +kernel, rfl⟩
set_option maxRecDepth 100000 in
theorem ii_mo_fourth_46 : sm_D prog_9_method_83_code 46 2 48 (.bipush (-9)) := ⟨by decide +kernel, rfl⟩
set_option maxRecDepth 100000 in
theorem ii_mo_fourth_48 : sm_D prog_9_method_83_code 48 2 50 (.istore 4) := ⟨by decide +kernel, rfl⟩
set_option maxRecDepth 100000 in
theorem ii_mo_fourth_50 : sm_D prog_9_method_83_code 50 1 51 (.aload_n 0) := ⟨by decide +kernel, rfl⟩
set_option maxRecDepth 100000 in
theorem ii_mo_fourth_51 : sm_D prog_9_method_83_code 51 1 52 (.aload_n 0) := ⟨by decide +kernel, rfl⟩
set_option maxRecDepth 100000 in
theorem ii_mo_fourth_52 : sm_D prog_9_method_83_code 52 3 55 (.getfield 135) := ⟨by decide +kernel, rfl⟩
set_option maxRecDepth 100000 in
theorem ii_mo_fourth_55 : sm_D prog_9_method_83_code 55 1 56 (.iconst 1) := ⟨by decide +kernel, rfl⟩
set_option maxRecDepth 100000 in
theorem ii_mo_fourth_56 : sm_D prog_9_method_83_code 56 1 57 (.iadd) := ⟨by decide +kernel, rfl⟩
set_option maxRecDepth 100000 in
theorem ii_mo_fourth_57 : sm_D prog_9_method_83_code 57 3 60 (.putfield 211) := ⟨by decide +kernel, rfl⟩
set_option maxRecDepth 100000 in
theorem ii_mo_fourth_60 : sm_D prog_9_method_83_code 60 1 61 (.aload_n 0) := ⟨by decide +kernel, rfl⟩
set_option maxRecDepth 100000 in
theorem ii_mo_fourth_61 : sm_D prog_9_method_83_code 61 1 62 (.iload_n 2) := ⟨by decide +kernel, rfl⟩
set_option maxRecDepth 100000 in
theorem ii_mo_fourth_62 : sm_D prog_9_method_83_code 62 3 65 (.putfield 217) := ⟨by decide +kernel, rfl⟩
set_option maxRecDepth 100000 in
theorem ii_mo_fourth_65 : sm_D prog_9_method_83_code 65 1 66 (.aload_n 0) := ⟨by decide +kernel, rfl⟩
set_option maxRecDepth 100000 in
theorem ii_mo_fourth_66 : sm_D prog_9_method_83_code 66 3 69 (.getfield 13) := ⟨by decide +kernel, rfl⟩
set_option maxRecDepth 100000 in
theorem ii_mo_fourth_69 : sm_D prog_9_method_83_code 69 1 70 (.aload_n 0) := ⟨by decide +kernel, rfl⟩
set_option maxRecDepth 100000 in
theorem ii_mo_fourth_70 : sm_D prog_9_method_83_code 70 3 73 (.getfield 135) := ⟨by decide +kernel, rfl⟩
set_option maxRecDepth 100000 in
theorem ii_mo_fourth_73 : sm_D prog_9_method_83_code 73 1 74 (.iconst 0) := ⟨by decide +kernel, rfl⟩
set_option maxRecDepth 100000 in
theorem ii_mo_fourth_74 : sm_D prog_9_method_83_code 74 1 75 (.iastore) := ⟨by decide +kernel, rfl⟩
set_option maxRecDepth 100000 in
theorem ii_mo_fourth_75 : sm_D prog_9_method_83_code 75 1 76 (.iconst 0) := ⟨by decide +kernel, rfl⟩
set_option maxRecDepth 100000 in
theorem ii_mo_fourth_76 : sm_D prog_9_method_83_code 76 2 78 (.istore 5) := ⟨by decide +kernel, rfl⟩
set_option maxRecDepth 100000 in
theorem ii_mo_fourth_78 : sm_D prog_9_method_83_code 78 2 80 (.iload 5) := ⟨by decide +kernel, rfl⟩
set_option maxRecDepth 100000 in
theorem ii_mo_fourth_80 : sm_D prog_9_method_83_code 80 2 82 (.bipush 64) := ⟨by decide +kernel, rfl⟩
set_option maxRecDepth 100000 in
theorem ii_mo_fourth_82 : sm_D prog_9_method_83_code 82 3 85 (.if_icmp .ge 68) := ⟨by decide +kernel, rfl⟩
set_option maxRecDepth 100000 in
theorem ii_mo_fourth_85 : sm_D prog_9_method_83_code 85 1 86 (.aload_n 0) := ⟨by decide +kernel, rfl⟩
set_option maxRecDepth 100000 in
theorem ii_mo_fourth_86 : sm_D prog_9_method_83_code 86 3 89 (.getfield 16) := ⟨by decide +kernel, rfl⟩
set_option maxRecDepth 100000 in
theorem ii_mo_fourth_89 : sm_D prog_9_method_83_code 89 1 90 (.aload_n 0) := ⟨by decide +kernel, rfl⟩
set_option maxRecDepth 100000 in
theorem ii_mo_fourth_90 : sm_D prog_9_method_83_code 90 3 93 (.getfield 135) := ⟨by decide +kernel, rfl⟩
set_option maxRecDepth 100000 in
theorem ii_mo_fourth_93 : sm_D prog_9_method_83_code 93 2 95 (.iload 5) := ⟨by decide +kernel, rfl⟩
set_option maxRecDepth 100000 in
theorem ii_mo_fourth_95 : sm_D prog_9_method_83_code 95 1 96 (.iastore) := ⟨by decide +kernel, rfl⟩
set_option maxRecDepth 100000 in
theorem ii_mo_fourth_96 : sm_D prog_9_method_83_code 96 2 98 (.iload 4) := ⟨by decide +kernel, rfl⟩
set_option maxRecDepth 100000 in
theorem ii_mo_fourth_98 : sm_D prog_9_method_83_code 98 2 100 (.bipush (-9)) := ⟨by decide +kernel, rfl⟩
set_option maxRecDepth 100000 in
theorem ii_mo_fourth_100 : sm_D prog_9_method_83_code 100 3 103 (.if_icmp .eq 16) := ⟨by decide +kernel, rfl⟩
set_option maxRecDepth 100000 in
theorem ii_mo_fourth_103 : sm_D prog_9_method_83_code 103 2 105 (.iload 5) := ⟨by decide +kernel, rfl⟩
set_option maxRecDepth 100000 in
theorem ii_mo_fourth_105 : sm_D prog_9_method_83_code 105 3 108 (.invokestatic 178) := ⟨by decide +kernel, rfl⟩
set_option maxRecDepth 100000 in
theorem ii_mo_fourth_108 : sm_D prog_9_method_83_code 108 2 110 (.iload 4) := ⟨by decide +kernel, rfl⟩
set_option maxRecDepth 100000 in
theorem ii_mo_fourth_110 : sm_D prog_9_method_83_code 110 3 113 (.invokestatic 178) := ⟨by decide +kernel, rfl⟩
set_option maxRecDepth 100000 in
theorem ii_mo_fourth_113 : sm_D prog_9_method_83_code 113 3 116 (.if_icmp .ge 14) := ⟨by decide +kernel, rfl⟩
set_option maxRecDepth 100000 in
theorem ii_mo_fourth_116 : sm_D prog_9_method_83_code 116 1 117 (.aload_n 0) := ⟨by decide +kernel, rfl⟩
set_option maxRecDepth 100000 in
theorem ii_mo_fourth_117 : sm_D prog_9_method_83_code 117 3 120 (.invokevirtual 251) := ⟨by decide +kernel, rfl⟩
set_option maxRecDepth 100000 in
theorem ii_mo_fourth_120 : sm_D prog_9_method_83_code 120 3 123 (.ifCond .eq 7) := ⟨by decide +kernel, rfl⟩
set_option maxRecDepth 100000 in
theorem ii_mo_fourth_123 : sm_D prog_9_method_83_code 123 1 124 (.iconst 1) := ⟨by decide +kernel, rfl⟩
set_option maxRecDepth 100000 in
theorem ii_mo_fourth_124 : sm_D prog_9_method_83_code 124 3 127 (.goto 4) := ⟨by decide +kernel, rfl⟩
set_option maxRecDepth 100000 in
theorem ii_mo_fourth_127 : sm_D prog_9_method_83_code 127 1 128 (.iconst 0) := ⟨by decide +kernel, rfl⟩
set_option maxRecDepth 100000 in
theorem ii_mo_fourth_128 : sm_D prog_9_method_83_code 128 2 130 (.istore 6) := ⟨by decide +kernel, rfl⟩
set_option maxRecDepth 100000 in
theorem ii_mo_fourth_130 : sm_D prog_9_method_83_code 130 2 132 (.iload 6) := ⟨by decide +kernel, rfl⟩
set_option maxRecDepth 100000 in
theorem ii_mo_fourth_132 : sm_D prog_9_method_83_code 132 3 135 (.ifCond .eq 8) := ⟨by decide +kernel, rfl⟩
set_option maxRecDepth 100000 in
theorem ii_mo_fourth_135 : sm_D prog_9_method_83_code 135 2 137 (.iload 5) := ⟨by decide +kernel, rfl⟩
set_option maxRecDepth 100000 in
theorem ii_mo_fourth_137 : sm_D prog_9_method_83_code 137 3 140 (.goto 5) := ⟨by decide +kernel, rfl⟩
set_option maxRecDepth 100000 in
theorem ii_mo_fourth_140 : sm_D prog_9_method_83_code 140 2 142 (.iload 4) := ⟨by decide +kernel, rfl⟩
set_option maxRecDepth 100000 in
theorem ii_mo_fourth_142 : sm_D prog_9_method_83_code 142 2 144 (.istore 4) := ⟨by decide +kernel, rfl⟩
set_option maxRecDepth 100000 in
theorem ii_mo_fourth_144 : sm_D prog_9_method_83_code 144 3 147 (.iinc 5 1) := ⟨by decide +kernel, rfl⟩
set_option maxRecDepth 100000 in
theorem ii_mo_fourth_147 : sm_D prog_9_method_83_code 147 3 150 (.goto (-69)) := ⟨by decide +kernel, rfl⟩
set_option maxRecDepth 100000 in
theorem ii_mo_fourth_150 : sm_D prog_9_method_83_code 150 2 152 (.iload 4) := ⟨by decide +kernel, rfl⟩
set_option maxRecDepth 100000 in
theorem ii_mo_fourth_152 : sm_D prog_9_method_83_code 152 2 154 (.bipush (-9)) := ⟨by decide +kernel, rfl⟩
set_option maxRecDepth 100000 in
theorem ii_mo_fourth_154 : sm_D prog_9_method_83_code 154 3 157 (.if_icmp .ne 6) := ⟨by decide +kernel, rfl⟩
set_option maxRecDepth 100000 in
theorem ii_mo_fourth_157 : sm_D prog_9_method_83_code 157 2 159 (.bipush (-9)) := ⟨by decide +kernel, rfl⟩
set_option maxRecDepth 100000 in
theorem ii_mo_fourth_159 : sm_D prog_9_method_83_code 159 1 160 (.ireturn) := ⟨by decide +kernel, rfl⟩
set_option maxRecDepth 100000 in
theorem ii_mo_fourth_160 : sm_D prog_9_method_83_code 160 1 161 (.aload_n 0) := ⟨by decide +kernel, rfl⟩
set_option maxRecDepth 100000 in
theorem ii_mo_fourth_161 : sm_D prog_9_method_83_code 161 2 163 (.iload 4) := ⟨by decide +kernel, rfl⟩
set_option maxRecDepth 100000 in
theorem ii_mo_fourth_163 : sm_D prog_9_method_83_code 163 3 166 (.putfield 66) := ⟨by decide +kernel, rfl⟩
set_option maxRecDepth 100000 in
theorem ii_mo_fourth_166 : sm_D prog_9_method_83_code 166 2 168 (.iload 4) := ⟨by decide +kernel, rfl⟩
set_option maxRecDepth 100000 in
theorem ii_mo_fourth_168 : sm_D prog_9_method_83_code 168 3 171 (.invokestatic 178) := ⟨by decide +kernel, rfl⟩
set_option maxRecDepth 100000 in
theorem ii_mo_fourth_171 : sm_D prog_9_method_83_code 171 1 172 (.ireturn) := ⟨by decide +kernel, rfl⟩
noncomputable def ff_mo_fourth_128 (self78 : Int32 → Int32 → sm_Mem → sm_R) (a4 : Int32) (a5 : Int32) (b0 : Int32) (w : sm_Mem) : sm_R := (if b0 = (0 : Int32) then self78 (a4) ((a5 + (1 : Int32))) w else self78 (a5) ((a5 + (1 : Int32))) w)
set_option maxHeartbeats 4000000 in
set_option maxRecDepth 100000 in
theorem ss_mo_fourth_128 {E : Nat × (Nat → Int32)} (self78 : Int32 → Int32 → sm_Mem → sm_R) (hself78 : ∀ (a4 : Int32) (a5 : Int32) (w : sm_Mem), sm_Sim E (mi_mo_fourth) 78 [some (.ref 62), none, none, none, some (.int a4), some (.int a5), none] [] w (self78 a4 a5 w)) (a4 : Int32) (a5 : Int32) (b0 : Int32) (w : sm_Mem) : sm_Sim E (mi_mo_fourth) 128 [some (.ref 62), none, none, none, some (.int a4), some (.int a5), none] [.int b0] w (ff_mo_fourth_128 self78 a4 a5 b0 w) := by
  unfold ff_mo_fourth_128
  refine sm_istore [some (.ref 62), none, none, none, some (.int a4), some (.int a5), some (.int b0)] ii_mo_fourth_128 rfl rfl ?_
  refine sm_iload ii_mo_fourth_130 rfl ?_
  refine sm_if_eq 140 ii_mo_fourth_132 (by decide) ?_ ?_
  · refine sm_iload ii_mo_fourth_140 rfl ?_
    refine sm_istore [some (.ref 62), none, none, none, some (.int a4), some (.int a5), some (.int b0)] ii_mo_fourth_142 rfl rfl ?_
    refine sm_iinc (a5 + (1 : Int32)) [some (.ref 62), none, none, none, some (.int a4), some (.int (a5 + (1 : Int32))), some (.int b0)] ii_mo_fourth_144 rfl rfl rfl rfl ?_
    refine sm_goto 78 ii_mo_fourth_147 (by decide) ?_
    refine sm_msk [true, false, false, false, true, true, false] [some (.ref 62), none, none, none, some (.int a4), some (.int (a5 + (1 : Int32))), none] rfl ?_
    exact hself78 (a4) ((a5 + (1 : Int32))) w
  · refine sm_iload ii_mo_fourth_135 rfl ?_
    refine sm_goto 142 ii_mo_fourth_137 (by decide) ?_
    refine sm_istore [some (.ref 62), none, none, none, some (.int a5), some (.int a5), some (.int b0)] ii_mo_fourth_142 rfl rfl ?_
    refine sm_iinc (a5 + (1 : Int32)) [some (.ref 62), none, none, none, some (.int a5), some (.int (a5 + (1 : Int32))), some (.int b0)] ii_mo_fourth_144 rfl rfl rfl rfl ?_
    refine sm_goto 78 ii_mo_fourth_147 (by decide) ?_
    refine sm_msk [true, false, false, false, true, true, false] [some (.ref 62), none, none, none, some (.int a5), some (.int (a5 + (1 : Int32))), none] rfl ?_
    exact hself78 (a5) ((a5 + (1 : Int32))) w
noncomputable def ff_mo_fourth_127 (self78 : Int32 → Int32 → sm_Mem → sm_R) (a4 : Int32) (a5 : Int32) (w : sm_Mem) : sm_R := ff_mo_fourth_128 self78 (a4) (a5) ((0 : Int32)) w
set_option maxHeartbeats 4000000 in
set_option maxRecDepth 100000 in
theorem ss_mo_fourth_127 {E : Nat × (Nat → Int32)} (self78 : Int32 → Int32 → sm_Mem → sm_R) (hself78 : ∀ (a4 : Int32) (a5 : Int32) (w : sm_Mem), sm_Sim E (mi_mo_fourth) 78 [some (.ref 62), none, none, none, some (.int a4), some (.int a5), none] [] w (self78 a4 a5 w)) (a4 : Int32) (a5 : Int32) (w : sm_Mem) : sm_Sim E (mi_mo_fourth) 127 [some (.ref 62), none, none, none, some (.int a4), some (.int a5), none] [] w (ff_mo_fourth_127 self78 a4 a5 w) := by
  unfold ff_mo_fourth_127
  refine sm_iconst (0 : Int32) ii_mo_fourth_127 (by decide) ?_
  exact ss_mo_fourth_128 self78 hself78 (a4) (a5) ((0 : Int32)) w
noncomputable def ff_mo_fourth_116 (self78 : Int32 → Int32 → sm_Mem → sm_R) (a4 : Int32) (a5 : Int32) (w : sm_Mem) : sm_R := (sm_cI (ff_mo_hasWay  w) fun x1 w2 => (if x1 = (0 : Int32) then ff_mo_fourth_127 self78 (a4) (a5) w2 else ff_mo_fourth_128 self78 (a4) (a5) ((1 : Int32)) w2))
set_option maxHeartbeats 4000000 in
set_option maxRecDepth 100000 in
theorem ss_mo_fourth_116 {E : Nat × (Nat → Int32)} (self78 : Int32 → Int32 → sm_Mem → sm_R) (hself78 : ∀ (a4 : Int32) (a5 : Int32) (w : sm_Mem), sm_Sim E (mi_mo_fourth) 78 [some (.ref 62), none, none, none, some (.int a4), some (.int a5), none] [] w (self78 a4 a5 w)) (a4 : Int32) (a5 : Int32) (w : sm_Mem) : sm_Sim E (mi_mo_fourth) 116 [some (.ref 62), none, none, none, some (.int a4), some (.int a5), none] [] w (ff_mo_fourth_116 self78 a4 a5 w) := by
  unfold ff_mo_fourth_116
  refine sm_aload_n ii_mo_fourth_116 rfl ?_
  refine sm_cvI [] [] rfl ii_mo_fourth_117 ml_mo_251 (mf_mo_hasWay) (mv_mo_hasWay) (Nat.le_of_ble_eq_true rfl) rfl 7 rfl rfl rfl rfl (mc_mo_hasWay  w) (fun x1 w2 => ?_)
  refine sm_if_eq 127 ii_mo_fourth_120 (by decide) ?_ ?_
  · exact ss_mo_fourth_127 self78 hself78 (a4) (a5) w2
  · refine sm_iconst (1 : Int32) ii_mo_fourth_123 (by decide) ?_
    refine sm_goto 128 ii_mo_fourth_124 (by decide) ?_
    exact ss_mo_fourth_128 self78 hself78 (a4) (a5) ((1 : Int32)) w2
noncomputable def ff_mo_fourth_78_b  (self78 : Int32 → Int32 → sm_Mem → sm_R) (a4 : Int32) (a5 : Int32) (w : sm_Mem) : sm_R := (if (64 : Int32) ≤ a5 then (if a4 = (-9 : Int32) then (some (.int (-9 : Int32), w)) else (sm_let (sm_wI w 62 9 a4) fun w3 => (sm_cI (ff_mo_bits (a4) w3) fun x4 w5 => (some (.int x4, w5))))) else (Option.bind (sm_wr w 65 7 (w.1 62 1) a5) fun w6 => (if a4 = (-9 : Int32) then ff_mo_fourth_116 self78 (a4) (a5) w6 else (sm_cI (ff_mo_bits (a5) w6) fun x7 w8 => (sm_cI (ff_mo_bits (a4) w8) fun x9 w10 => (if x9 ≤ x7 then ff_mo_fourth_127 self78 (a4) (a5) w10 else ff_mo_fourth_116 self78 (a4) (a5) w10))))))
noncomputable def ff_mo_fourth_78_f  : Nat → Int32 → Int32 → sm_Mem → sm_R
  | 0, _, _, _ => none
  | n + 1, a4, a5, w => ff_mo_fourth_78_b  (ff_mo_fourth_78_f  n) a4 a5 w
noncomputable def ff_mo_fourth_78  (a4 : Int32) (a5 : Int32) (w : sm_Mem) : sm_R := ff_mo_fourth_78_f  sm_N a4 a5 w
set_option maxHeartbeats 4000000 in
set_option maxRecDepth 100000 in
theorem ss_mo_fourth_78_b {E : Nat × (Nat → Int32)}  (self78 : Int32 → Int32 → sm_Mem → sm_R) (hself78 : ∀ (a4 : Int32) (a5 : Int32) (w : sm_Mem), sm_Sim E (mi_mo_fourth) 78 [some (.ref 62), none, none, none, some (.int a4), some (.int a5), none] [] w (self78 a4 a5 w)) (a4 : Int32) (a5 : Int32) (w : sm_Mem) : sm_Sim E (mi_mo_fourth) 78 [some (.ref 62), none, none, none, some (.int a4), some (.int a5), none] [] w (ff_mo_fourth_78_b  self78 a4 a5 w) := by
  unfold ff_mo_fourth_78_b
  refine sm_iload ii_mo_fourth_78 rfl ?_
  refine sm_bipush (64 : Int32) ii_mo_fourth_80 (by decide) ?_
  refine sm_icmp_ge 150 ii_mo_fourth_82 (by decide) ?_ ?_
  · refine sm_iload ii_mo_fourth_150 rfl ?_
    refine sm_bipush (-9 : Int32) ii_mo_fourth_152 (by decide) ?_
    refine sm_icmp_ne 160 ii_mo_fourth_154 (by decide) ?_ ?_
    · refine sm_bipush (-9 : Int32) ii_mo_fourth_157 (by decide) ?_
      exact sm_iret ii_mo_fourth_159 rfl
    · refine sm_aload_n ii_mo_fourth_160 rfl ?_
      refine sm_iload ii_mo_fourth_161 rfl ?_
      refine sm_putI ii_mo_fourth_163 fp_mo_66 (k := 62) rfl (fun w3 => ?_)
      refine sm_iload ii_mo_fourth_166 rfl ?_
      refine sm_csI [.int a4] [] rfl ii_mo_fourth_168 ml_mo_178 (mf_mo_bits) (mv_mo_bits) (Nat.le_of_ble_eq_true rfl) rfl rfl rfl (mc_mo_bits (a4) w3) (fun x4 w5 => ?_)
      exact sm_iret ii_mo_fourth_171 rfl
  · refine sm_aload_n ii_mo_fourth_85 rfl ?_
    refine sm_getR 65 ii_mo_fourth_86 fl_mo_16 (k := 62) rfl ?_
    refine sm_aload_n ii_mo_fourth_89 rfl ?_
    refine sm_getI ii_mo_fourth_90 fl_mo_135 (k := 62) rfl ?_
    refine sm_iload ii_mo_fourth_93 rfl ?_
    refine sm_iast ii_mo_fourth_95 (k := 65) rfl (fun w6 => ?_)
    refine sm_iload ii_mo_fourth_96 rfl ?_
    refine sm_bipush (-9 : Int32) ii_mo_fourth_98 (by decide) ?_
    refine sm_icmp_eq 116 ii_mo_fourth_100 (by decide) ?_ ?_
    · exact ss_mo_fourth_116 self78 hself78 (a4) (a5) w6
    · refine sm_iload ii_mo_fourth_103 rfl ?_
      refine sm_csI [.int a5] [] rfl ii_mo_fourth_105 ml_mo_178 (mf_mo_bits) (mv_mo_bits) (Nat.le_of_ble_eq_true rfl) rfl rfl rfl (mc_mo_bits (a5) w6) (fun x7 w8 => ?_)
      refine sm_iload ii_mo_fourth_108 rfl ?_
      refine sm_csI [.int a4] [.int x7] rfl ii_mo_fourth_110 ml_mo_178 (mf_mo_bits) (mv_mo_bits) (Nat.le_of_ble_eq_true rfl) rfl rfl rfl (mc_mo_bits (a4) w8) (fun x9 w10 => ?_)
      refine sm_icmp_ge 127 ii_mo_fourth_113 (by decide) ?_ ?_
      · exact ss_mo_fourth_127 self78 hself78 (a4) (a5) w10
      · exact ss_mo_fourth_116 self78 hself78 (a4) (a5) w10
set_option maxHeartbeats 4000000 in
set_option maxRecDepth 100000 in
theorem ss_mo_fourth_78_f {E : Nat × (Nat → Int32)}  : ∀ (n : Nat) (a4 : Int32) (a5 : Int32) (w : sm_Mem), sm_Sim E (mi_mo_fourth) 78 [some (.ref 62), none, none, none, some (.int a4), some (.int a5), none] [] w (ff_mo_fourth_78_f  n a4 a5 w)
  | 0, _, _, _ => fun _ _ h => by cases h
  | n + 1, a4, a5, w => ss_mo_fourth_78_b  _ (ss_mo_fourth_78_f  n) a4 a5 w
set_option maxHeartbeats 4000000 in
set_option maxRecDepth 100000 in
theorem ss_mo_fourth_78 {E : Nat × (Nat → Int32)}  (a4 : Int32) (a5 : Int32) (w : sm_Mem) : sm_Sim E (mi_mo_fourth) 78 [some (.ref 62), none, none, none, some (.int a4), some (.int a5), none] [] w (ff_mo_fourth_78  a4 a5 w) := ss_mo_fourth_78_f  sm_N a4 a5 w
noncomputable def ff_mo_fourth  (a1 : Int32) (a2 : Int32) (w : sm_Mem) : sm_R := (sm_cI (ff_mo_isRow (a1) w) fun x11 w12 => (if x11 = (0 : Int32) then (some (.int (-1 : Int32), w12)) else (sm_cI (ff_mo_in ((Int32.toInt64 a2)) ((0 : Int64)) ((5 : Int64)) w12) fun x13 w14 => (if x13 = (0 : Int32) then (some (.int (-1 : Int32), w14)) else (sm_cI (ff_mo_noGoal (a1) ((1 : Int32)) w14) fun x15 w16 => (if x15 = (0 : Int32) then (if (w16.1 62 1) = (6 : Int32) then (some (.int (-9 : Int32), w16)) else (sm_let (sm_wI w16 62 22 ((w16.1 62 1) + (1 : Int32))) fun w17 => (sm_let (sm_wI w17 62 24 a2) fun w18 => (Option.bind (sm_wr w18 64 7 (w18.1 62 1) (0 : Int32)) fun w19 => ff_mo_fourth_78 ((-9 : Int32)) ((0 : Int32)) w19)))) else (some (.int x15, w16))))))))
set_option maxHeartbeats 4000000 in
set_option maxRecDepth 100000 in
theorem ss_mo_fourth_0 {E : Nat × (Nat → Int32)}  (a1 : Int32) (a2 : Int32) (w : sm_Mem) : sm_Sim E (mi_mo_fourth) 0 [some (.ref 62), some (.int a1), some (.int a2), none, none, none, none] [] w (ff_mo_fourth  a1 a2 w) := by
  unfold ff_mo_fourth
  refine sm_iload_n ii_mo_fourth_0 rfl ?_
  refine sm_csI [.int a1] [] rfl ii_mo_fourth_1 ml_mo_77 (mf_mo_isRow) (mv_mo_isRow) (Nat.le_of_ble_eq_true rfl) rfl rfl rfl (mc_mo_isRow (a1) w) (fun x11 w12 => ?_)
  refine sm_if_eq 19 ii_mo_fourth_4 (by decide) ?_ ?_
  · refine sm_iconst (-1 : Int32) ii_mo_fourth_19 (by decide) ?_
    exact sm_iret ii_mo_fourth_20 rfl
  · refine sm_iload_n ii_mo_fourth_7 rfl ?_
    refine sm_i2l ii_mo_fourth_8 ?_
    refine sm_lconst (0 : Int64) ii_mo_fourth_9 (by decide) ?_
    refine sm_ldc2 (5 : Int64) ii_mo_fourth_10 (List.mem_of_getElem? (i := 1040) (by decide +kernel)) ?_
    refine sm_csI [.long (Int32.toInt64 a2), .long (0 : Int64), .long (5 : Int64)] [] rfl ii_mo_fourth_13 ml_mo_71 (mf_mo_in) (mv_mo_in) (Nat.le_of_ble_eq_true rfl) rfl rfl rfl (mc_mo_in ((Int32.toInt64 a2)) ((0 : Int64)) ((5 : Int64)) w12) (fun x13 w14 => ?_)
    refine sm_if_ne 21 ii_mo_fourth_16 (by decide) ?_ ?_
    · refine sm_iconst (-1 : Int32) ii_mo_fourth_19 (by decide) ?_
      exact sm_iret ii_mo_fourth_20 rfl
    · refine sm_aload_n ii_mo_fourth_21 rfl ?_
      refine sm_iload_n ii_mo_fourth_22 rfl ?_
      refine sm_iconst (1 : Int32) ii_mo_fourth_23 (by decide) ?_
      refine sm_cvI [.int a1, .int (1 : Int32)] [] rfl ii_mo_fourth_24 ml_mo_242 (mf_mo_noGoal) (mv_mo_noGoal) (Nat.le_of_ble_eq_true rfl) rfl 7 rfl rfl rfl rfl (mc_mo_noGoal (a1) ((1 : Int32)) w14) (fun x15 w16 => ?_)
      refine sm_istore_n [some (.ref 62), some (.int a1), some (.int a2), some (.int x15), none, none, none] ii_mo_fourth_27 rfl rfl ?_
      refine sm_iload_n ii_mo_fourth_28 rfl ?_
      refine sm_if_eq 34 ii_mo_fourth_29 (by decide) ?_ ?_
      · refine sm_aload_n ii_mo_fourth_34 rfl ?_
        refine sm_getI ii_mo_fourth_35 fl_mo_135 (k := 62) rfl ?_
        refine sm_bipush (6 : Int32) ii_mo_fourth_38 (by decide) ?_
        refine sm_icmp_ne 46 ii_mo_fourth_40 (by decide) ?_ ?_
        · refine sm_bipush (-9 : Int32) ii_mo_fourth_43 (by decide) ?_
          exact sm_iret ii_mo_fourth_45 rfl
        · refine sm_bipush (-9 : Int32) ii_mo_fourth_46 (by decide) ?_
          refine sm_istore [some (.ref 62), some (.int a1), some (.int a2), some (.int x15), some (.int (-9 : Int32)), none, none] ii_mo_fourth_48 rfl rfl ?_
          refine sm_aload_n ii_mo_fourth_50 rfl ?_
          refine sm_aload_n ii_mo_fourth_51 rfl ?_
          refine sm_getI ii_mo_fourth_52 fl_mo_135 (k := 62) rfl ?_
          refine sm_iconst (1 : Int32) ii_mo_fourth_55 (by decide) ?_
          refine sm_iadd ii_mo_fourth_56 ?_
          refine sm_putI ii_mo_fourth_57 fp_mo_211 (k := 62) rfl (fun w17 => ?_)
          refine sm_aload_n ii_mo_fourth_60 rfl ?_
          refine sm_iload_n ii_mo_fourth_61 rfl ?_
          refine sm_putI ii_mo_fourth_62 fp_mo_217 (k := 62) rfl (fun w18 => ?_)
          refine sm_aload_n ii_mo_fourth_65 rfl ?_
          refine sm_getR 64 ii_mo_fourth_66 fl_mo_13 (k := 62) rfl ?_
          refine sm_aload_n ii_mo_fourth_69 rfl ?_
          refine sm_getI ii_mo_fourth_70 fl_mo_135 (k := 62) rfl ?_
          refine sm_iconst (0 : Int32) ii_mo_fourth_73 (by decide) ?_
          refine sm_iast ii_mo_fourth_74 (k := 64) rfl (fun w19 => ?_)
          refine sm_iconst (0 : Int32) ii_mo_fourth_75 (by decide) ?_
          refine sm_istore [some (.ref 62), some (.int a1), some (.int a2), some (.int x15), some (.int (-9 : Int32)), some (.int (0 : Int32)), none] ii_mo_fourth_76 rfl rfl ?_
          refine sm_msk [true, false, false, false, true, true, false] [some (.ref 62), none, none, none, some (.int (-9 : Int32)), some (.int (0 : Int32)), none] rfl ?_
          exact ss_mo_fourth_78 ((-9 : Int32)) ((0 : Int32)) w19
      · refine sm_iload_n ii_mo_fourth_32 rfl ?_
        exact sm_iret ii_mo_fourth_33 rfl
set_option maxHeartbeats 4000000 in
set_option maxRecDepth 100000 in
theorem mc_mo_fourth (a1 : Int32) (a2 : Int32) (w : sm_Mem) : sm_MC mi_mo_fourth [.ref 62, .int a1, .int a2] w (ff_mo_fourth a1 a2 w) := sm_MC_of (0, fun _ => 0) (by decide +kernel) (by decide) rfl (Nat.le_of_ble_eq_true rfl) (ss_mo_fourth_0 a1 a2 w)
abbrev mi_tr_distanceTo : sm_MI := (⟨"HerOrders$Trials", "distanceTo", "(LHerOrders$Row;)I"⟩, prog_6_method_8_code, 7, (some .int), 1)
set_option maxRecDepth 100000 in
theorem mf_tr_distanceTo : sm_MF mi_tr_distanceTo 1 := ⟨List.mem_of_getElem? (i := 811) (by decide +kernel), List.mem_of_getElem? (i := 130) (by decide +kernel), ⟨by decide, by decide⟩, by decide +kernel⟩
set_option maxRecDepth 100000 in
theorem mv_tr_distanceTo : sm_MFV mi_tr_distanceTo := ⟨List.mem_of_getElem? (i := 810) (by decide +kernel), List.mem_of_getElem? (i := 58) (by decide +kernel)⟩
set_option maxRecDepth 100000 in
theorem ii_tr_distanceTo_0 : sm_D prog_6_method_8_code 0 1 1 (.iconst 0) := ⟨by decide +kernel, rfl⟩
set_option maxRecDepth 100000 in
theorem ii_tr_distanceTo_1 : sm_D prog_6_method_8_code 1 1 2 (.aload_n 1) := ⟨by decide +kernel, rfl⟩
set_option maxRecDepth 100000 in
theorem ii_tr_distanceTo_2 : sm_D prog_6_method_8_code 2 3 5 (.getfield 69) := ⟨by decide +kernel, rfl⟩
set_option maxRecDepth 100000 in
theorem ii_tr_distanceTo_5 : sm_D prog_6_method_8_code 5 2 7 (.bipush 8) := ⟨by decide +kernel, rfl⟩
set_option maxRecDepth 100000 in
theorem ii_tr_distanceTo_7 : sm_D prog_6_method_8_code 7 3 10 (.invokestatic 74) := ⟨by decide +kernel, rfl⟩
set_option maxRecDepth 100000 in
theorem ii_tr_distanceTo_10 : sm_D prog_6_method_8_code 10 3 13 (.invokestatic 59) := ⟨by decide +kernel, rfl⟩
set_option maxRecDepth 100000 in
theorem ii_tr_distanceTo_13 : sm_D prog_6_method_8_code 13 1 14 (.istore_n 2) := ⟨by decide +kernel, rfl⟩
set_option maxRecDepth 100000 in
theorem ii_tr_distanceTo_14 : sm_D prog_6_method_8_code 14 1 15 (.iconst 0) := ⟨by decide +kernel, rfl⟩
set_option maxRecDepth 100000 in
theorem ii_tr_distanceTo_15 : sm_D prog_6_method_8_code 15 1 16 (.istore_n 3) := ⟨by decide +kernel, rfl⟩
set_option maxRecDepth 100000 in
theorem ii_tr_distanceTo_16 : sm_D prog_6_method_8_code 16 1 17 (.iload_n 3) := ⟨by decide +kernel, rfl⟩
set_option maxRecDepth 100000 in
theorem ii_tr_distanceTo_17 : sm_D prog_6_method_8_code 17 1 18 (.iload_n 2) := ⟨by decide +kernel, rfl⟩
set_option maxRecDepth 100000 in
theorem ii_tr_distanceTo_18 : sm_D prog_6_method_8_code 18 3 21 (.if_icmp .gt 16) := ⟨by decide +kernel, rfl⟩
set_option maxRecDepth 100000 in
theorem ii_tr_distanceTo_21 : sm_D prog_6_method_8_code 21 1 22 (.aload_n 0) := ⟨by decide +kernel, rfl⟩
set_option maxRecDepth 100000 in
theorem ii_tr_distanceTo_22 : sm_D prog_6_method_8_code 22 3 25 (.getfield 22) := ⟨by decide +kernel, rfl⟩
set_option maxRecDepth 100000 in
theorem ii_tr_distanceTo_25 : sm_D prog_6_method_8_code 25 1 26 (.iload_n 3) := ⟨by decide +kernel, rfl⟩
set_option maxRecDepth 100000 in
theorem ii_tr_distanceTo_26 : sm_D prog_6_method_8_code 26 1 27 (.iload_n 3) := ⟨by decide +kernel, rfl⟩
set_option maxRecDepth 100000 in
theorem ii_tr_distanceTo_27 : sm_D prog_6_method_8_code 27 1 28 (.iastore) := ⟨by decide +kernel, rfl⟩
set_option maxRecDepth 100000 in
theorem ii_tr_distanceTo_28 : sm_D prog_6_method_8_code 28 3 31 (.iinc 3 1) := ⟨by decide +kernel, rfl⟩
set_option maxRecDepth 100000 in
theorem ii_tr_distanceTo_31 : sm_D prog_6_method_8_code 31 3 34 (.goto (-15)) := ⟨by decide +kernel, rfl⟩
set_option maxRecDepth 100000 in
theorem ii_tr_distanceTo_34 : sm_D prog_6_method_8_code 34 1 35 (.iconst 0) := ⟨by decide +kernel, rfl⟩
set_option maxRecDepth 100000 in
theorem ii_tr_distanceTo_35 : sm_D prog_6_method_8_code 35 1 36 (.istore_n 3) := ⟨by decide +kernel, rfl⟩
set_option maxRecDepth 100000 in
theorem ii_tr_distanceTo_36 : sm_D prog_6_method_8_code 36 1 37 (.iload_n 3) := ⟨by decide +kernel, rfl⟩
set_option maxRecDepth 100000 in
theorem ii_tr_distanceTo_37 : sm_D prog_6_method_8_code 37 1 38 (.aload_n 0) := ⟨by decide +kernel, rfl⟩
set_option maxRecDepth 100000 in
theorem ii_tr_distanceTo_38 : sm_D prog_6_method_8_code 38 3 41 (.getfield 9) := ⟨by decide +kernel, rfl⟩
set_option maxRecDepth 100000 in
theorem ii_tr_distanceTo_41 : sm_D prog_6_method_8_code 41 3 44 (.getfield 77) := ⟨by decide +kernel, rfl⟩
set_option maxRecDepth 100000 in
theorem ii_tr_distanceTo_44 : sm_D prog_6_method_8_code 44 3 47 (.if_icmp .ge 114) := ⟨by decide +kernel, rfl⟩
set_option maxRecDepth 100000 in
theorem ii_tr_distanceTo_47 : sm_D prog_6_method_8_code 47 1 48 (.aload_n 0) := ⟨by decide +kernel, rfl⟩
set_option maxRecDepth 100000 in
theorem ii_tr_distanceTo_48 : sm_D prog_6_method_8_code 48 3 51 (.getfield 22) := ⟨by decide +kernel, rfl⟩
set_option maxRecDepth 100000 in
theorem ii_tr_distanceTo_51 : sm_D prog_6_method_8_code 51 1 52 (.iconst 0) := ⟨by decide +kernel, rfl⟩
set_option maxRecDepth 100000 in
theorem ii_tr_distanceTo_52 : sm_D prog_6_method_8_code 52 1 53 (.iaload) := ⟨by decide +kernel, rfl⟩
set_option maxRecDepth 100000 in
theorem ii_tr_distanceTo_53 : sm_D prog_6_method_8_code 53 2 55 (.istore 4) := ⟨by decide +kernel, rfl⟩
set_option maxRecDepth 100000 in
theorem ii_tr_distanceTo_55 : sm_D prog_6_method_8_code 55 1 56 (.aload_n 0) := ⟨by decide +kernel, rfl⟩
set_option maxRecDepth 100000 in
theorem ii_tr_distanceTo_56 : sm_D prog_6_method_8_code 56 3 59 (.getfield 22) := ⟨by decide +kernel, rfl⟩
set_option maxRecDepth 100000 in
theorem ii_tr_distanceTo_59 : sm_D prog_6_method_8_code 59 1 60 (.iconst 0) := ⟨by decide +kernel, rfl⟩
set_option maxRecDepth 100000 in
theorem ii_tr_distanceTo_60 : sm_D prog_6_method_8_code 60 1 61 (.iload_n 3) := ⟨by decide +kernel, rfl⟩
set_option maxRecDepth 100000 in
theorem ii_tr_distanceTo_61 : sm_D prog_6_method_8_code 61 1 62 (.iconst 1) := ⟨by decide +kernel, rfl⟩
set_option maxRecDepth 100000 in
theorem ii_tr_distanceTo_62 : sm_D prog_6_method_8_code 62 1 63 (.iadd) := ⟨by decide +kernel, rfl⟩
set_option maxRecDepth 100000 in
theorem ii_tr_distanceTo_63 : sm_D prog_6_method_8_code 63 1 64 (.iastore) := ⟨by decide +kernel, rfl⟩
set_option maxRecDepth 100000 in
theorem ii_tr_distanceTo_64 : sm_D prog_6_method_8_code 64 1 65 (.iconst 1) := ⟨by decide +kernel, rfl⟩
set_option maxRecDepth 100000 in
theorem ii_tr_distanceTo_65 : sm_D prog_6_method_8_code 65 2 67 (.istore 5) := ⟨by decide +kernel, rfl⟩
set_option maxRecDepth 100000 in
theorem ii_tr_distanceTo_67 : sm_D prog_6_method_8_code 67 2 69 (.iload 5) := ⟨by decide +kernel, rfl⟩
set_option maxRecDepth 100000 in
theorem ii_tr_distanceTo_69 : sm_D prog_6_method_8_code 69 1 70 (.iload_n 2) := ⟨by decide +kernel, rfl⟩
set_option maxRecDepth 100000 in
theorem ii_tr_distanceTo_70 : sm_D prog_6_method_8_code 70 3 73 (.if_icmp .gt 82) := ⟨by decide +kernel, rfl⟩
set_option maxRecDepth 100000 in
theorem ii_tr_distanceTo_73 : sm_D prog_6_method_8_code 73 2 75 (.iload 4) := ⟨by decide +kernel, rfl⟩
set_option maxRecDepth 100000 in
theorem ii_tr_distanceTo_75 : sm_D prog_6_method_8_code 75 1 76 (.aload_n 0) := ⟨by decide +kernel, rfl⟩
set_option maxRecDepth 100000 in
theorem ii_tr_distanceTo_76 : sm_D prog_6_method_8_code 76 3 79 (.getfield 9) := ⟨by decide +kernel, rfl⟩
set_option maxRecDepth 100000 in
theorem ii_tr_distanceTo_79 : sm_D prog_6_method_8_code 79 3 82 (.getfield 78) := ⟨by decide +kernel, rfl⟩
set_option maxRecDepth 100000 in
theorem ii_tr_distanceTo_82 : sm_D prog_6_method_8_code 82 1 83 (.iload_n 3) := ⟨by decide +kernel, rfl⟩
set_option maxRecDepth 100000 in
theorem ii_tr_distanceTo_83 : sm_D prog_6_method_8_code 83 1 84 (.iaload) := ⟨by decide +kernel, rfl⟩
set_option maxRecDepth 100000 in
theorem ii_tr_distanceTo_84 : sm_D prog_6_method_8_code 84 1 85 (.aload_n 1) := ⟨by decide +kernel, rfl⟩
set_option maxRecDepth 100000 in
theorem ii_tr_distanceTo_85 : sm_D prog_6_method_8_code 85 3 88 (.getfield 81) := ⟨by decide +kernel, rfl⟩
set_option maxRecDepth 100000 in
theorem ii_tr_distanceTo_88 : sm_D prog_6_method_8_code 88 2 90 (.iload 5) := ⟨by decide +kernel, rfl⟩
set_option maxRecDepth 100000 in
theorem ii_tr_distanceTo_90 : sm_D prog_6_method_8_code 90 1 91 (.iconst 1) := ⟨by decide +kernel, rfl⟩
set_option maxRecDepth 100000 in
theorem ii_tr_distanceTo_91 : sm_D prog_6_method_8_code 91 1 92 (.isub) := ⟨by decide +kernel, rfl⟩
set_option maxRecDepth 100000 in
theorem ii_tr_distanceTo_92 : sm_D prog_6_method_8_code 92 1 93 (.iaload) := ⟨by decide +kernel, rfl⟩
set_option maxRecDepth 100000 in
theorem ii_tr_distanceTo_93 : sm_D prog_6_method_8_code 93 3 96 (.if_icmp .ne 7) := ⟨by decide +kernel, rfl⟩
set_option maxRecDepth 100000 in
theorem ii_tr_distanceTo_96 : sm_D prog_6_method_8_code 96 1 97 (.iconst 0) := ⟨by decide +kernel, rfl⟩
set_option maxRecDepth 100000 in
theorem ii_tr_distanceTo_97 : sm_D prog_6_method_8_code 97 3 100 (.goto 4) := ⟨by decide +kernel, rfl⟩
set_option maxRecDepth 100000 in
theorem ii_tr_distanceTo_100 : sm_D prog_6_method_8_code 100 1 101 (.iconst 1) := ⟨by decide +kernel, rfl⟩
set_option maxRecDepth 100000 in
theorem ii_tr_distanceTo_101 : sm_D prog_6_method_8_code 101 1 102 (.iadd) := ⟨by decide +kernel, rfl⟩
set_option maxRecDepth 100000 in
theorem ii_tr_distanceTo_102 : sm_D prog_6_method_8_code 102 2 104 (.istore 6) := ⟨by decide +kernel, rfl⟩
set_option maxRecDepth 100000 in
theorem ii_tr_distanceTo_104 : sm_D prog_6_method_8_code 104 1 105 (.aload_n 0) := ⟨by decide +kernel, rfl⟩
set_option maxRecDepth 100000 in
theorem ii_tr_distanceTo_105 : sm_D prog_6_method_8_code 105 3 108 (.getfield 22) := ⟨by decide +kernel, rfl⟩
set_option maxRecDepth 100000 in
theorem ii_tr_distanceTo_108 : sm_D prog_6_method_8_code 108 2 110 (.iload 5) := ⟨by decide +kernel, rfl⟩
set_option maxRecDepth 100000 in
theorem ii_tr_distanceTo_110 : sm_D prog_6_method_8_code 110 1 111 (.iaload) := ⟨by decide +kernel, rfl⟩
set_option maxRecDepth 100000 in
theorem ii_tr_distanceTo_111 : sm_D prog_6_method_8_code 111 2 113 (.istore 4) := ⟨by decide +kernel, rfl⟩
set_option maxRecDepth 100000 in
theorem ii_tr_distanceTo_113 : sm_D prog_6_method_8_code 113 1 114 (.aload_n 0) := ⟨by decide +kernel, rfl⟩
set_option maxRecDepth 100000 in
theorem ii_tr_distanceTo_114 : sm_D prog_6_method_8_code 114 3 117 (.getfield 22) := ⟨by decide +kernel, rfl⟩
set_option maxRecDepth 100000 in
theorem ii_tr_distanceTo_117 : sm_D prog_6_method_8_code 117 2 119 (.iload 5) := ⟨by decide +kernel, rfl⟩
set_option maxRecDepth 100000 in
theorem ii_tr_distanceTo_119 : sm_D prog_6_method_8_code 119 2 121 (.iload 6) := ⟨by decide +kernel, rfl⟩
set_option maxRecDepth 100000 in
theorem ii_tr_distanceTo_121 : sm_D prog_6_method_8_code 121 1 122 (.iconst 1) := ⟨by decide +kernel, rfl⟩
set_option maxRecDepth 100000 in
theorem ii_tr_distanceTo_122 : sm_D prog_6_method_8_code 122 1 123 (.aload_n 0) := ⟨by decide +kernel, rfl⟩
set_option maxRecDepth 100000 in
theorem ii_tr_distanceTo_123 : sm_D prog_6_method_8_code 123 3 126 (.getfield 22) := ⟨by decide +kernel, rfl⟩
set_option maxRecDepth 100000 in
theorem ii_tr_distanceTo_126 : sm_D prog_6_method_8_code 126 2 128 (.iload 5) := ⟨by decide +kernel, rfl⟩
set_option maxRecDepth 100000 in
theorem ii_tr_distanceTo_128 : sm_D prog_6_method_8_code 128 1 129 (.iaload) := ⟨by decide +kernel, rfl⟩
set_option maxRecDepth 100000 in
theorem ii_tr_distanceTo_129 : sm_D prog_6_method_8_code 129 1 130 (.aload_n 0) := ⟨by decide +kernel, rfl⟩
set_option maxRecDepth 100000 in
theorem ii_tr_distanceTo_130 : sm_D prog_6_method_8_code 130 3 133 (.getfield 22) := ⟨by decide +kernel, rfl⟩
set_option maxRecDepth 100000 in
theorem ii_tr_distanceTo_133 : sm_D prog_6_method_8_code 133 2 135 (.iload 5) := ⟨by decide +kernel, rfl⟩
set_option maxRecDepth 100000 in
theorem ii_tr_distanceTo_135 : sm_D prog_6_method_8_code 135 1 136 (.iconst 1) := ⟨by decide +kernel, rfl⟩
set_option maxRecDepth 100000 in
theorem ii_tr_distanceTo_136 : sm_D prog_6_method_8_code 136 1 137 (.isub) := ⟨by decide +kernel, rfl⟩
set_option maxRecDepth 100000 in
theorem ii_tr_distanceTo_137 : sm_D prog_6_method_8_code 137 1 138 (.iaload) := ⟨by decide +kernel, rfl⟩
set_option maxRecDepth 100000 in
theorem ii_tr_distanceTo_138 : sm_D prog_6_method_8_code 138 3 141 (.invokestatic 74) := ⟨by decide +kernel, rfl⟩
set_option maxRecDepth 100000 in
theorem ii_tr_distanceTo_141 : sm_D prog_6_method_8_code 141 1 142 (.iadd) := ⟨by decide +kernel, rfl⟩
set_option maxRecDepth 100000 in
theorem ii_tr_distanceTo_142 : sm_D prog_6_method_8_code 142 3 145 (.invokestatic 74) := ⟨by decide +kernel, rfl⟩
set_option maxRecDepth 100000 in
theorem ii_tr_distanceTo_145 : sm_D prog_6_method_8_code 145 1 146 (.iastore) := ⟨by decide +kernel, rfl⟩
set_option maxRecDepth 100000 in
theorem ii_tr_distanceTo_146 : sm_D prog_6_method_8_code 146 3 149 (.iinc 5 1) := ⟨by decide +kernel, rfl⟩
set_option maxRecDepth 100000 in
theorem ii_tr_distanceTo_149 : sm_D prog_6_method_8_code 149 3 152 (.goto (-82)) := ⟨by decide +kernel, rfl⟩
set_option maxRecDepth 100000 in
theorem ii_tr_distanceTo_152 : sm_D prog_6_method_8_code 152 3 155 (.iinc 3 1) := ⟨by decide +kernel, rfl⟩
set_option maxRecDepth 100000 in
theorem ii_tr_distanceTo_155 : sm_D prog_6_method_8_code 155 3 158 (.goto (-119)) := ⟨by decide +kernel, rfl⟩
set_option maxRecDepth 100000 in
theorem ii_tr_distanceTo_158 : sm_D prog_6_method_8_code 158 1 159 (.aload_n 0) := ⟨by decide +kernel, rfl⟩
set_option maxRecDepth 100000 in
theorem ii_tr_distanceTo_159 : sm_D prog_6_method_8_code 159 3 162 (.getfield 22) := ⟨by decide +kernel, rfl⟩
set_option maxRecDepth 100000 in
theorem ii_tr_distanceTo_162 : sm_D prog_6_method_8_code 162 1 163 (.iload_n 2) := ⟨by decide +kernel, rfl⟩
set_option maxRecDepth 100000 in
theorem ii_tr_distanceTo_163 : sm_D prog_6_method_8_code 163 1 164 (.iaload) := ⟨by decide +kernel, rfl⟩
set_option maxRecDepth 100000 in
theorem ii_tr_distanceTo_164 : sm_D prog_6_method_8_code 164 1 165 (.ireturn) := ⟨by decide +kernel, rfl⟩
noncomputable def ff_tr_distanceTo_101 (self36 : Nat → Int32 → Int32 → sm_Mem → sm_R) (self67 : Nat → Int32 → Int32 → Int32 → Int32 → sm_Mem → sm_R) (a1 : Nat) (a2 : Int32) (a3 : Int32) (a5 : Int32) (b0 : Int32) (b1 : Int32) (w : sm_Mem) : sm_R := (Option.bind (sm_rd w 59 9 a5) fun x1 => (Option.bind (sm_rd w 59 9 a5) fun x2 => (Option.bind (sm_rd w 59 9 (a5 - (1 : Int32))) fun x3 => (Option.bind (sm_wr w 59 9 a5 (if ((1 : Int32) + (if x3 < x2 then x3 else x2)) < (b0 + b1) then ((1 : Int32) + (if x3 < x2 then x3 else x2)) else (b0 + b1))) fun w4 => self67 (a1) (a2) (a3) (x1) ((a5 + (1 : Int32))) w4))))
set_option maxHeartbeats 4000000 in
set_option maxRecDepth 100000 in
theorem ss_tr_distanceTo_101 {E : Nat × (Nat → Int32)} (self36 : Nat → Int32 → Int32 → sm_Mem → sm_R) (hself36 : ∀ (a1 : Nat) (a2 : Int32) (a3 : Int32) (w : sm_Mem), sm_Sim E (mi_tr_distanceTo) 36 [some (.ref 56), some (.ref a1), some (.int a2), some (.int a3), none, none, none] [] w (self36 a1 a2 a3 w)) (self67 : Nat → Int32 → Int32 → Int32 → Int32 → sm_Mem → sm_R) (hself67 : ∀ (a1 : Nat) (a2 : Int32) (a3 : Int32) (a4 : Int32) (a5 : Int32) (w : sm_Mem), sm_Sim E (mi_tr_distanceTo) 67 [some (.ref 56), some (.ref a1), some (.int a2), some (.int a3), some (.int a4), some (.int a5), none] [] w (self67 a1 a2 a3 a4 a5 w)) (a1 : Nat) (a2 : Int32) (a3 : Int32) (a5 : Int32) (b0 : Int32) (b1 : Int32) (w : sm_Mem) : sm_Sim E (mi_tr_distanceTo) 101 [some (.ref 56), some (.ref a1), some (.int a2), some (.int a3), none, some (.int a5), none] [.int b1, .int b0] w (ff_tr_distanceTo_101 self36 self67 a1 a2 a3 a5 b0 b1 w) := by
  unfold ff_tr_distanceTo_101
  refine sm_iadd ii_tr_distanceTo_101 ?_
  refine sm_istore [some (.ref 56), some (.ref a1), some (.int a2), some (.int a3), none, some (.int a5), some (.int (b0 + b1))] ii_tr_distanceTo_102 rfl rfl ?_
  refine sm_aload_n ii_tr_distanceTo_104 rfl ?_
  refine sm_getR 59 ii_tr_distanceTo_105 fl_tr_22 (k := 56) rfl ?_
  refine sm_iload ii_tr_distanceTo_108 rfl ?_
  refine sm_iald ii_tr_distanceTo_110 (k := 59) rfl (fun x1 => ?_)
  refine sm_istore [some (.ref 56), some (.ref a1), some (.int a2), some (.int a3), some (.int x1), some (.int a5), some (.int (b0 + b1))] ii_tr_distanceTo_111 rfl rfl ?_
  refine sm_aload_n ii_tr_distanceTo_113 rfl ?_
  refine sm_getR 59 ii_tr_distanceTo_114 fl_tr_22 (k := 56) rfl ?_
  refine sm_iload ii_tr_distanceTo_117 rfl ?_
  refine sm_iload ii_tr_distanceTo_119 rfl ?_
  refine sm_iconst (1 : Int32) ii_tr_distanceTo_121 (by decide) ?_
  refine sm_aload_n ii_tr_distanceTo_122 rfl ?_
  refine sm_getR 59 ii_tr_distanceTo_123 fl_tr_22 (k := 56) rfl ?_
  refine sm_iload ii_tr_distanceTo_126 rfl ?_
  refine sm_iald ii_tr_distanceTo_128 (k := 59) rfl (fun x2 => ?_)
  refine sm_aload_n ii_tr_distanceTo_129 rfl ?_
  refine sm_getR 59 ii_tr_distanceTo_130 fl_tr_22 (k := 56) rfl ?_
  refine sm_iload ii_tr_distanceTo_133 rfl ?_
  refine sm_iconst (1 : Int32) ii_tr_distanceTo_135 (by decide) ?_
  refine sm_isub ii_tr_distanceTo_136 ?_
  refine sm_iald ii_tr_distanceTo_137 (k := 59) rfl (fun x3 => ?_)
  refine sm_mmin ii_tr_distanceTo_138 mq_tr_74 mq_st_min mq_in mq_co_min (by decide) rfl ?_
  refine sm_iadd ii_tr_distanceTo_141 ?_
  refine sm_mmin ii_tr_distanceTo_142 mq_tr_74 mq_st_min mq_in mq_co_min (by decide) rfl ?_
  refine sm_iast ii_tr_distanceTo_145 (k := 59) rfl (fun w4 => ?_)
  refine sm_iinc (a5 + (1 : Int32)) [some (.ref 56), some (.ref a1), some (.int a2), some (.int a3), some (.int x1), some (.int (a5 + (1 : Int32))), some (.int (b0 + b1))] ii_tr_distanceTo_146 rfl rfl rfl rfl ?_
  refine sm_goto 67 ii_tr_distanceTo_149 (by decide) ?_
  refine sm_msk [true, true, true, true, true, true, false] [some (.ref 56), some (.ref a1), some (.int a2), some (.int a3), some (.int x1), some (.int (a5 + (1 : Int32))), none] rfl ?_
  exact hself67 (a1) (a2) (a3) (x1) ((a5 + (1 : Int32))) w4
noncomputable def ff_tr_distanceTo_67_b (self36 : Nat → Int32 → Int32 → sm_Mem → sm_R) (self67 : Nat → Int32 → Int32 → Int32 → Int32 → sm_Mem → sm_R) (a1 : Nat) (a2 : Int32) (a3 : Int32) (a4 : Int32) (a5 : Int32) (w : sm_Mem) : sm_R := (if a2 < a5 then self36 (a1) (a2) ((a3 + (1 : Int32))) w else (Option.bind (sm_rd w 43 8 a3) fun x5 => (Option.bind (sm_fk a1 2 0 2) fun r6 => (Option.bind (sm_rds w r6 (a5 - (1 : Int32))) fun x7 => (if x5 = x7 then ff_tr_distanceTo_101 self36 self67 (a1) (a2) (a3) (a5) (a4) ((0 : Int32)) w else ff_tr_distanceTo_101 self36 self67 (a1) (a2) (a3) (a5) (a4) ((1 : Int32)) w)))))
noncomputable def ff_tr_distanceTo_67_f (self36 : Nat → Int32 → Int32 → sm_Mem → sm_R) : Nat → Nat → Int32 → Int32 → Int32 → Int32 → sm_Mem → sm_R
  | 0, _, _, _, _, _, _ => none
  | n + 1, a1, a2, a3, a4, a5, w => ff_tr_distanceTo_67_b self36 (ff_tr_distanceTo_67_f self36 n) a1 a2 a3 a4 a5 w
noncomputable def ff_tr_distanceTo_67 (self36 : Nat → Int32 → Int32 → sm_Mem → sm_R) (a1 : Nat) (a2 : Int32) (a3 : Int32) (a4 : Int32) (a5 : Int32) (w : sm_Mem) : sm_R := ff_tr_distanceTo_67_f self36 sm_N a1 a2 a3 a4 a5 w
set_option maxHeartbeats 4000000 in
set_option maxRecDepth 100000 in
theorem ss_tr_distanceTo_67_b {E : Nat × (Nat → Int32)} (self36 : Nat → Int32 → Int32 → sm_Mem → sm_R) (hself36 : ∀ (a1 : Nat) (a2 : Int32) (a3 : Int32) (w : sm_Mem), sm_Sim E (mi_tr_distanceTo) 36 [some (.ref 56), some (.ref a1), some (.int a2), some (.int a3), none, none, none] [] w (self36 a1 a2 a3 w)) (self67 : Nat → Int32 → Int32 → Int32 → Int32 → sm_Mem → sm_R) (hself67 : ∀ (a1 : Nat) (a2 : Int32) (a3 : Int32) (a4 : Int32) (a5 : Int32) (w : sm_Mem), sm_Sim E (mi_tr_distanceTo) 67 [some (.ref 56), some (.ref a1), some (.int a2), some (.int a3), some (.int a4), some (.int a5), none] [] w (self67 a1 a2 a3 a4 a5 w)) (a1 : Nat) (a2 : Int32) (a3 : Int32) (a4 : Int32) (a5 : Int32) (w : sm_Mem) : sm_Sim E (mi_tr_distanceTo) 67 [some (.ref 56), some (.ref a1), some (.int a2), some (.int a3), some (.int a4), some (.int a5), none] [] w (ff_tr_distanceTo_67_b self36 self67 a1 a2 a3 a4 a5 w) := by
  unfold ff_tr_distanceTo_67_b
  refine sm_iload ii_tr_distanceTo_67 rfl ?_
  refine sm_iload_n ii_tr_distanceTo_69 rfl ?_
  refine sm_icmp_gt 152 ii_tr_distanceTo_70 (by decide) ?_ ?_
  · refine sm_iinc (a3 + (1 : Int32)) [some (.ref 56), some (.ref a1), some (.int a2), some (.int (a3 + (1 : Int32))), some (.int a4), some (.int a5), none] ii_tr_distanceTo_152 rfl rfl rfl rfl ?_
    refine sm_goto 36 ii_tr_distanceTo_155 (by decide) ?_
    refine sm_msk [true, true, true, true, false, false, false] [some (.ref 56), some (.ref a1), some (.int a2), some (.int (a3 + (1 : Int32))), none, none, none] rfl ?_
    exact hself36 (a1) (a2) ((a3 + (1 : Int32))) w
  · refine sm_iload ii_tr_distanceTo_73 rfl ?_
    refine sm_aload_n ii_tr_distanceTo_75 rfl ?_
    refine sm_getR 36 ii_tr_distanceTo_76 fl_tr_9 (k := 56) rfl ?_
    refine sm_getR 43 ii_tr_distanceTo_79 fl_tr_78 (k := 36) rfl ?_
    refine sm_iload_n ii_tr_distanceTo_82 rfl ?_
    refine sm_iald ii_tr_distanceTo_83 (k := 43) rfl (fun x5 => ?_)
    refine sm_aload_n ii_tr_distanceTo_84 rfl ?_
    refine sm_getRs ii_tr_distanceTo_85 fl_tr_81 (fun r6 => ?_)
    refine sm_iload ii_tr_distanceTo_88 rfl ?_
    refine sm_iconst (1 : Int32) ii_tr_distanceTo_90 (by decide) ?_
    refine sm_isub ii_tr_distanceTo_91 ?_
    refine sm_ialds ii_tr_distanceTo_92 (fun x7 => ?_)
    refine sm_icmp_ne 100 ii_tr_distanceTo_93 (by decide) ?_ ?_
    · refine sm_iconst (0 : Int32) ii_tr_distanceTo_96 (by decide) ?_
      refine sm_goto 101 ii_tr_distanceTo_97 (by decide) ?_
      refine sm_msk [true, true, true, true, false, true, false] [some (.ref 56), some (.ref a1), some (.int a2), some (.int a3), none, some (.int a5), none] rfl ?_
      exact ss_tr_distanceTo_101 self36 hself36 self67 hself67 (a1) (a2) (a3) (a5) (a4) ((0 : Int32)) w
    · refine sm_iconst (1 : Int32) ii_tr_distanceTo_100 (by decide) ?_
      refine sm_msk [true, true, true, true, false, true, false] [some (.ref 56), some (.ref a1), some (.int a2), some (.int a3), none, some (.int a5), none] rfl ?_
      exact ss_tr_distanceTo_101 self36 hself36 self67 hself67 (a1) (a2) (a3) (a5) (a4) ((1 : Int32)) w
set_option maxHeartbeats 4000000 in
set_option maxRecDepth 100000 in
theorem ss_tr_distanceTo_67_f {E : Nat × (Nat → Int32)} (self36 : Nat → Int32 → Int32 → sm_Mem → sm_R) (hself36 : ∀ (a1 : Nat) (a2 : Int32) (a3 : Int32) (w : sm_Mem), sm_Sim E (mi_tr_distanceTo) 36 [some (.ref 56), some (.ref a1), some (.int a2), some (.int a3), none, none, none] [] w (self36 a1 a2 a3 w)) : ∀ (n : Nat) (a1 : Nat) (a2 : Int32) (a3 : Int32) (a4 : Int32) (a5 : Int32) (w : sm_Mem), sm_Sim E (mi_tr_distanceTo) 67 [some (.ref 56), some (.ref a1), some (.int a2), some (.int a3), some (.int a4), some (.int a5), none] [] w (ff_tr_distanceTo_67_f self36 n a1 a2 a3 a4 a5 w)
  | 0, _, _, _, _, _, _ => fun _ _ h => by cases h
  | n + 1, a1, a2, a3, a4, a5, w => ss_tr_distanceTo_67_b self36 hself36 _ (ss_tr_distanceTo_67_f self36 hself36 n) a1 a2 a3 a4 a5 w
set_option maxHeartbeats 4000000 in
set_option maxRecDepth 100000 in
theorem ss_tr_distanceTo_67 {E : Nat × (Nat → Int32)} (self36 : Nat → Int32 → Int32 → sm_Mem → sm_R) (hself36 : ∀ (a1 : Nat) (a2 : Int32) (a3 : Int32) (w : sm_Mem), sm_Sim E (mi_tr_distanceTo) 36 [some (.ref 56), some (.ref a1), some (.int a2), some (.int a3), none, none, none] [] w (self36 a1 a2 a3 w)) (a1 : Nat) (a2 : Int32) (a3 : Int32) (a4 : Int32) (a5 : Int32) (w : sm_Mem) : sm_Sim E (mi_tr_distanceTo) 67 [some (.ref 56), some (.ref a1), some (.int a2), some (.int a3), some (.int a4), some (.int a5), none] [] w (ff_tr_distanceTo_67 self36 a1 a2 a3 a4 a5 w) := ss_tr_distanceTo_67_f self36 hself36 sm_N a1 a2 a3 a4 a5 w
noncomputable def ff_tr_distanceTo_36_b  (self36 : Nat → Int32 → Int32 → sm_Mem → sm_R) (a1 : Nat) (a2 : Int32) (a3 : Int32) (w : sm_Mem) : sm_R := (if (w.1 36 11) ≤ a3 then (Option.bind (sm_rd w 59 9 a2) fun x8 => (some (.int x8, w))) else (Option.bind (sm_rd w 59 9 (0 : Int32)) fun x9 => (Option.bind (sm_wr w 59 9 (0 : Int32) (a3 + (1 : Int32))) fun w10 => ff_tr_distanceTo_67 self36 (a1) (a2) (a3) (x9) ((1 : Int32)) w10)))
noncomputable def ff_tr_distanceTo_36_f  : Nat → Nat → Int32 → Int32 → sm_Mem → sm_R
  | 0, _, _, _, _ => none
  | n + 1, a1, a2, a3, w => ff_tr_distanceTo_36_b  (ff_tr_distanceTo_36_f  n) a1 a2 a3 w
noncomputable def ff_tr_distanceTo_36  (a1 : Nat) (a2 : Int32) (a3 : Int32) (w : sm_Mem) : sm_R := ff_tr_distanceTo_36_f  sm_N a1 a2 a3 w
set_option maxHeartbeats 4000000 in
set_option maxRecDepth 100000 in
theorem ss_tr_distanceTo_36_b {E : Nat × (Nat → Int32)}  (self36 : Nat → Int32 → Int32 → sm_Mem → sm_R) (hself36 : ∀ (a1 : Nat) (a2 : Int32) (a3 : Int32) (w : sm_Mem), sm_Sim E (mi_tr_distanceTo) 36 [some (.ref 56), some (.ref a1), some (.int a2), some (.int a3), none, none, none] [] w (self36 a1 a2 a3 w)) (a1 : Nat) (a2 : Int32) (a3 : Int32) (w : sm_Mem) : sm_Sim E (mi_tr_distanceTo) 36 [some (.ref 56), some (.ref a1), some (.int a2), some (.int a3), none, none, none] [] w (ff_tr_distanceTo_36_b  self36 a1 a2 a3 w) := by
  unfold ff_tr_distanceTo_36_b
  refine sm_iload_n ii_tr_distanceTo_36 rfl ?_
  refine sm_aload_n ii_tr_distanceTo_37 rfl ?_
  refine sm_getR 36 ii_tr_distanceTo_38 fl_tr_9 (k := 56) rfl ?_
  refine sm_getI ii_tr_distanceTo_41 fl_tr_77 (k := 36) rfl ?_
  refine sm_icmp_ge 158 ii_tr_distanceTo_44 (by decide) ?_ ?_
  · refine sm_aload_n ii_tr_distanceTo_158 rfl ?_
    refine sm_getR 59 ii_tr_distanceTo_159 fl_tr_22 (k := 56) rfl ?_
    refine sm_iload_n ii_tr_distanceTo_162 rfl ?_
    refine sm_iald ii_tr_distanceTo_163 (k := 59) rfl (fun x8 => ?_)
    exact sm_iret ii_tr_distanceTo_164 rfl
  · refine sm_aload_n ii_tr_distanceTo_47 rfl ?_
    refine sm_getR 59 ii_tr_distanceTo_48 fl_tr_22 (k := 56) rfl ?_
    refine sm_iconst (0 : Int32) ii_tr_distanceTo_51 (by decide) ?_
    refine sm_iald ii_tr_distanceTo_52 (k := 59) rfl (fun x9 => ?_)
    refine sm_istore [some (.ref 56), some (.ref a1), some (.int a2), some (.int a3), some (.int x9), none, none] ii_tr_distanceTo_53 rfl rfl ?_
    refine sm_aload_n ii_tr_distanceTo_55 rfl ?_
    refine sm_getR 59 ii_tr_distanceTo_56 fl_tr_22 (k := 56) rfl ?_
    refine sm_iconst (0 : Int32) ii_tr_distanceTo_59 (by decide) ?_
    refine sm_iload_n ii_tr_distanceTo_60 rfl ?_
    refine sm_iconst (1 : Int32) ii_tr_distanceTo_61 (by decide) ?_
    refine sm_iadd ii_tr_distanceTo_62 ?_
    refine sm_iast ii_tr_distanceTo_63 (k := 59) rfl (fun w10 => ?_)
    refine sm_iconst (1 : Int32) ii_tr_distanceTo_64 (by decide) ?_
    refine sm_istore [some (.ref 56), some (.ref a1), some (.int a2), some (.int a3), some (.int x9), some (.int (1 : Int32)), none] ii_tr_distanceTo_65 rfl rfl ?_
    exact ss_tr_distanceTo_67 self36 hself36 (a1) (a2) (a3) (x9) ((1 : Int32)) w10
set_option maxHeartbeats 4000000 in
set_option maxRecDepth 100000 in
theorem ss_tr_distanceTo_36_f {E : Nat × (Nat → Int32)}  : ∀ (n : Nat) (a1 : Nat) (a2 : Int32) (a3 : Int32) (w : sm_Mem), sm_Sim E (mi_tr_distanceTo) 36 [some (.ref 56), some (.ref a1), some (.int a2), some (.int a3), none, none, none] [] w (ff_tr_distanceTo_36_f  n a1 a2 a3 w)
  | 0, _, _, _, _ => fun _ _ h => by cases h
  | n + 1, a1, a2, a3, w => ss_tr_distanceTo_36_b  _ (ss_tr_distanceTo_36_f  n) a1 a2 a3 w
set_option maxHeartbeats 4000000 in
set_option maxRecDepth 100000 in
theorem ss_tr_distanceTo_36 {E : Nat × (Nat → Int32)}  (a1 : Nat) (a2 : Int32) (a3 : Int32) (w : sm_Mem) : sm_Sim E (mi_tr_distanceTo) 36 [some (.ref 56), some (.ref a1), some (.int a2), some (.int a3), none, none, none] [] w (ff_tr_distanceTo_36  a1 a2 a3 w) := ss_tr_distanceTo_36_f  sm_N a1 a2 a3 w
noncomputable def ff_tr_distanceTo_16_b  (self16 : Nat → Int32 → Int32 → sm_Mem → sm_R) (a1 : Nat) (a2 : Int32) (a3 : Int32) (w : sm_Mem) : sm_R := (if a2 < a3 then ff_tr_distanceTo_36 (a1) (a2) ((0 : Int32)) w else (Option.bind (sm_wr w 59 9 a3 a3) fun w11 => self16 (a1) (a2) ((a3 + (1 : Int32))) w11))
noncomputable def ff_tr_distanceTo_16_f  : Nat → Nat → Int32 → Int32 → sm_Mem → sm_R
  | 0, _, _, _, _ => none
  | n + 1, a1, a2, a3, w => ff_tr_distanceTo_16_b  (ff_tr_distanceTo_16_f  n) a1 a2 a3 w
noncomputable def ff_tr_distanceTo_16  (a1 : Nat) (a2 : Int32) (a3 : Int32) (w : sm_Mem) : sm_R := ff_tr_distanceTo_16_f  sm_N a1 a2 a3 w
set_option maxHeartbeats 4000000 in
set_option maxRecDepth 100000 in
theorem ss_tr_distanceTo_16_b {E : Nat × (Nat → Int32)}  (self16 : Nat → Int32 → Int32 → sm_Mem → sm_R) (hself16 : ∀ (a1 : Nat) (a2 : Int32) (a3 : Int32) (w : sm_Mem), sm_Sim E (mi_tr_distanceTo) 16 [some (.ref 56), some (.ref a1), some (.int a2), some (.int a3), none, none, none] [] w (self16 a1 a2 a3 w)) (a1 : Nat) (a2 : Int32) (a3 : Int32) (w : sm_Mem) : sm_Sim E (mi_tr_distanceTo) 16 [some (.ref 56), some (.ref a1), some (.int a2), some (.int a3), none, none, none] [] w (ff_tr_distanceTo_16_b  self16 a1 a2 a3 w) := by
  unfold ff_tr_distanceTo_16_b
  refine sm_iload_n ii_tr_distanceTo_16 rfl ?_
  refine sm_iload_n ii_tr_distanceTo_17 rfl ?_
  refine sm_icmp_gt 34 ii_tr_distanceTo_18 (by decide) ?_ ?_
  · refine sm_iconst (0 : Int32) ii_tr_distanceTo_34 (by decide) ?_
    refine sm_istore_n [some (.ref 56), some (.ref a1), some (.int a2), some (.int (0 : Int32)), none, none, none] ii_tr_distanceTo_35 rfl rfl ?_
    exact ss_tr_distanceTo_36 (a1) (a2) ((0 : Int32)) w
  · refine sm_aload_n ii_tr_distanceTo_21 rfl ?_
    refine sm_getR 59 ii_tr_distanceTo_22 fl_tr_22 (k := 56) rfl ?_
    refine sm_iload_n ii_tr_distanceTo_25 rfl ?_
    refine sm_iload_n ii_tr_distanceTo_26 rfl ?_
    refine sm_iast ii_tr_distanceTo_27 (k := 59) rfl (fun w11 => ?_)
    refine sm_iinc (a3 + (1 : Int32)) [some (.ref 56), some (.ref a1), some (.int a2), some (.int (a3 + (1 : Int32))), none, none, none] ii_tr_distanceTo_28 rfl rfl rfl rfl ?_
    refine sm_goto 16 ii_tr_distanceTo_31 (by decide) ?_
    exact hself16 (a1) (a2) ((a3 + (1 : Int32))) w11
set_option maxHeartbeats 4000000 in
set_option maxRecDepth 100000 in
theorem ss_tr_distanceTo_16_f {E : Nat × (Nat → Int32)}  : ∀ (n : Nat) (a1 : Nat) (a2 : Int32) (a3 : Int32) (w : sm_Mem), sm_Sim E (mi_tr_distanceTo) 16 [some (.ref 56), some (.ref a1), some (.int a2), some (.int a3), none, none, none] [] w (ff_tr_distanceTo_16_f  n a1 a2 a3 w)
  | 0, _, _, _, _ => fun _ _ h => by cases h
  | n + 1, a1, a2, a3, w => ss_tr_distanceTo_16_b  _ (ss_tr_distanceTo_16_f  n) a1 a2 a3 w
set_option maxHeartbeats 4000000 in
set_option maxRecDepth 100000 in
theorem ss_tr_distanceTo_16 {E : Nat × (Nat → Int32)}  (a1 : Nat) (a2 : Int32) (a3 : Int32) (w : sm_Mem) : sm_Sim E (mi_tr_distanceTo) 16 [some (.ref 56), some (.ref a1), some (.int a2), some (.int a3), none, none, none] [] w (ff_tr_distanceTo_16  a1 a2 a3 w) := ss_tr_distanceTo_16_f  sm_N a1 a2 a3 w
noncomputable def ff_tr_distanceTo  (a1 : Nat) (w : sm_Mem) : sm_R := (Option.bind (sm_gI w a1 2 1) fun x12 => ff_tr_distanceTo_16 (a1) ((if (0 : Int32) < (if (8 : Int32) < x12 then (8 : Int32) else x12) then (if (8 : Int32) < x12 then (8 : Int32) else x12) else (0 : Int32))) ((0 : Int32)) w)
set_option maxHeartbeats 4000000 in
set_option maxRecDepth 100000 in
theorem ss_tr_distanceTo_0 {E : Nat × (Nat → Int32)}  (a1 : Nat) (w : sm_Mem) : sm_Sim E (mi_tr_distanceTo) 0 [some (.ref 56), some (.ref a1), none, none, none, none, none] [] w (ff_tr_distanceTo  a1 w) := by
  unfold ff_tr_distanceTo
  refine sm_iconst (0 : Int32) ii_tr_distanceTo_0 (by decide) ?_
  refine sm_aload_n ii_tr_distanceTo_1 rfl ?_
  refine sm_getIs ii_tr_distanceTo_2 fl_tr_69 (fun x12 => ?_)
  refine sm_bipush (8 : Int32) ii_tr_distanceTo_5 (by decide) ?_
  refine sm_mmin ii_tr_distanceTo_7 mq_tr_74 mq_st_min mq_in mq_co_min (by decide) rfl ?_
  refine sm_mmax ii_tr_distanceTo_10 mq_tr_59 mq_st_max mq_in mq_co_max (by decide) rfl ?_
  refine sm_istore_n [some (.ref 56), some (.ref a1), some (.int (if (0 : Int32) < (if (8 : Int32) < x12 then (8 : Int32) else x12) then (if (8 : Int32) < x12 then (8 : Int32) else x12) else (0 : Int32))), none, none, none, none] ii_tr_distanceTo_13 rfl rfl ?_
  refine sm_iconst (0 : Int32) ii_tr_distanceTo_14 (by decide) ?_
  refine sm_istore_n [some (.ref 56), some (.ref a1), some (.int (if (0 : Int32) < (if (8 : Int32) < x12 then (8 : Int32) else x12) then (if (8 : Int32) < x12 then (8 : Int32) else x12) else (0 : Int32))), some (.int (0 : Int32)), none, none, none] ii_tr_distanceTo_15 rfl rfl ?_
  exact ss_tr_distanceTo_16 (a1) ((if (0 : Int32) < (if (8 : Int32) < x12 then (8 : Int32) else x12) then (if (8 : Int32) < x12 then (8 : Int32) else x12) else (0 : Int32))) ((0 : Int32)) w
set_option maxHeartbeats 4000000 in
set_option maxRecDepth 100000 in
theorem mc_tr_distanceTo (a1 : Nat) (w : sm_Mem) : sm_MC mi_tr_distanceTo [.ref 56, .ref a1] w (ff_tr_distanceTo a1 w) := sm_MC_of (0, fun _ => 0) (by decide +kernel) (by decide) rfl (Nat.le_of_ble_eq_true rfl) (ss_tr_distanceTo_0 a1 w)
abbrev mi_ho_off : sm_MI := (⟨"HerOrders", "off", "(I)I"⟩, prog_1_method_34_code, 3, (some .int), 4)
set_option maxRecDepth 100000 in
theorem mf_ho_off : sm_MF mi_ho_off 1 := ⟨List.mem_of_getElem? (i := 807) (by decide +kernel), List.mem_of_getElem? (i := 124) (by decide +kernel), ⟨by decide, by decide⟩, by decide +kernel⟩
set_option maxRecDepth 100000 in
theorem mv_ho_off : sm_MFV mi_ho_off := ⟨List.mem_of_getElem? (i := 805) (by decide +kernel), List.mem_of_getElem? (i := 806) (by decide +kernel)⟩
set_option maxRecDepth 100000 in
theorem ii_ho_off_0 : sm_D prog_1_method_34_code 0 1 1 (.aload_n 0) := ⟨by decide +kernel, rfl⟩
set_option maxRecDepth 100000 in
theorem ii_ho_off_1 : sm_D prog_1_method_34_code 1 1 2 (.iload_n 1) := ⟨by decide +kernel, rfl⟩
set_option maxRecDepth 100000 in
theorem ii_ho_off_2 : sm_D prog_1_method_34_code 2 2 4 (.bipush 8) := ⟨by decide +kernel, rfl⟩
set_option maxRecDepth 100000 in
theorem ii_ho_off_4 : sm_D prog_1_method_34_code 4 3 7 (.invokevirtual 192) := ⟨by decide +kernel, rfl⟩
set_option maxRecDepth 100000 in
theorem ii_ho_off_7 : sm_D prog_1_method_34_code 7 1 8 (.istore_n 2) := ⟨by decide +kernel, rfl⟩
set_option maxRecDepth 100000 in
theorem ii_ho_off_8 : sm_D prog_1_method_34_code 8 1 9 (.iload_n 2) := ⟨by decide +kernel, rfl⟩
set_option maxRecDepth 100000 in
theorem ii_ho_off_9 : sm_D prog_1_method_34_code 9 3 12 (.ifCond .eq 5) := ⟨by decide +kernel, rfl⟩
set_option maxRecDepth 100000 in
theorem ii_ho_off_12 : sm_D prog_1_method_34_code 12 1 13 (.iload_n 2) := ⟨by decide +kernel, rfl⟩
set_option maxRecDepth 100000 in
theorem ii_ho_off_13 : sm_D prog_1_method_34_code 13 1 14 (.ireturn) := ⟨by decide +kernel, rfl⟩
set_option maxRecDepth 100000 in
theorem ii_ho_off_14 : sm_D prog_1_method_34_code 14 1 15 (.aload_n 0) := ⟨by decide +kernel, rfl⟩
set_option maxRecDepth 100000 in
theorem ii_ho_off_15 : sm_D prog_1_method_34_code 15 3 18 (.getfield 47) := ⟨by decide +kernel, rfl⟩
set_option maxRecDepth 100000 in
theorem ii_ho_off_18 : sm_D prog_1_method_34_code 18 1 19 (.aload_n 0) := ⟨by decide +kernel, rfl⟩
set_option maxRecDepth 100000 in
theorem ii_ho_off_19 : sm_D prog_1_method_34_code 19 3 22 (.getfield 11) := ⟨by decide +kernel, rfl⟩
set_option maxRecDepth 100000 in
theorem ii_ho_off_22 : sm_D prog_1_method_34_code 22 1 23 (.iload_n 1) := ⟨by decide +kernel, rfl⟩
set_option maxRecDepth 100000 in
theorem ii_ho_off_23 : sm_D prog_1_method_34_code 23 1 24 (.aaload) := ⟨by decide +kernel, rfl⟩
set_option maxRecDepth 100000 in
theorem ii_ho_off_24 : sm_D prog_1_method_34_code 24 3 27 (.invokevirtual 275) := ⟨by decide +kernel, rfl⟩
set_option maxRecDepth 100000 in
theorem ii_ho_off_27 : sm_D prog_1_method_34_code 27 1 28 (.ireturn) := ⟨by decide +kernel, rfl⟩
noncomputable def ff_ho_off  (a1 : Int32) (w : sm_Mem) : sm_R := (sm_cI (ff_ho_refusalOfWords (a1) ((8 : Int32)) w) fun x1 w2 => (if x1 = (0 : Int32) then (Option.bind (sm_rr 1 a1) fun r3 => (sm_cI (ff_tr_distanceTo (r3) w2) fun x4 w5 => (some (.int x4, w5)))) else (some (.int x1, w2))))
set_option maxHeartbeats 4000000 in
set_option maxRecDepth 100000 in
theorem ss_ho_off_0 {E : Nat × (Nat → Int32)}  (a1 : Int32) (w : sm_Mem) : sm_Sim E (mi_ho_off) 0 [some (.ref 0), some (.int a1), none] [] w (ff_ho_off  a1 w) := by
  unfold ff_ho_off
  refine sm_aload_n ii_ho_off_0 rfl ?_
  refine sm_iload_n ii_ho_off_1 rfl ?_
  refine sm_bipush (8 : Int32) ii_ho_off_2 (by decide) ?_
  refine sm_cvI [.int a1, .int (8 : Int32)] [] rfl ii_ho_off_4 ml_ho_192 (mf_ho_refusalOfWords) (mv_ho_refusalOfWords) (Nat.le_of_ble_eq_true rfl) rfl 6 rfl rfl rfl rfl (mc_ho_refusalOfWords (a1) ((8 : Int32)) w) (fun x1 w2 => ?_)
  refine sm_istore_n [some (.ref 0), some (.int a1), some (.int x1)] ii_ho_off_7 rfl rfl ?_
  refine sm_iload_n ii_ho_off_8 rfl ?_
  refine sm_if_eq 14 ii_ho_off_9 (by decide) ?_ ?_
  · refine sm_aload_n ii_ho_off_14 rfl ?_
    refine sm_getR 56 ii_ho_off_15 fl_ho_47 (k := 0) rfl ?_
    refine sm_aload_n ii_ho_off_18 rfl ?_
    refine sm_getR 1 ii_ho_off_19 fl_ho_11 (k := 0) rfl ?_
    refine sm_iload_n ii_ho_off_22 rfl ?_
    refine sm_aald ii_ho_off_23 (fun r3 => ?_)
    refine sm_cvI [.ref r3] [] rfl ii_ho_off_24 ml_ho_275 (mf_tr_distanceTo) (mv_tr_distanceTo) (Nat.le_of_ble_eq_true rfl) rfl 4 rfl rfl rfl rfl (mc_tr_distanceTo (r3) w2) (fun x4 w5 => ?_)
    exact sm_iret ii_ho_off_27 rfl
  · refine sm_iload_n ii_ho_off_12 rfl ?_
    exact sm_iret ii_ho_off_13 rfl
set_option maxHeartbeats 4000000 in
set_option maxRecDepth 100000 in
theorem mc_ho_off (a1 : Int32) (w : sm_Mem) : sm_MC mi_ho_off [.ref 0, .int a1] w (ff_ho_off a1 w) := sm_MC_of (0, fun _ => 0) (by decide +kernel) (by decide) rfl (Nat.le_of_ble_eq_true rfl) (ss_ho_off_0 a1 w)
abbrev mi_mo_off : sm_MI := (⟨"HerOrdersModel", "off", "(I)I"⟩, prog_9_method_84_code, 9, (some .int), 3)
set_option maxRecDepth 100000 in
theorem mf_mo_off : sm_MF mi_mo_off 1 := ⟨List.mem_of_getElem? (i := 1354) (by decide +kernel), List.mem_of_getElem? (i := 132) (by decide +kernel), ⟨by decide, by decide⟩, by decide +kernel⟩
set_option maxRecDepth 100000 in
theorem mv_mo_off : sm_MFV mi_mo_off := ⟨List.mem_of_getElem? (i := 1352) (by decide +kernel), List.mem_of_getElem? (i := 1353) (by decide +kernel)⟩
set_option maxRecDepth 100000 in
theorem ii_mo_off_0 : sm_D prog_9_method_84_code 0 1 1 (.iload_n 1) := ⟨by decide +kernel, rfl⟩
set_option maxRecDepth 100000 in
theorem ii_mo_off_1 : sm_D prog_9_method_84_code 1 3 4 (.invokestatic 77) := ⟨by decide +kernel, rfl⟩
set_option maxRecDepth 100000 in
theorem ii_mo_off_4 : sm_D prog_9_method_84_code 4 3 7 (.ifCond .ne 5) := ⟨by decide +kernel, rfl⟩
set_option maxRecDepth 100000 in
theorem ii_mo_off_7 : sm_D prog_9_method_84_code 7 1 8 (.iconst (-1)) := ⟨by decide +kernel, rfl⟩
set_option maxRecDepth 100000 in
theorem ii_mo_off_8 : sm_D prog_9_method_84_code 8 1 9 (.ireturn) := ⟨by decide +kernel, rfl⟩
set_option maxRecDepth 100000 in
theorem ii_mo_off_9 : sm_D prog_9_method_84_code 9 1 10 (.aload_n 0) := ⟨by decide +kernel, rfl⟩
set_option maxRecDepth 100000 in
theorem ii_mo_off_10 : sm_D prog_9_method_84_code 10 3 13 (.getfield 135) := ⟨by decide +kernel, rfl⟩
set_option maxRecDepth 100000 in
theorem ii_mo_off_13 : sm_D prog_9_method_84_code 13 3 16 (.ifCond .ne 6) := ⟨by decide +kernel, rfl⟩
set_option maxRecDepth 100000 in
theorem ii_mo_off_16 : sm_D prog_9_method_84_code 16 2 18 (.bipush (-4)) := ⟨by decide +kernel, rfl⟩
set_option maxRecDepth 100000 in
theorem ii_mo_off_18 : sm_D prog_9_method_84_code 18 1 19 (.ireturn) := ⟨by decide +kernel, rfl⟩
set_option maxRecDepth 100000 in
theorem ii_mo_off_19 : sm_D prog_9_method_84_code 19 1 20 (.aload_n 0) := ⟨by decide +kernel, rfl⟩
set_option maxRecDepth 100000 in
theorem ii_mo_off_20 : sm_D prog_9_method_84_code 20 3 23 (.getfield 22) := ⟨by decide +kernel, rfl⟩
set_option maxRecDepth 100000 in
theorem ii_mo_off_23 : sm_D prog_9_method_84_code 23 1 24 (.iload_n 1) := ⟨by decide +kernel, rfl⟩
set_option maxRecDepth 100000 in
theorem ii_mo_off_24 : sm_D prog_9_method_84_code 24 1 25 (.iaload) := ⟨by decide +kernel, rfl⟩
set_option maxRecDepth 100000 in
theorem ii_mo_off_25 : sm_D prog_9_method_84_code 25 3 28 (.ifCond .ge 9) := ⟨by decide +kernel, rfl⟩
set_option maxRecDepth 100000 in
theorem ii_mo_off_28 : sm_D prog_9_method_84_code 28 1 29 (.aload_n 0) := ⟨by decide +kernel, rfl⟩
set_option maxRecDepth 100000 in
theorem ii_mo_off_29 : sm_D prog_9_method_84_code 29 1 30 (.iconst 1) := ⟨by decide +kernel, rfl⟩
set_option maxRecDepth 100000 in
theorem ii_mo_off_30 : sm_D prog_9_method_84_code 30 3 33 (.invokevirtual 81) := ⟨by decide +kernel, rfl⟩
set_option maxRecDepth 100000 in
theorem ii_mo_off_33 : sm_D prog_9_method_84_code 33 1 34 (.ireturn) := ⟨by decide +kernel, rfl⟩
set_option maxRecDepth 100000 in
theorem ii_mo_off_34 : sm_D prog_9_method_84_code 34 1 35 (.aload_n 0) := ⟨by decide +kernel, rfl⟩
set_option maxRecDepth 100000 in
theorem ii_mo_off_35 : sm_D prog_9_method_84_code 35 3 38 (.getfield 22) := ⟨by decide +kernel, rfl⟩
set_option maxRecDepth 100000 in
theorem ii_mo_off_38 : sm_D prog_9_method_84_code 38 1 39 (.iload_n 1) := ⟨by decide +kernel, rfl⟩
set_option maxRecDepth 100000 in
theorem ii_mo_off_39 : sm_D prog_9_method_84_code 39 1 40 (.iaload) := ⟨by decide +kernel, rfl⟩
set_option maxRecDepth 100000 in
theorem ii_mo_off_40 : sm_D prog_9_method_84_code 40 2 42 (.bipush 8) := ⟨by decide +kernel, rfl⟩
set_option maxRecDepth 100000 in
theorem ii_mo_off_42 : sm_D prog_9_method_84_code 42 3 45 (.if_icmp .le 9) := ⟨by decide +kernel, rfl⟩
set_option maxRecDepth 100000 in
theorem ii_mo_off_45 : sm_D prog_9_method_84_code 45 1 46 (.aload_n 0) := ⟨by decide +kernel, rfl⟩
set_option maxRecDepth 100000 in
theorem ii_mo_off_46 : sm_D prog_9_method_84_code 46 1 47 (.iconst 5) := ⟨by decide +kernel, rfl⟩
set_option maxRecDepth 100000 in
theorem ii_mo_off_47 : sm_D prog_9_method_84_code 47 3 50 (.invokevirtual 81) := ⟨by decide +kernel, rfl⟩
set_option maxRecDepth 100000 in
theorem ii_mo_off_50 : sm_D prog_9_method_84_code 50 1 51 (.ireturn) := ⟨by decide +kernel, rfl⟩
set_option maxRecDepth 100000 in
theorem ii_mo_off_51 : sm_D prog_9_method_84_code 51 1 52 (.iconst 1) := ⟨by decide +kernel, rfl⟩
set_option maxRecDepth 100000 in
theorem ii_mo_off_52 : sm_D prog_9_method_84_code 52 1 53 (.istore_n 2) := ⟨by decide +kernel, rfl⟩
set_option maxRecDepth 100000 in
theorem ii_mo_off_53 : sm_D prog_9_method_84_code 53 2 55 (.bipush 40) := ⟨by decide +kernel, rfl⟩
set_option maxRecDepth 100000 in
theorem ii_mo_off_55 : sm_D prog_9_method_84_code 55 1 56 (.iload_n 1) := ⟨by decide +kernel, rfl⟩
set_option maxRecDepth 100000 in
theorem ii_mo_off_56 : sm_D prog_9_method_84_code 56 1 57 (.imul) := ⟨by decide +kernel, rfl⟩
set_option maxRecDepth 100000 in
theorem ii_mo_off_57 : sm_D prog_9_method_84_code 57 1 58 (.istore_n 3) := ⟨by decide +kernel, rfl⟩
set_option maxRecDepth 100000 in
theorem ii_mo_off_58 : sm_D prog_9_method_84_code 58 1 59 (.iload_n 3) := ⟨by decide +kernel, rfl⟩
set_option maxRecDepth 100000 in
theorem ii_mo_off_59 : sm_D prog_9_method_84_code 59 2 61 (.bipush 40) := ⟨by decide +kernel, rfl⟩
set_option maxRecDepth 100000 in
theorem ii_mo_off_61 : sm_D prog_9_method_84_code 61 1 62 (.iload_n 1) := ⟨by decide +kernel, rfl⟩
set_option maxRecDepth 100000 in
theorem ii_mo_off_62 : sm_D prog_9_method_84_code 62 1 63 (.imul) := ⟨by decide +kernel, rfl⟩
set_option maxRecDepth 100000 in
theorem ii_mo_off_63 : sm_D prog_9_method_84_code 63 1 64 (.aload_n 0) := ⟨by decide +kernel, rfl⟩
set_option maxRecDepth 100000 in
theorem ii_mo_off_64 : sm_D prog_9_method_84_code 64 3 67 (.getfield 22) := ⟨by decide +kernel, rfl⟩
set_option maxRecDepth 100000 in
theorem ii_mo_off_67 : sm_D prog_9_method_84_code 67 1 68 (.iload_n 1) := ⟨by decide +kernel, rfl⟩
set_option maxRecDepth 100000 in
theorem ii_mo_off_68 : sm_D prog_9_method_84_code 68 1 69 (.iaload) := ⟨by decide +kernel, rfl⟩
set_option maxRecDepth 100000 in
theorem ii_mo_off_69 : sm_D prog_9_method_84_code 69 1 70 (.iadd) := ⟨by decide +kernel, rfl⟩
set_option maxRecDepth 100000 in
theorem ii_mo_off_70 : sm_D prog_9_method_84_code 70 3 73 (.if_icmp .ge 31) := ⟨by decide +kernel, rfl⟩
set_option maxRecDepth 100000 in
theorem ii_mo_off_73 : sm_D prog_9_method_84_code 73 1 74 (.iload_n 2) := ⟨by decide +kernel, rfl⟩
set_option maxRecDepth 100000 in
theorem ii_mo_off_74 : sm_D prog_9_method_84_code 74 3 77 (.ifCond .eq 19) := ⟨by decide +kernel, rfl⟩
set_option maxRecDepth 100000 in
theorem ii_mo_off_77 : sm_D prog_9_method_84_code 77 1 78 (.aload_n 0) := ⟨by decide +kernel, rfl⟩
set_option maxRecDepth 100000 in
theorem ii_mo_off_78 : sm_D prog_9_method_84_code 78 3 81 (.getfield 25) := ⟨by decide +kernel, rfl⟩
set_option maxRecDepth 100000 in
theorem ii_mo_off_81 : sm_D prog_9_method_84_code 81 1 82 (.iload_n 3) := ⟨by decide +kernel, rfl⟩
set_option maxRecDepth 100000 in
theorem ii_mo_off_82 : sm_D prog_9_method_84_code 82 1 83 (.iaload) := ⟨by decide +kernel, rfl⟩
set_option maxRecDepth 100000 in
theorem ii_mo_off_83 : sm_D prog_9_method_84_code 83 3 86 (.invokestatic 184) := ⟨by decide +kernel, rfl⟩
set_option maxRecDepth 100000 in
theorem ii_mo_off_86 : sm_D prog_9_method_84_code 86 3 89 (.ifCond .eq 7) := ⟨by decide +kernel, rfl⟩
set_option maxRecDepth 100000 in
theorem ii_mo_off_89 : sm_D prog_9_method_84_code 89 1 90 (.iconst 1) := ⟨by decide +kernel, rfl⟩
set_option maxRecDepth 100000 in
theorem ii_mo_off_90 : sm_D prog_9_method_84_code 90 3 93 (.goto 4) := ⟨by decide +kernel, rfl⟩
set_option maxRecDepth 100000 in
theorem ii_mo_off_93 : sm_D prog_9_method_84_code 93 1 94 (.iconst 0) := ⟨by decide +kernel, rfl⟩
set_option maxRecDepth 100000 in
theorem ii_mo_off_94 : sm_D prog_9_method_84_code 94 1 95 (.istore_n 2) := ⟨by decide +kernel, rfl⟩
set_option maxRecDepth 100000 in
theorem ii_mo_off_95 : sm_D prog_9_method_84_code 95 3 98 (.iinc 3 1) := ⟨by decide +kernel, rfl⟩
set_option maxRecDepth 100000 in
theorem ii_mo_off_98 : sm_D prog_9_method_84_code 98 3 101 (.goto (-40)) := ⟨by decide +kernel, rfl⟩
set_option maxRecDepth 100000 in
theorem ii_mo_off_101 : sm_D prog_9_method_84_code 101 1 102 (.iload_n 2) := ⟨by decide +kernel, rfl⟩
set_option maxRecDepth 100000 in
theorem ii_mo_off_102 : sm_D prog_9_method_84_code 102 3 105 (.ifCond .ne 9) := ⟨by decide +kernel, rfl⟩
set_option maxRecDepth 100000 in
theorem ii_mo_off_105 : sm_D prog_9_method_84_code 105 1 106 (.aload_n 0) := ⟨by decide +kernel, rfl⟩
set_option maxRecDepth 100000 in
theorem ii_mo_off_106 : sm_D prog_9_method_84_code 106 1 107 (.iconst 3) := ⟨by decide +kernel, rfl⟩
set_option maxRecDepth 100000 in
theorem ii_mo_off_107 : sm_D prog_9_method_84_code 107 3 110 (.invokevirtual 81) := ⟨by decide +kernel, rfl⟩
set_option maxRecDepth 100000 in
theorem ii_mo_off_110 : sm_D prog_9_method_84_code 110 1 111 (.ireturn) := ⟨by decide +kernel, rfl⟩
set_option maxRecDepth 100000 in
theorem ii_mo_off_111 : sm_D prog_9_method_84_code 111 1 112 (.iconst 0) := ⟨by decide +kernel, rfl⟩
set_option maxRecDepth 100000 in
theorem ii_mo_off_112 : sm_D prog_9_method_84_code 112 1 113 (.istore_n 3) := ⟨by decide +kernel, rfl⟩
set_option maxRecDepth 100000 in
theorem ii_mo_off_113 : sm_D prog_9_method_84_code 113 1 114 (.iload_n 3) := ⟨by decide +kernel, rfl⟩
set_option maxRecDepth 100000 in
theorem ii_mo_off_114 : sm_D prog_9_method_84_code 114 1 115 (.aload_n 0) := ⟨by decide +kernel, rfl⟩
set_option maxRecDepth 100000 in
theorem ii_mo_off_115 : sm_D prog_9_method_84_code 115 3 118 (.getfield 7) := ⟨by decide +kernel, rfl⟩
set_option maxRecDepth 100000 in
theorem ii_mo_off_118 : sm_D prog_9_method_84_code 118 1 119 (.iconst 2) := ⟨by decide +kernel, rfl⟩
set_option maxRecDepth 100000 in
theorem ii_mo_off_119 : sm_D prog_9_method_84_code 119 1 120 (.iaload) := ⟨by decide +kernel, rfl⟩
set_option maxRecDepth 100000 in
theorem ii_mo_off_120 : sm_D prog_9_method_84_code 120 3 123 (.if_icmp .gt 177) := ⟨by decide +kernel, rfl⟩
set_option maxRecDepth 100000 in
theorem ii_mo_off_123 : sm_D prog_9_method_84_code 123 1 124 (.iconst 0) := ⟨by decide +kernel, rfl⟩
set_option maxRecDepth 100000 in
theorem ii_mo_off_124 : sm_D prog_9_method_84_code 124 2 126 (.istore 4) := ⟨by decide +kernel, rfl⟩
set_option maxRecDepth 100000 in
theorem ii_mo_off_126 : sm_D prog_9_method_84_code 126 2 128 (.iload 4) := ⟨by decide +kernel, rfl⟩
set_option maxRecDepth 100000 in
theorem ii_mo_off_128 : sm_D prog_9_method_84_code 128 1 129 (.aload_n 0) := ⟨by decide +kernel, rfl⟩
set_option maxRecDepth 100000 in
theorem ii_mo_off_129 : sm_D prog_9_method_84_code 129 3 132 (.getfield 22) := ⟨by decide +kernel, rfl⟩
set_option maxRecDepth 100000 in
theorem ii_mo_off_132 : sm_D prog_9_method_84_code 132 1 133 (.iload_n 1) := ⟨by decide +kernel, rfl⟩
set_option maxRecDepth 100000 in
theorem ii_mo_off_133 : sm_D prog_9_method_84_code 133 1 134 (.iaload) := ⟨by decide +kernel, rfl⟩
set_option maxRecDepth 100000 in
theorem ii_mo_off_134 : sm_D prog_9_method_84_code 134 3 137 (.if_icmp .gt 157) := ⟨by decide +kernel, rfl⟩
set_option maxRecDepth 100000 in
theorem ii_mo_off_137 : sm_D prog_9_method_84_code 137 1 138 (.iload_n 3) := ⟨by decide +kernel, rfl⟩
set_option maxRecDepth 100000 in
theorem ii_mo_off_138 : sm_D prog_9_method_84_code 138 2 140 (.iload 4) := ⟨by decide +kernel, rfl⟩
set_option maxRecDepth 100000 in
theorem ii_mo_off_140 : sm_D prog_9_method_84_code 140 1 141 (.iadd) := ⟨by decide +kernel, rfl⟩
set_option maxRecDepth 100000 in
theorem ii_mo_off_141 : sm_D prog_9_method_84_code 141 2 143 (.istore 5) := ⟨by decide +kernel, rfl⟩
set_option maxRecDepth 100000 in
theorem ii_mo_off_143 : sm_D prog_9_method_84_code 143 1 144 (.iload_n 3) := ⟨by decide +kernel, rfl⟩
set_option maxRecDepth 100000 in
theorem ii_mo_off_144 : sm_D prog_9_method_84_code 144 3 147 (.ifCond .le 127) := ⟨by decide +kernel, rfl⟩
set_option maxRecDepth 100000 in
theorem ii_mo_off_147 : sm_D prog_9_method_84_code 147 2 149 (.iload 4) := ⟨by decide +kernel, rfl⟩
set_option maxRecDepth 100000 in
theorem ii_mo_off_149 : sm_D prog_9_method_84_code 149 3 152 (.ifCond .le 122) := ⟨by decide +kernel, rfl⟩
set_option maxRecDepth 100000 in
theorem ii_mo_off_152 : sm_D prog_9_method_84_code 152 1 153 (.aload_n 0) := ⟨by decide +kernel, rfl⟩
set_option maxRecDepth 100000 in
theorem ii_mo_off_153 : sm_D prog_9_method_84_code 153 3 156 (.getfield 59) := ⟨by decide +kernel, rfl⟩
set_option maxRecDepth 100000 in
theorem ii_mo_off_156 : sm_D prog_9_method_84_code 156 2 158 (.bipush 9) := ⟨by decide +kernel, rfl⟩
set_option maxRecDepth 100000 in
theorem ii_mo_off_158 : sm_D prog_9_method_84_code 158 1 159 (.iload_n 3) := ⟨by decide +kernel, rfl⟩
set_option maxRecDepth 100000 in
theorem ii_mo_off_159 : sm_D prog_9_method_84_code 159 1 160 (.iconst 1) := ⟨by decide +kernel, rfl⟩
set_option maxRecDepth 100000 in
theorem ii_mo_off_160 : sm_D prog_9_method_84_code 160 1 161 (.isub) := ⟨by decide +kernel, rfl⟩
set_option maxRecDepth 100000 in
theorem ii_mo_off_161 : sm_D prog_9_method_84_code 161 1 162 (.imul) := ⟨by decide +kernel, rfl⟩
set_option maxRecDepth 100000 in
theorem ii_mo_off_162 : sm_D prog_9_method_84_code 162 2 164 (.iload 4) := ⟨by decide +kernel, rfl⟩
set_option maxRecDepth 100000 in
theorem ii_mo_off_164 : sm_D prog_9_method_84_code 164 1 165 (.iadd) := ⟨by decide +kernel, rfl⟩
set_option maxRecDepth 100000 in
theorem ii_mo_off_165 : sm_D prog_9_method_84_code 165 1 166 (.iaload) := ⟨by decide +kernel, rfl⟩
set_option maxRecDepth 100000 in
theorem ii_mo_off_166 : sm_D prog_9_method_84_code 166 1 167 (.iconst 1) := ⟨by decide +kernel, rfl⟩
set_option maxRecDepth 100000 in
theorem ii_mo_off_167 : sm_D prog_9_method_84_code 167 1 168 (.iadd) := ⟨by decide +kernel, rfl⟩
set_option maxRecDepth 100000 in
theorem ii_mo_off_168 : sm_D prog_9_method_84_code 168 2 170 (.istore 6) := ⟨by decide +kernel, rfl⟩
set_option maxRecDepth 100000 in
theorem ii_mo_off_170 : sm_D prog_9_method_84_code 170 1 171 (.aload_n 0) := ⟨by decide +kernel, rfl⟩
set_option maxRecDepth 100000 in
theorem ii_mo_off_171 : sm_D prog_9_method_84_code 171 3 174 (.getfield 59) := ⟨by decide +kernel, rfl⟩
set_option maxRecDepth 100000 in
theorem ii_mo_off_174 : sm_D prog_9_method_84_code 174 2 176 (.bipush 9) := ⟨by decide +kernel, rfl⟩
set_option maxRecDepth 100000 in
theorem ii_mo_off_176 : sm_D prog_9_method_84_code 176 1 177 (.iload_n 3) := ⟨by decide +kernel, rfl⟩
set_option maxRecDepth 100000 in
theorem ii_mo_off_177 : sm_D prog_9_method_84_code 177 1 178 (.imul) := ⟨by decide +kernel, rfl⟩
set_option maxRecDepth 100000 in
theorem ii_mo_off_178 : sm_D prog_9_method_84_code 178 2 180 (.iload 4) := ⟨by decide +kernel, rfl⟩
set_option maxRecDepth 100000 in
theorem ii_mo_off_180 : sm_D prog_9_method_84_code 180 1 181 (.iadd) := ⟨by decide +kernel, rfl⟩
set_option maxRecDepth 100000 in
theorem ii_mo_off_181 : sm_D prog_9_method_84_code 181 1 182 (.iconst 1) := ⟨by decide +kernel, rfl⟩
set_option maxRecDepth 100000 in
theorem ii_mo_off_182 : sm_D prog_9_method_84_code 182 1 183 (.isub) := ⟨by decide +kernel, rfl⟩
set_option maxRecDepth 100000 in
theorem ii_mo_off_183 : sm_D prog_9_method_84_code 183 1 184 (.iaload) := ⟨by decide +kernel, rfl⟩
set_option maxRecDepth 100000 in
theorem ii_mo_off_184 : sm_D prog_9_method_84_code 184 1 185 (.iconst 1) := ⟨by decide +kernel, rfl⟩
set_option maxRecDepth 100000 in
theorem ii_mo_off_185 : sm_D prog_9_method_84_code 185 1 186 (.iadd) := ⟨by decide +kernel, rfl⟩
set_option maxRecDepth 100000 in
theorem ii_mo_off_186 : sm_D prog_9_method_84_code 186 2 188 (.istore 7) := ⟨by decide +kernel, rfl⟩
set_option maxRecDepth 100000 in
theorem ii_mo_off_188 : sm_D prog_9_method_84_code 188 1 189 (.aload_n 0) := ⟨by decide +kernel, rfl⟩
set_option maxRecDepth 100000 in
theorem ii_mo_off_189 : sm_D prog_9_method_84_code 189 3 192 (.getfield 59) := ⟨by decide +kernel, rfl⟩
set_option maxRecDepth 100000 in
theorem ii_mo_off_192 : sm_D prog_9_method_84_code 192 2 194 (.bipush 9) := ⟨by decide +kernel, rfl⟩
set_option maxRecDepth 100000 in
theorem ii_mo_off_194 : sm_D prog_9_method_84_code 194 1 195 (.iload_n 3) := ⟨by decide +kernel, rfl⟩
set_option maxRecDepth 100000 in
theorem ii_mo_off_195 : sm_D prog_9_method_84_code 195 1 196 (.iconst 1) := ⟨by decide +kernel, rfl⟩
set_option maxRecDepth 100000 in
theorem ii_mo_off_196 : sm_D prog_9_method_84_code 196 1 197 (.isub) := ⟨by decide +kernel, rfl⟩
set_option maxRecDepth 100000 in
theorem ii_mo_off_197 : sm_D prog_9_method_84_code 197 1 198 (.imul) := ⟨by decide +kernel, rfl⟩
set_option maxRecDepth 100000 in
theorem ii_mo_off_198 : sm_D prog_9_method_84_code 198 2 200 (.iload 4) := ⟨by decide +kernel, rfl⟩
set_option maxRecDepth 100000 in
theorem ii_mo_off_200 : sm_D prog_9_method_84_code 200 1 201 (.iadd) := ⟨by decide +kernel, rfl⟩
set_option maxRecDepth 100000 in
theorem ii_mo_off_201 : sm_D prog_9_method_84_code 201 1 202 (.iconst 1) := ⟨by decide +kernel, rfl⟩
set_option maxRecDepth 100000 in
theorem ii_mo_off_202 : sm_D prog_9_method_84_code 202 1 203 (.isub) := ⟨by decide +kernel, rfl⟩
set_option maxRecDepth 100000 in
theorem ii_mo_off_203 : sm_D prog_9_method_84_code 203 1 204 (.iaload) := ⟨by decide +kernel, rfl⟩
set_option maxRecDepth 100000 in
theorem ii_mo_off_204 : sm_D prog_9_method_84_code 204 1 205 (.aload_n 0) := ⟨by decide +kernel, rfl⟩
set_option maxRecDepth 100000 in
theorem ii_mo_off_205 : sm_D prog_9_method_84_code 205 3 208 (.getfield 7) := ⟨by decide +kernel, rfl⟩
set_option maxRecDepth 100000 in
theorem ii_mo_off_208 : sm_D prog_9_method_84_code 208 1 209 (.iconst 4) := ⟨by decide +kernel, rfl⟩
set_option maxRecDepth 100000 in
theorem ii_mo_off_209 : sm_D prog_9_method_84_code 209 1 210 (.iload_n 3) := ⟨by decide +kernel, rfl⟩
set_option maxRecDepth 100000 in
theorem ii_mo_off_210 : sm_D prog_9_method_84_code 210 1 211 (.iadd) := ⟨by decide +kernel, rfl⟩
set_option maxRecDepth 100000 in
theorem ii_mo_off_211 : sm_D prog_9_method_84_code 211 1 212 (.iconst 1) := ⟨by decide +kernel, rfl⟩
set_option maxRecDepth 100000 in
theorem ii_mo_off_212 : sm_D prog_9_method_84_code 212 1 213 (.isub) := ⟨by decide +kernel, rfl⟩
set_option maxRecDepth 100000 in
theorem ii_mo_off_213 : sm_D prog_9_method_84_code 213 1 214 (.iaload) := ⟨by decide +kernel, rfl⟩
set_option maxRecDepth 100000 in
theorem ii_mo_off_214 : sm_D prog_9_method_84_code 214 1 215 (.aload_n 0) := ⟨by decide +kernel, rfl⟩
set_option maxRecDepth 100000 in
theorem ii_mo_off_215 : sm_D prog_9_method_84_code 215 3 218 (.getfield 25) := ⟨by decide +kernel, rfl⟩
set_option maxRecDepth 100000 in
theorem ii_mo_off_218 : sm_D prog_9_method_84_code 218 2 220 (.bipush 40) := ⟨by decide +kernel, rfl⟩
set_option maxRecDepth 100000 in
theorem ii_mo_off_220 : sm_D prog_9_method_84_code 220 1 221 (.iload_n 1) := ⟨by decide +kernel, rfl⟩
set_option maxRecDepth 100000 in
theorem ii_mo_off_221 : sm_D prog_9_method_84_code 221 1 222 (.imul) := ⟨by decide +kernel, rfl⟩
set_option maxRecDepth 100000 in
theorem ii_mo_off_222 : sm_D prog_9_method_84_code 222 2 224 (.iload 4) := ⟨by decide +kernel, rfl⟩
set_option maxRecDepth 100000 in
theorem ii_mo_off_224 : sm_D prog_9_method_84_code 224 1 225 (.iadd) := ⟨by decide +kernel, rfl⟩
set_option maxRecDepth 100000 in
theorem ii_mo_off_225 : sm_D prog_9_method_84_code 225 1 226 (.iconst 1) := ⟨by decide +kernel, rfl⟩
set_option maxRecDepth 100000 in
theorem ii_mo_off_226 : sm_D prog_9_method_84_code 226 1 227 (.isub) := ⟨by decide +kernel, rfl⟩
set_option maxRecDepth 100000 in
theorem ii_mo_off_227 : sm_D prog_9_method_84_code 227 1 228 (.iaload) := ⟨by decide +kernel, rfl⟩
set_option maxRecDepth 100000 in
theorem ii_mo_off_228 : sm_D prog_9_method_84_code 228 3 231 (.if_icmp .ne 7) := ⟨by decide +kernel, rfl⟩
set_option maxRecDepth 100000 in
theorem ii_mo_off_231 : sm_D prog_9_method_84_code 231 1 232 (.iconst 0) := ⟨by decide +kernel, rfl⟩
set_option maxRecDepth 100000 in
theorem ii_mo_off_232 : sm_D prog_9_method_84_code 232 3 235 (.goto 4) := ⟨by decide +kernel, rfl⟩
set_option maxRecDepth 100000 in
theorem ii_mo_off_235 : sm_D prog_9_method_84_code 235 1 236 (.iconst 1) := ⟨by decide +kernel, rfl⟩
set_option maxRecDepth 100000 in
theorem ii_mo_off_236 : sm_D prog_9_method_84_code 236 1 237 (.iadd) := ⟨by decide +kernel, rfl⟩
set_option maxRecDepth 100000 in
theorem ii_mo_off_237 : sm_D prog_9_method_84_code 237 2 239 (.istore 8) := ⟨by decide +kernel, rfl⟩
set_option maxRecDepth 100000 in
theorem ii_mo_off_239 : sm_D prog_9_method_84_code 239 2 241 (.iload 6) := ⟨by decide +kernel, rfl⟩
set_option maxRecDepth 100000 in
theorem ii_mo_off_241 : sm_D prog_9_method_84_code 241 2 243 (.iload 7) := ⟨by decide +kernel, rfl⟩
set_option maxRecDepth 100000 in
theorem ii_mo_off_243 : sm_D prog_9_method_84_code 243 3 246 (.if_icmp .ge 8) := ⟨by decide +kernel, rfl⟩
set_option maxRecDepth 100000 in
theorem ii_mo_off_246 : sm_D prog_9_method_84_code 246 2 248 (.iload 6) := ⟨by decide +kernel, rfl⟩
set_option maxRecDepth 100000 in
theorem ii_mo_off_248 : sm_D prog_9_method_84_code 248 3 251 (.goto 5) := ⟨by decide +kernel, rfl⟩
set_option maxRecDepth 100000 in
theorem ii_mo_off_251 : sm_D prog_9_method_84_code 251 2 253 (.iload 7) := ⟨by decide +kernel, rfl⟩
set_option maxRecDepth 100000 in
theorem ii_mo_off_253 : sm_D prog_9_method_84_code 253 2 255 (.istore 5) := ⟨by decide +kernel, rfl⟩
set_option maxRecDepth 100000 in
theorem ii_mo_off_255 : sm_D prog_9_method_84_code 255 2 257 (.iload 8) := ⟨by decide +kernel, rfl⟩
set_option maxRecDepth 100000 in
theorem ii_mo_off_257 : sm_D prog_9_method_84_code 257 2 259 (.iload 5) := ⟨by decide +kernel, rfl⟩
set_option maxRecDepth 100000 in
theorem ii_mo_off_259 : sm_D prog_9_method_84_code 259 3 262 (.if_icmp .ge 8) := ⟨by decide +kernel, rfl⟩
set_option maxRecDepth 100000 in
theorem ii_mo_off_262 : sm_D prog_9_method_84_code 262 2 264 (.iload 8) := ⟨by decide +kernel, rfl⟩
set_option maxRecDepth 100000 in
theorem ii_mo_off_264 : sm_D prog_9_method_84_code 264 3 267 (.goto 5) := ⟨by decide +kernel, rfl⟩
set_option maxRecDepth 100000 in
theorem ii_mo_off_267 : sm_D prog_9_method_84_code 267 2 269 (.iload 5) := ⟨by decide +kernel, rfl⟩
set_option maxRecDepth 100000 in
theorem ii_mo_off_269 : sm_D prog_9_method_84_code 269 2 271 (.istore 5) := ⟨by decide +kernel, rfl⟩
set_option maxRecDepth 100000 in
theorem ii_mo_off_271 : sm_D prog_9_method_84_code 271 1 272 (.aload_n 0) := ⟨by decide +kernel, rfl⟩
set_option maxRecDepth 100000 in
theorem ii_mo_off_272 : sm_D prog_9_method_84_code 272 3 275 (.getfield 59) := ⟨by decide +kernel, rfl⟩
set_option maxRecDepth 100000 in
theorem ii_mo_off_275 : sm_D prog_9_method_84_code 275 2 277 (.bipush 9) := ⟨by decide +kernel, rfl⟩
set_option maxRecDepth 100000 in
theorem ii_mo_off_277 : sm_D prog_9_method_84_code 277 1 278 (.iload_n 3) := ⟨by decide +kernel, rfl⟩
set_option maxRecDepth 100000 in
theorem ii_mo_off_278 : sm_D prog_9_method_84_code 278 1 279 (.imul) := ⟨by decide +kernel, rfl⟩
set_option maxRecDepth 100000 in
theorem ii_mo_off_279 : sm_D prog_9_method_84_code 279 2 281 (.iload 4) := ⟨by decide +kernel, rfl⟩
set_option maxRecDepth 100000 in
theorem ii_mo_off_281 : sm_D prog_9_method_84_code 281 1 282 (.iadd) := ⟨by decide +kernel, rfl⟩
set_option maxRecDepth 100000 in
theorem ii_mo_off_282 : sm_D prog_9_method_84_code 282 2 284 (.iload 5) := ⟨by decide +kernel, rfl⟩
set_option maxRecDepth 100000 in
theorem ii_mo_off_284 : sm_D prog_9_method_84_code 284 1 285 (.iastore) := ⟨by decide +kernel, rfl⟩
set_option maxRecDepth 100000 in
theorem ii_mo_off_285 : sm_D prog_9_method_84_code 285 3 288 (.iinc 4 1) := ⟨by decide +kernel, rfl⟩
set_option maxRecDepth 100000 in
theorem ii_mo_off_288 : sm_D prog_9_method_84_code 288 3 291 (.goto (-162)) := ⟨by decide +kernel, rfl⟩
set_option maxRecDepth 100000 in
theorem ii_mo_off_291 : sm_D prog_9_method_84_code 291 3 294 (.iinc 3 1) := ⟨by decide +kernel, rfl⟩
set_option maxRecDepth 100000 in
theorem ii_mo_off_294 : sm_D prog_9_method_84_code 294 3 297 (.goto (-181)) := ⟨by decide +kernel, rfl⟩
set_option maxRecDepth 100000 in
theorem ii_mo_off_297 : sm_D prog_9_method_84_code 297 1 298 (.aload_n 0) := ⟨by decide +kernel, rfl⟩
set_option maxRecDepth 100000 in
theorem ii_mo_off_298 : sm_D prog_9_method_84_code 298 3 301 (.getfield 59) := ⟨by decide +kernel, rfl⟩
set_option maxRecDepth 100000 in
theorem ii_mo_off_301 : sm_D prog_9_method_84_code 301 2 303 (.bipush 9) := ⟨by decide +kernel, rfl⟩
set_option maxRecDepth 100000 in
theorem ii_mo_off_303 : sm_D prog_9_method_84_code 303 1 304 (.aload_n 0) := ⟨by decide +kernel, rfl⟩
set_option maxRecDepth 100000 in
theorem ii_mo_off_304 : sm_D prog_9_method_84_code 304 3 307 (.getfield 7) := ⟨by decide +kernel, rfl⟩
set_option maxRecDepth 100000 in
theorem ii_mo_off_307 : sm_D prog_9_method_84_code 307 1 308 (.iconst 2) := ⟨by decide +kernel, rfl⟩
set_option maxRecDepth 100000 in
theorem ii_mo_off_308 : sm_D prog_9_method_84_code 308 1 309 (.iaload) := ⟨by decide +kernel, rfl⟩
set_option maxRecDepth 100000 in
theorem ii_mo_off_309 : sm_D prog_9_method_84_code 309 1 310 (.imul) := ⟨by decide +kernel, rfl⟩
set_option maxRecDepth 100000 in
theorem ii_mo_off_310 : sm_D prog_9_method_84_code 310 1 311 (.aload_n 0) := ⟨by decide +kernel, rfl⟩
set_option maxRecDepth 100000 in
theorem ii_mo_off_311 : sm_D prog_9_method_84_code 311 3 314 (.getfield 22) := ⟨by decide +kernel, rfl⟩
set_option maxRecDepth 100000 in
theorem ii_mo_off_314 : sm_D prog_9_method_84_code 314 1 315 (.iload_n 1) := ⟨by decide +kernel, rfl⟩
set_option maxRecDepth 100000 in
theorem ii_mo_off_315 : sm_D prog_9_method_84_code 315 1 316 (.iaload) := ⟨by decide +kernel, rfl⟩
set_option maxRecDepth 100000 in
theorem ii_mo_off_316 : sm_D prog_9_method_84_code 316 1 317 (.iadd) := ⟨by decide +kernel, rfl⟩
set_option maxRecDepth 100000 in
theorem ii_mo_off_317 : sm_D prog_9_method_84_code 317 1 318 (.iaload) := ⟨by decide +kernel, rfl⟩
set_option maxRecDepth 100000 in
theorem ii_mo_off_318 : sm_D prog_9_method_84_code 318 1 319 (.ireturn) := ⟨by decide +kernel, rfl⟩
noncomputable def ff_mo_off_271 (self113 : Int32 → Int32 → sm_Mem → sm_R) (self126 : Int32 → Int32 → Int32 → sm_Mem → sm_R) (a1 : Int32) (a3 : Int32) (a4 : Int32) (a5 : Int32) (w : sm_Mem) : sm_R := (Option.bind (sm_wr w 78 81 (((9 : Int32) * a3) + a4) a5) fun w1 => self126 (a1) (a3) ((a4 + (1 : Int32))) w1)
set_option maxHeartbeats 4000000 in
set_option maxRecDepth 100000 in
theorem ss_mo_off_271 {E : Nat × (Nat → Int32)} (self113 : Int32 → Int32 → sm_Mem → sm_R) (hself113 : ∀ (a1 : Int32) (a3 : Int32) (w : sm_Mem), sm_Sim E (mi_mo_off) 113 [some (.ref 62), some (.int a1), none, some (.int a3), none, none, none, none, none] [] w (self113 a1 a3 w)) (self126 : Int32 → Int32 → Int32 → sm_Mem → sm_R) (hself126 : ∀ (a1 : Int32) (a3 : Int32) (a4 : Int32) (w : sm_Mem), sm_Sim E (mi_mo_off) 126 [some (.ref 62), some (.int a1), none, some (.int a3), some (.int a4), none, none, none, none] [] w (self126 a1 a3 a4 w)) (a1 : Int32) (a3 : Int32) (a4 : Int32) (a5 : Int32) (w : sm_Mem) : sm_Sim E (mi_mo_off) 271 [some (.ref 62), some (.int a1), none, some (.int a3), some (.int a4), some (.int a5), none, none, none] [] w (ff_mo_off_271 self113 self126 a1 a3 a4 a5 w) := by
  unfold ff_mo_off_271
  refine sm_aload_n ii_mo_off_271 rfl ?_
  refine sm_getR 78 ii_mo_off_272 fl_mo_59 (k := 62) rfl ?_
  refine sm_bipush (9 : Int32) ii_mo_off_275 (by decide) ?_
  refine sm_iload_n ii_mo_off_277 rfl ?_
  refine sm_imul ii_mo_off_278 ?_
  refine sm_iload ii_mo_off_279 rfl ?_
  refine sm_iadd ii_mo_off_281 ?_
  refine sm_iload ii_mo_off_282 rfl ?_
  refine sm_iast ii_mo_off_284 (k := 78) rfl (fun w1 => ?_)
  refine sm_iinc (a4 + (1 : Int32)) [some (.ref 62), some (.int a1), none, some (.int a3), some (.int (a4 + (1 : Int32))), some (.int a5), none, none, none] ii_mo_off_285 rfl rfl rfl rfl ?_
  refine sm_goto 126 ii_mo_off_288 (by decide) ?_
  refine sm_msk [true, true, false, true, true, false, false, false, false] [some (.ref 62), some (.int a1), none, some (.int a3), some (.int (a4 + (1 : Int32))), none, none, none, none] rfl ?_
  exact hself126 (a1) (a3) ((a4 + (1 : Int32))) w1
noncomputable def ff_mo_off_269 (self113 : Int32 → Int32 → sm_Mem → sm_R) (self126 : Int32 → Int32 → Int32 → sm_Mem → sm_R) (a1 : Int32) (a3 : Int32) (a4 : Int32) (b0 : Int32) (w : sm_Mem) : sm_R := ff_mo_off_271 self113 self126 (a1) (a3) (a4) (b0) w
set_option maxHeartbeats 4000000 in
set_option maxRecDepth 100000 in
theorem ss_mo_off_269 {E : Nat × (Nat → Int32)} (self113 : Int32 → Int32 → sm_Mem → sm_R) (hself113 : ∀ (a1 : Int32) (a3 : Int32) (w : sm_Mem), sm_Sim E (mi_mo_off) 113 [some (.ref 62), some (.int a1), none, some (.int a3), none, none, none, none, none] [] w (self113 a1 a3 w)) (self126 : Int32 → Int32 → Int32 → sm_Mem → sm_R) (hself126 : ∀ (a1 : Int32) (a3 : Int32) (a4 : Int32) (w : sm_Mem), sm_Sim E (mi_mo_off) 126 [some (.ref 62), some (.int a1), none, some (.int a3), some (.int a4), none, none, none, none] [] w (self126 a1 a3 a4 w)) (a1 : Int32) (a3 : Int32) (a4 : Int32) (b0 : Int32) (w : sm_Mem) : sm_Sim E (mi_mo_off) 269 [some (.ref 62), some (.int a1), none, some (.int a3), some (.int a4), none, none, none, none] [.int b0] w (ff_mo_off_269 self113 self126 a1 a3 a4 b0 w) := by
  unfold ff_mo_off_269
  refine sm_istore [some (.ref 62), some (.int a1), none, some (.int a3), some (.int a4), some (.int b0), none, none, none] ii_mo_off_269 rfl rfl ?_
  exact ss_mo_off_271 self113 hself113 self126 hself126 (a1) (a3) (a4) (b0) w
noncomputable def ff_mo_off_253 (self113 : Int32 → Int32 → sm_Mem → sm_R) (self126 : Int32 → Int32 → Int32 → sm_Mem → sm_R) (a1 : Int32) (a3 : Int32) (a4 : Int32) (a8 : Int32) (b0 : Int32) (w : sm_Mem) : sm_R := (if b0 ≤ a8 then ff_mo_off_269 self113 self126 (a1) (a3) (a4) (b0) w else ff_mo_off_269 self113 self126 (a1) (a3) (a4) (a8) w)
set_option maxHeartbeats 4000000 in
set_option maxRecDepth 100000 in
theorem ss_mo_off_253 {E : Nat × (Nat → Int32)} (self113 : Int32 → Int32 → sm_Mem → sm_R) (hself113 : ∀ (a1 : Int32) (a3 : Int32) (w : sm_Mem), sm_Sim E (mi_mo_off) 113 [some (.ref 62), some (.int a1), none, some (.int a3), none, none, none, none, none] [] w (self113 a1 a3 w)) (self126 : Int32 → Int32 → Int32 → sm_Mem → sm_R) (hself126 : ∀ (a1 : Int32) (a3 : Int32) (a4 : Int32) (w : sm_Mem), sm_Sim E (mi_mo_off) 126 [some (.ref 62), some (.int a1), none, some (.int a3), some (.int a4), none, none, none, none] [] w (self126 a1 a3 a4 w)) (a1 : Int32) (a3 : Int32) (a4 : Int32) (a8 : Int32) (b0 : Int32) (w : sm_Mem) : sm_Sim E (mi_mo_off) 253 [some (.ref 62), some (.int a1), none, some (.int a3), some (.int a4), none, none, none, some (.int a8)] [.int b0] w (ff_mo_off_253 self113 self126 a1 a3 a4 a8 b0 w) := by
  unfold ff_mo_off_253
  refine sm_istore [some (.ref 62), some (.int a1), none, some (.int a3), some (.int a4), some (.int b0), none, none, some (.int a8)] ii_mo_off_253 rfl rfl ?_
  refine sm_iload ii_mo_off_255 rfl ?_
  refine sm_iload ii_mo_off_257 rfl ?_
  refine sm_icmp_ge 267 ii_mo_off_259 (by decide) ?_ ?_
  · refine sm_iload ii_mo_off_267 rfl ?_
    refine sm_msk [true, true, false, true, true, false, false, false, false] [some (.ref 62), some (.int a1), none, some (.int a3), some (.int a4), none, none, none, none] rfl ?_
    exact ss_mo_off_269 self113 hself113 self126 hself126 (a1) (a3) (a4) (b0) w
  · refine sm_iload ii_mo_off_262 rfl ?_
    refine sm_goto 269 ii_mo_off_264 (by decide) ?_
    refine sm_msk [true, true, false, true, true, false, false, false, false] [some (.ref 62), some (.int a1), none, some (.int a3), some (.int a4), none, none, none, none] rfl ?_
    exact ss_mo_off_269 self113 hself113 self126 hself126 (a1) (a3) (a4) (a8) w
noncomputable def ff_mo_off_236 (self113 : Int32 → Int32 → sm_Mem → sm_R) (self126 : Int32 → Int32 → Int32 → sm_Mem → sm_R) (a1 : Int32) (a3 : Int32) (a4 : Int32) (a6 : Int32) (a7 : Int32) (b0 : Int32) (b1 : Int32) (w : sm_Mem) : sm_R := (if a7 ≤ a6 then ff_mo_off_253 self113 self126 (a1) (a3) (a4) ((b0 + b1)) (a7) w else ff_mo_off_253 self113 self126 (a1) (a3) (a4) ((b0 + b1)) (a6) w)
set_option maxHeartbeats 4000000 in
set_option maxRecDepth 100000 in
theorem ss_mo_off_236 {E : Nat × (Nat → Int32)} (self113 : Int32 → Int32 → sm_Mem → sm_R) (hself113 : ∀ (a1 : Int32) (a3 : Int32) (w : sm_Mem), sm_Sim E (mi_mo_off) 113 [some (.ref 62), some (.int a1), none, some (.int a3), none, none, none, none, none] [] w (self113 a1 a3 w)) (self126 : Int32 → Int32 → Int32 → sm_Mem → sm_R) (hself126 : ∀ (a1 : Int32) (a3 : Int32) (a4 : Int32) (w : sm_Mem), sm_Sim E (mi_mo_off) 126 [some (.ref 62), some (.int a1), none, some (.int a3), some (.int a4), none, none, none, none] [] w (self126 a1 a3 a4 w)) (a1 : Int32) (a3 : Int32) (a4 : Int32) (a6 : Int32) (a7 : Int32) (b0 : Int32) (b1 : Int32) (w : sm_Mem) : sm_Sim E (mi_mo_off) 236 [some (.ref 62), some (.int a1), none, some (.int a3), some (.int a4), none, some (.int a6), some (.int a7), none] [.int b1, .int b0] w (ff_mo_off_236 self113 self126 a1 a3 a4 a6 a7 b0 b1 w) := by
  unfold ff_mo_off_236
  refine sm_iadd ii_mo_off_236 ?_
  refine sm_istore [some (.ref 62), some (.int a1), none, some (.int a3), some (.int a4), none, some (.int a6), some (.int a7), some (.int (b0 + b1))] ii_mo_off_237 rfl rfl ?_
  refine sm_iload ii_mo_off_239 rfl ?_
  refine sm_iload ii_mo_off_241 rfl ?_
  refine sm_icmp_ge 251 ii_mo_off_243 (by decide) ?_ ?_
  · refine sm_iload ii_mo_off_251 rfl ?_
    refine sm_msk [true, true, false, true, true, false, false, false, true] [some (.ref 62), some (.int a1), none, some (.int a3), some (.int a4), none, none, none, some (.int (b0 + b1))] rfl ?_
    exact ss_mo_off_253 self113 hself113 self126 hself126 (a1) (a3) (a4) ((b0 + b1)) (a7) w
  · refine sm_iload ii_mo_off_246 rfl ?_
    refine sm_goto 253 ii_mo_off_248 (by decide) ?_
    refine sm_msk [true, true, false, true, true, false, false, false, true] [some (.ref 62), some (.int a1), none, some (.int a3), some (.int a4), none, none, none, some (.int (b0 + b1))] rfl ?_
    exact ss_mo_off_253 self113 hself113 self126 hself126 (a1) (a3) (a4) ((b0 + b1)) (a6) w
noncomputable def ff_mo_off_126_b (self113 : Int32 → Int32 → sm_Mem → sm_R) (self126 : Int32 → Int32 → Int32 → sm_Mem → sm_R) (a1 : Int32) (a3 : Int32) (a4 : Int32) (w : sm_Mem) : sm_R := (Option.bind (sm_rd w 67 6 a1) fun x2 => (if x2 < a4 then self113 (a1) ((a3 + (1 : Int32))) w else (if a3 ≤ (0 : Int32) then ff_mo_off_271 self113 self126 (a1) (a3) (a4) ((a3 + a4)) w else (if a4 ≤ (0 : Int32) then ff_mo_off_271 self113 self126 (a1) (a3) (a4) ((a3 + a4)) w else (Option.bind (sm_rd w 78 81 (((9 : Int32) * (a3 - (1 : Int32))) + a4)) fun x3 => (Option.bind (sm_rd w 78 81 ((((9 : Int32) * a3) + a4) - (1 : Int32))) fun x4 => (Option.bind (sm_rd w 78 81 ((((9 : Int32) * (a3 - (1 : Int32))) + a4) - (1 : Int32))) fun x5 => (Option.bind (sm_rd w 63 5184 (((4 : Int32) + a3) - (1 : Int32))) fun x6 => (Option.bind (sm_rd w 68 240 ((((40 : Int32) * a1) + a4) - (1 : Int32))) fun x7 => (if x6 = x7 then ff_mo_off_236 self113 self126 (a1) (a3) (a4) ((x3 + (1 : Int32))) ((x4 + (1 : Int32))) (x5) ((0 : Int32)) w else ff_mo_off_236 self113 self126 (a1) (a3) (a4) ((x3 + (1 : Int32))) ((x4 + (1 : Int32))) (x5) ((1 : Int32)) w))))))))))
noncomputable def ff_mo_off_126_f (self113 : Int32 → Int32 → sm_Mem → sm_R) : Nat → Int32 → Int32 → Int32 → sm_Mem → sm_R
  | 0, _, _, _, _ => none
  | n + 1, a1, a3, a4, w => ff_mo_off_126_b self113 (ff_mo_off_126_f self113 n) a1 a3 a4 w
noncomputable def ff_mo_off_126 (self113 : Int32 → Int32 → sm_Mem → sm_R) (a1 : Int32) (a3 : Int32) (a4 : Int32) (w : sm_Mem) : sm_R := ff_mo_off_126_f self113 sm_N a1 a3 a4 w
set_option maxHeartbeats 4000000 in
set_option maxRecDepth 100000 in
theorem ss_mo_off_126_b {E : Nat × (Nat → Int32)} (self113 : Int32 → Int32 → sm_Mem → sm_R) (hself113 : ∀ (a1 : Int32) (a3 : Int32) (w : sm_Mem), sm_Sim E (mi_mo_off) 113 [some (.ref 62), some (.int a1), none, some (.int a3), none, none, none, none, none] [] w (self113 a1 a3 w)) (self126 : Int32 → Int32 → Int32 → sm_Mem → sm_R) (hself126 : ∀ (a1 : Int32) (a3 : Int32) (a4 : Int32) (w : sm_Mem), sm_Sim E (mi_mo_off) 126 [some (.ref 62), some (.int a1), none, some (.int a3), some (.int a4), none, none, none, none] [] w (self126 a1 a3 a4 w)) (a1 : Int32) (a3 : Int32) (a4 : Int32) (w : sm_Mem) : sm_Sim E (mi_mo_off) 126 [some (.ref 62), some (.int a1), none, some (.int a3), some (.int a4), none, none, none, none] [] w (ff_mo_off_126_b self113 self126 a1 a3 a4 w) := by
  unfold ff_mo_off_126_b
  refine sm_iload ii_mo_off_126 rfl ?_
  refine sm_aload_n ii_mo_off_128 rfl ?_
  refine sm_getR 67 ii_mo_off_129 fl_mo_22 (k := 62) rfl ?_
  refine sm_iload_n ii_mo_off_132 rfl ?_
  refine sm_iald ii_mo_off_133 (k := 67) rfl (fun x2 => ?_)
  refine sm_icmp_gt 291 ii_mo_off_134 (by decide) ?_ ?_
  · refine sm_iinc (a3 + (1 : Int32)) [some (.ref 62), some (.int a1), none, some (.int (a3 + (1 : Int32))), some (.int a4), none, none, none, none] ii_mo_off_291 rfl rfl rfl rfl ?_
    refine sm_goto 113 ii_mo_off_294 (by decide) ?_
    refine sm_msk [true, true, false, true, false, false, false, false, false] [some (.ref 62), some (.int a1), none, some (.int (a3 + (1 : Int32))), none, none, none, none, none] rfl ?_
    exact hself113 (a1) ((a3 + (1 : Int32))) w
  · refine sm_iload_n ii_mo_off_137 rfl ?_
    refine sm_iload ii_mo_off_138 rfl ?_
    refine sm_iadd ii_mo_off_140 ?_
    refine sm_istore [some (.ref 62), some (.int a1), none, some (.int a3), some (.int a4), some (.int (a3 + a4)), none, none, none] ii_mo_off_141 rfl rfl ?_
    refine sm_iload_n ii_mo_off_143 rfl ?_
    refine sm_if_le 271 ii_mo_off_144 (by decide) ?_ ?_
    · exact ss_mo_off_271 self113 hself113 self126 hself126 (a1) (a3) (a4) ((a3 + a4)) w
    · refine sm_iload ii_mo_off_147 rfl ?_
      refine sm_if_le 271 ii_mo_off_149 (by decide) ?_ ?_
      · exact ss_mo_off_271 self113 hself113 self126 hself126 (a1) (a3) (a4) ((a3 + a4)) w
      · refine sm_aload_n ii_mo_off_152 rfl ?_
        refine sm_getR 78 ii_mo_off_153 fl_mo_59 (k := 62) rfl ?_
        refine sm_bipush (9 : Int32) ii_mo_off_156 (by decide) ?_
        refine sm_iload_n ii_mo_off_158 rfl ?_
        refine sm_iconst (1 : Int32) ii_mo_off_159 (by decide) ?_
        refine sm_isub ii_mo_off_160 ?_
        refine sm_imul ii_mo_off_161 ?_
        refine sm_iload ii_mo_off_162 rfl ?_
        refine sm_iadd ii_mo_off_164 ?_
        refine sm_iald ii_mo_off_165 (k := 78) rfl (fun x3 => ?_)
        refine sm_iconst (1 : Int32) ii_mo_off_166 (by decide) ?_
        refine sm_iadd ii_mo_off_167 ?_
        refine sm_istore [some (.ref 62), some (.int a1), none, some (.int a3), some (.int a4), some (.int (a3 + a4)), some (.int (x3 + (1 : Int32))), none, none] ii_mo_off_168 rfl rfl ?_
        refine sm_aload_n ii_mo_off_170 rfl ?_
        refine sm_getR 78 ii_mo_off_171 fl_mo_59 (k := 62) rfl ?_
        refine sm_bipush (9 : Int32) ii_mo_off_174 (by decide) ?_
        refine sm_iload_n ii_mo_off_176 rfl ?_
        refine sm_imul ii_mo_off_177 ?_
        refine sm_iload ii_mo_off_178 rfl ?_
        refine sm_iadd ii_mo_off_180 ?_
        refine sm_iconst (1 : Int32) ii_mo_off_181 (by decide) ?_
        refine sm_isub ii_mo_off_182 ?_
        refine sm_iald ii_mo_off_183 (k := 78) rfl (fun x4 => ?_)
        refine sm_iconst (1 : Int32) ii_mo_off_184 (by decide) ?_
        refine sm_iadd ii_mo_off_185 ?_
        refine sm_istore [some (.ref 62), some (.int a1), none, some (.int a3), some (.int a4), some (.int (a3 + a4)), some (.int (x3 + (1 : Int32))), some (.int (x4 + (1 : Int32))), none] ii_mo_off_186 rfl rfl ?_
        refine sm_aload_n ii_mo_off_188 rfl ?_
        refine sm_getR 78 ii_mo_off_189 fl_mo_59 (k := 62) rfl ?_
        refine sm_bipush (9 : Int32) ii_mo_off_192 (by decide) ?_
        refine sm_iload_n ii_mo_off_194 rfl ?_
        refine sm_iconst (1 : Int32) ii_mo_off_195 (by decide) ?_
        refine sm_isub ii_mo_off_196 ?_
        refine sm_imul ii_mo_off_197 ?_
        refine sm_iload ii_mo_off_198 rfl ?_
        refine sm_iadd ii_mo_off_200 ?_
        refine sm_iconst (1 : Int32) ii_mo_off_201 (by decide) ?_
        refine sm_isub ii_mo_off_202 ?_
        refine sm_iald ii_mo_off_203 (k := 78) rfl (fun x5 => ?_)
        refine sm_aload_n ii_mo_off_204 rfl ?_
        refine sm_getR 63 ii_mo_off_205 fl_mo_7 (k := 62) rfl ?_
        refine sm_iconst (4 : Int32) ii_mo_off_208 (by decide) ?_
        refine sm_iload_n ii_mo_off_209 rfl ?_
        refine sm_iadd ii_mo_off_210 ?_
        refine sm_iconst (1 : Int32) ii_mo_off_211 (by decide) ?_
        refine sm_isub ii_mo_off_212 ?_
        refine sm_iald ii_mo_off_213 (k := 63) rfl (fun x6 => ?_)
        refine sm_aload_n ii_mo_off_214 rfl ?_
        refine sm_getR 68 ii_mo_off_215 fl_mo_25 (k := 62) rfl ?_
        refine sm_bipush (40 : Int32) ii_mo_off_218 (by decide) ?_
        refine sm_iload_n ii_mo_off_220 rfl ?_
        refine sm_imul ii_mo_off_221 ?_
        refine sm_iload ii_mo_off_222 rfl ?_
        refine sm_iadd ii_mo_off_224 ?_
        refine sm_iconst (1 : Int32) ii_mo_off_225 (by decide) ?_
        refine sm_isub ii_mo_off_226 ?_
        refine sm_iald ii_mo_off_227 (k := 68) rfl (fun x7 => ?_)
        refine sm_icmp_ne 235 ii_mo_off_228 (by decide) ?_ ?_
        · refine sm_iconst (0 : Int32) ii_mo_off_231 (by decide) ?_
          refine sm_goto 236 ii_mo_off_232 (by decide) ?_
          refine sm_msk [true, true, false, true, true, false, true, true, false] [some (.ref 62), some (.int a1), none, some (.int a3), some (.int a4), none, some (.int (x3 + (1 : Int32))), some (.int (x4 + (1 : Int32))), none] rfl ?_
          exact ss_mo_off_236 self113 hself113 self126 hself126 (a1) (a3) (a4) ((x3 + (1 : Int32))) ((x4 + (1 : Int32))) (x5) ((0 : Int32)) w
        · refine sm_iconst (1 : Int32) ii_mo_off_235 (by decide) ?_
          refine sm_msk [true, true, false, true, true, false, true, true, false] [some (.ref 62), some (.int a1), none, some (.int a3), some (.int a4), none, some (.int (x3 + (1 : Int32))), some (.int (x4 + (1 : Int32))), none] rfl ?_
          exact ss_mo_off_236 self113 hself113 self126 hself126 (a1) (a3) (a4) ((x3 + (1 : Int32))) ((x4 + (1 : Int32))) (x5) ((1 : Int32)) w
set_option maxHeartbeats 4000000 in
set_option maxRecDepth 100000 in
theorem ss_mo_off_126_f {E : Nat × (Nat → Int32)} (self113 : Int32 → Int32 → sm_Mem → sm_R) (hself113 : ∀ (a1 : Int32) (a3 : Int32) (w : sm_Mem), sm_Sim E (mi_mo_off) 113 [some (.ref 62), some (.int a1), none, some (.int a3), none, none, none, none, none] [] w (self113 a1 a3 w)) : ∀ (n : Nat) (a1 : Int32) (a3 : Int32) (a4 : Int32) (w : sm_Mem), sm_Sim E (mi_mo_off) 126 [some (.ref 62), some (.int a1), none, some (.int a3), some (.int a4), none, none, none, none] [] w (ff_mo_off_126_f self113 n a1 a3 a4 w)
  | 0, _, _, _, _ => fun _ _ h => by cases h
  | n + 1, a1, a3, a4, w => ss_mo_off_126_b self113 hself113 _ (ss_mo_off_126_f self113 hself113 n) a1 a3 a4 w
set_option maxHeartbeats 4000000 in
set_option maxRecDepth 100000 in
theorem ss_mo_off_126 {E : Nat × (Nat → Int32)} (self113 : Int32 → Int32 → sm_Mem → sm_R) (hself113 : ∀ (a1 : Int32) (a3 : Int32) (w : sm_Mem), sm_Sim E (mi_mo_off) 113 [some (.ref 62), some (.int a1), none, some (.int a3), none, none, none, none, none] [] w (self113 a1 a3 w)) (a1 : Int32) (a3 : Int32) (a4 : Int32) (w : sm_Mem) : sm_Sim E (mi_mo_off) 126 [some (.ref 62), some (.int a1), none, some (.int a3), some (.int a4), none, none, none, none] [] w (ff_mo_off_126 self113 a1 a3 a4 w) := ss_mo_off_126_f self113 hself113 sm_N a1 a3 a4 w
noncomputable def ff_mo_off_113_b  (self113 : Int32 → Int32 → sm_Mem → sm_R) (a1 : Int32) (a3 : Int32) (w : sm_Mem) : sm_R := (Option.bind (sm_rd w 63 5184 (2 : Int32)) fun x8 => (if x8 < a3 then (Option.bind (sm_rd w 63 5184 (2 : Int32)) fun x9 => (Option.bind (sm_rd w 67 6 a1) fun x10 => (Option.bind (sm_rd w 78 81 (((9 : Int32) * x9) + x10)) fun x11 => (some (.int x11, w))))) else ff_mo_off_126 self113 (a1) (a3) ((0 : Int32)) w))
noncomputable def ff_mo_off_113_f  : Nat → Int32 → Int32 → sm_Mem → sm_R
  | 0, _, _, _ => none
  | n + 1, a1, a3, w => ff_mo_off_113_b  (ff_mo_off_113_f  n) a1 a3 w
noncomputable def ff_mo_off_113  (a1 : Int32) (a3 : Int32) (w : sm_Mem) : sm_R := ff_mo_off_113_f  sm_N a1 a3 w
set_option maxHeartbeats 4000000 in
set_option maxRecDepth 100000 in
theorem ss_mo_off_113_b {E : Nat × (Nat → Int32)}  (self113 : Int32 → Int32 → sm_Mem → sm_R) (hself113 : ∀ (a1 : Int32) (a3 : Int32) (w : sm_Mem), sm_Sim E (mi_mo_off) 113 [some (.ref 62), some (.int a1), none, some (.int a3), none, none, none, none, none] [] w (self113 a1 a3 w)) (a1 : Int32) (a3 : Int32) (w : sm_Mem) : sm_Sim E (mi_mo_off) 113 [some (.ref 62), some (.int a1), none, some (.int a3), none, none, none, none, none] [] w (ff_mo_off_113_b  self113 a1 a3 w) := by
  unfold ff_mo_off_113_b
  refine sm_iload_n ii_mo_off_113 rfl ?_
  refine sm_aload_n ii_mo_off_114 rfl ?_
  refine sm_getR 63 ii_mo_off_115 fl_mo_7 (k := 62) rfl ?_
  refine sm_iconst (2 : Int32) ii_mo_off_118 (by decide) ?_
  refine sm_iald ii_mo_off_119 (k := 63) rfl (fun x8 => ?_)
  refine sm_icmp_gt 297 ii_mo_off_120 (by decide) ?_ ?_
  · refine sm_aload_n ii_mo_off_297 rfl ?_
    refine sm_getR 78 ii_mo_off_298 fl_mo_59 (k := 62) rfl ?_
    refine sm_bipush (9 : Int32) ii_mo_off_301 (by decide) ?_
    refine sm_aload_n ii_mo_off_303 rfl ?_
    refine sm_getR 63 ii_mo_off_304 fl_mo_7 (k := 62) rfl ?_
    refine sm_iconst (2 : Int32) ii_mo_off_307 (by decide) ?_
    refine sm_iald ii_mo_off_308 (k := 63) rfl (fun x9 => ?_)
    refine sm_imul ii_mo_off_309 ?_
    refine sm_aload_n ii_mo_off_310 rfl ?_
    refine sm_getR 67 ii_mo_off_311 fl_mo_22 (k := 62) rfl ?_
    refine sm_iload_n ii_mo_off_314 rfl ?_
    refine sm_iald ii_mo_off_315 (k := 67) rfl (fun x10 => ?_)
    refine sm_iadd ii_mo_off_316 ?_
    refine sm_iald ii_mo_off_317 (k := 78) rfl (fun x11 => ?_)
    exact sm_iret ii_mo_off_318 rfl
  · refine sm_iconst (0 : Int32) ii_mo_off_123 (by decide) ?_
    refine sm_istore [some (.ref 62), some (.int a1), none, some (.int a3), some (.int (0 : Int32)), none, none, none, none] ii_mo_off_124 rfl rfl ?_
    exact ss_mo_off_126 self113 hself113 (a1) (a3) ((0 : Int32)) w
set_option maxHeartbeats 4000000 in
set_option maxRecDepth 100000 in
theorem ss_mo_off_113_f {E : Nat × (Nat → Int32)}  : ∀ (n : Nat) (a1 : Int32) (a3 : Int32) (w : sm_Mem), sm_Sim E (mi_mo_off) 113 [some (.ref 62), some (.int a1), none, some (.int a3), none, none, none, none, none] [] w (ff_mo_off_113_f  n a1 a3 w)
  | 0, _, _, _ => fun _ _ h => by cases h
  | n + 1, a1, a3, w => ss_mo_off_113_b  _ (ss_mo_off_113_f  n) a1 a3 w
set_option maxHeartbeats 4000000 in
set_option maxRecDepth 100000 in
theorem ss_mo_off_113 {E : Nat × (Nat → Int32)}  (a1 : Int32) (a3 : Int32) (w : sm_Mem) : sm_Sim E (mi_mo_off) 113 [some (.ref 62), some (.int a1), none, some (.int a3), none, none, none, none, none] [] w (ff_mo_off_113  a1 a3 w) := ss_mo_off_113_f  sm_N a1 a3 w
noncomputable def ff_mo_off_93 (self58 : Int32 → Int32 → Int32 → sm_Mem → sm_R) (a1 : Int32) (a3 : Int32) (w : sm_Mem) : sm_R := self58 (a1) ((0 : Int32)) ((a3 + (1 : Int32))) w
set_option maxHeartbeats 4000000 in
set_option maxRecDepth 100000 in
theorem ss_mo_off_93 {E : Nat × (Nat → Int32)} (self58 : Int32 → Int32 → Int32 → sm_Mem → sm_R) (hself58 : ∀ (a1 : Int32) (a2 : Int32) (a3 : Int32) (w : sm_Mem), sm_Sim E (mi_mo_off) 58 [some (.ref 62), some (.int a1), some (.int a2), some (.int a3), none, none, none, none, none] [] w (self58 a1 a2 a3 w)) (a1 : Int32) (a3 : Int32) (w : sm_Mem) : sm_Sim E (mi_mo_off) 93 [some (.ref 62), some (.int a1), none, some (.int a3), none, none, none, none, none] [] w (ff_mo_off_93 self58 a1 a3 w) := by
  unfold ff_mo_off_93
  refine sm_iconst (0 : Int32) ii_mo_off_93 (by decide) ?_
  refine sm_istore_n [some (.ref 62), some (.int a1), some (.int (0 : Int32)), some (.int a3), none, none, none, none, none] ii_mo_off_94 rfl rfl ?_
  refine sm_iinc (a3 + (1 : Int32)) [some (.ref 62), some (.int a1), some (.int (0 : Int32)), some (.int (a3 + (1 : Int32))), none, none, none, none, none] ii_mo_off_95 rfl rfl rfl rfl ?_
  refine sm_goto 58 ii_mo_off_98 (by decide) ?_
  exact hself58 (a1) ((0 : Int32)) ((a3 + (1 : Int32))) w
noncomputable def ff_mo_off_58_b  (self58 : Int32 → Int32 → Int32 → sm_Mem → sm_R) (a1 : Int32) (a2 : Int32) (a3 : Int32) (w : sm_Mem) : sm_R := (Option.bind (sm_rd w 67 6 a1) fun x12 => (if (((40 : Int32) * a1) + x12) ≤ a3 then (if a2 = (0 : Int32) then (sm_cI (ff_mo_find ((3 : Int32)) w) fun x13 w14 => (some (.int x13, w14))) else ff_mo_off_113 (a1) ((0 : Int32)) w) else (if a2 = (0 : Int32) then ff_mo_off_93 self58 (a1) (a3) w else (Option.bind (sm_rd w 68 240 a3) fun x15 => (sm_cI (ff_mo_isWord (x15) w) fun x16 w17 => (if x16 = (0 : Int32) then ff_mo_off_93 self58 (a1) (a3) w17 else self58 (a1) ((1 : Int32)) ((a3 + (1 : Int32))) w17))))))
noncomputable def ff_mo_off_58_f  : Nat → Int32 → Int32 → Int32 → sm_Mem → sm_R
  | 0, _, _, _, _ => none
  | n + 1, a1, a2, a3, w => ff_mo_off_58_b  (ff_mo_off_58_f  n) a1 a2 a3 w
noncomputable def ff_mo_off_58  (a1 : Int32) (a2 : Int32) (a3 : Int32) (w : sm_Mem) : sm_R := ff_mo_off_58_f  sm_N a1 a2 a3 w
set_option maxHeartbeats 4000000 in
set_option maxRecDepth 100000 in
theorem ss_mo_off_58_b {E : Nat × (Nat → Int32)}  (self58 : Int32 → Int32 → Int32 → sm_Mem → sm_R) (hself58 : ∀ (a1 : Int32) (a2 : Int32) (a3 : Int32) (w : sm_Mem), sm_Sim E (mi_mo_off) 58 [some (.ref 62), some (.int a1), some (.int a2), some (.int a3), none, none, none, none, none] [] w (self58 a1 a2 a3 w)) (a1 : Int32) (a2 : Int32) (a3 : Int32) (w : sm_Mem) : sm_Sim E (mi_mo_off) 58 [some (.ref 62), some (.int a1), some (.int a2), some (.int a3), none, none, none, none, none] [] w (ff_mo_off_58_b  self58 a1 a2 a3 w) := by
  unfold ff_mo_off_58_b
  refine sm_iload_n ii_mo_off_58 rfl ?_
  refine sm_bipush (40 : Int32) ii_mo_off_59 (by decide) ?_
  refine sm_iload_n ii_mo_off_61 rfl ?_
  refine sm_imul ii_mo_off_62 ?_
  refine sm_aload_n ii_mo_off_63 rfl ?_
  refine sm_getR 67 ii_mo_off_64 fl_mo_22 (k := 62) rfl ?_
  refine sm_iload_n ii_mo_off_67 rfl ?_
  refine sm_iald ii_mo_off_68 (k := 67) rfl (fun x12 => ?_)
  refine sm_iadd ii_mo_off_69 ?_
  refine sm_icmp_ge 101 ii_mo_off_70 (by decide) ?_ ?_
  · refine sm_iload_n ii_mo_off_101 rfl ?_
    refine sm_if_ne 111 ii_mo_off_102 (by decide) ?_ ?_
    · refine sm_aload_n ii_mo_off_105 rfl ?_
      refine sm_iconst (3 : Int32) ii_mo_off_106 (by decide) ?_
      refine sm_cvI [.int (3 : Int32)] [] rfl ii_mo_off_107 ml_mo_81 (mf_mo_find) (mv_mo_find) (Nat.le_of_ble_eq_true rfl) rfl 7 rfl rfl rfl rfl (mc_mo_find ((3 : Int32)) w) (fun x13 w14 => ?_)
      exact sm_iret ii_mo_off_110 rfl
    · refine sm_iconst (0 : Int32) ii_mo_off_111 (by decide) ?_
      refine sm_istore_n [some (.ref 62), some (.int a1), some (.int a2), some (.int (0 : Int32)), none, none, none, none, none] ii_mo_off_112 rfl rfl ?_
      refine sm_msk [true, true, false, true, false, false, false, false, false] [some (.ref 62), some (.int a1), none, some (.int (0 : Int32)), none, none, none, none, none] rfl ?_
      exact ss_mo_off_113 (a1) ((0 : Int32)) w
  · refine sm_iload_n ii_mo_off_73 rfl ?_
    refine sm_if_eq 93 ii_mo_off_74 (by decide) ?_ ?_
    · refine sm_msk [true, true, false, true, false, false, false, false, false] [some (.ref 62), some (.int a1), none, some (.int a3), none, none, none, none, none] rfl ?_
      exact ss_mo_off_93 self58 hself58 (a1) (a3) w
    · refine sm_aload_n ii_mo_off_77 rfl ?_
      refine sm_getR 68 ii_mo_off_78 fl_mo_25 (k := 62) rfl ?_
      refine sm_iload_n ii_mo_off_81 rfl ?_
      refine sm_iald ii_mo_off_82 (k := 68) rfl (fun x15 => ?_)
      refine sm_csI [.int x15] [] rfl ii_mo_off_83 ml_mo_184 (mf_mo_isWord) (mv_mo_isWord) (Nat.le_of_ble_eq_true rfl) rfl rfl rfl (mc_mo_isWord (x15) w) (fun x16 w17 => ?_)
      refine sm_if_eq 93 ii_mo_off_86 (by decide) ?_ ?_
      · refine sm_msk [true, true, false, true, false, false, false, false, false] [some (.ref 62), some (.int a1), none, some (.int a3), none, none, none, none, none] rfl ?_
        exact ss_mo_off_93 self58 hself58 (a1) (a3) w17
      · refine sm_iconst (1 : Int32) ii_mo_off_89 (by decide) ?_
        refine sm_goto 94 ii_mo_off_90 (by decide) ?_
        refine sm_istore_n [some (.ref 62), some (.int a1), some (.int (1 : Int32)), some (.int a3), none, none, none, none, none] ii_mo_off_94 rfl rfl ?_
        refine sm_iinc (a3 + (1 : Int32)) [some (.ref 62), some (.int a1), some (.int (1 : Int32)), some (.int (a3 + (1 : Int32))), none, none, none, none, none] ii_mo_off_95 rfl rfl rfl rfl ?_
        refine sm_goto 58 ii_mo_off_98 (by decide) ?_
        exact hself58 (a1) ((1 : Int32)) ((a3 + (1 : Int32))) w17
set_option maxHeartbeats 4000000 in
set_option maxRecDepth 100000 in
theorem ss_mo_off_58_f {E : Nat × (Nat → Int32)}  : ∀ (n : Nat) (a1 : Int32) (a2 : Int32) (a3 : Int32) (w : sm_Mem), sm_Sim E (mi_mo_off) 58 [some (.ref 62), some (.int a1), some (.int a2), some (.int a3), none, none, none, none, none] [] w (ff_mo_off_58_f  n a1 a2 a3 w)
  | 0, _, _, _, _ => fun _ _ h => by cases h
  | n + 1, a1, a2, a3, w => ss_mo_off_58_b  _ (ss_mo_off_58_f  n) a1 a2 a3 w
set_option maxHeartbeats 4000000 in
set_option maxRecDepth 100000 in
theorem ss_mo_off_58 {E : Nat × (Nat → Int32)}  (a1 : Int32) (a2 : Int32) (a3 : Int32) (w : sm_Mem) : sm_Sim E (mi_mo_off) 58 [some (.ref 62), some (.int a1), some (.int a2), some (.int a3), none, none, none, none, none] [] w (ff_mo_off_58  a1 a2 a3 w) := ss_mo_off_58_f  sm_N a1 a2 a3 w
noncomputable def ff_mo_off  (a1 : Int32) (w : sm_Mem) : sm_R := (sm_cI (ff_mo_isRow (a1) w) fun x18 w19 => (if x18 = (0 : Int32) then (some (.int (-1 : Int32), w19)) else (if (w19.1 62 1) = (0 : Int32) then (some (.int (-4 : Int32), w19)) else (Option.bind (sm_rd w19 67 6 a1) fun x20 => (if (0 : Int32) ≤ x20 then (Option.bind (sm_rd w19 67 6 a1) fun x21 => (if x21 ≤ (8 : Int32) then ff_mo_off_58 (a1) ((1 : Int32)) (((40 : Int32) * a1)) w19 else (sm_cI (ff_mo_find ((5 : Int32)) w19) fun x22 w23 => (some (.int x22, w23))))) else (sm_cI (ff_mo_find ((1 : Int32)) w19) fun x24 w25 => (some (.int x24, w25))))))))
set_option maxHeartbeats 4000000 in
set_option maxRecDepth 100000 in
theorem ss_mo_off_0 {E : Nat × (Nat → Int32)}  (a1 : Int32) (w : sm_Mem) : sm_Sim E (mi_mo_off) 0 [some (.ref 62), some (.int a1), none, none, none, none, none, none, none] [] w (ff_mo_off  a1 w) := by
  unfold ff_mo_off
  refine sm_iload_n ii_mo_off_0 rfl ?_
  refine sm_csI [.int a1] [] rfl ii_mo_off_1 ml_mo_77 (mf_mo_isRow) (mv_mo_isRow) (Nat.le_of_ble_eq_true rfl) rfl rfl rfl (mc_mo_isRow (a1) w) (fun x18 w19 => ?_)
  refine sm_if_ne 9 ii_mo_off_4 (by decide) ?_ ?_
  · refine sm_iconst (-1 : Int32) ii_mo_off_7 (by decide) ?_
    exact sm_iret ii_mo_off_8 rfl
  · refine sm_aload_n ii_mo_off_9 rfl ?_
    refine sm_getI ii_mo_off_10 fl_mo_135 (k := 62) rfl ?_
    refine sm_if_ne 19 ii_mo_off_13 (by decide) ?_ ?_
    · refine sm_bipush (-4 : Int32) ii_mo_off_16 (by decide) ?_
      exact sm_iret ii_mo_off_18 rfl
    · refine sm_aload_n ii_mo_off_19 rfl ?_
      refine sm_getR 67 ii_mo_off_20 fl_mo_22 (k := 62) rfl ?_
      refine sm_iload_n ii_mo_off_23 rfl ?_
      refine sm_iald ii_mo_off_24 (k := 67) rfl (fun x20 => ?_)
      refine sm_if_ge 34 ii_mo_off_25 (by decide) ?_ ?_
      · refine sm_aload_n ii_mo_off_34 rfl ?_
        refine sm_getR 67 ii_mo_off_35 fl_mo_22 (k := 62) rfl ?_
        refine sm_iload_n ii_mo_off_38 rfl ?_
        refine sm_iald ii_mo_off_39 (k := 67) rfl (fun x21 => ?_)
        refine sm_bipush (8 : Int32) ii_mo_off_40 (by decide) ?_
        refine sm_icmp_le 51 ii_mo_off_42 (by decide) ?_ ?_
        · refine sm_iconst (1 : Int32) ii_mo_off_51 (by decide) ?_
          refine sm_istore_n [some (.ref 62), some (.int a1), some (.int (1 : Int32)), none, none, none, none, none, none] ii_mo_off_52 rfl rfl ?_
          refine sm_bipush (40 : Int32) ii_mo_off_53 (by decide) ?_
          refine sm_iload_n ii_mo_off_55 rfl ?_
          refine sm_imul ii_mo_off_56 ?_
          refine sm_istore_n [some (.ref 62), some (.int a1), some (.int (1 : Int32)), some (.int ((40 : Int32) * a1)), none, none, none, none, none] ii_mo_off_57 rfl rfl ?_
          exact ss_mo_off_58 (a1) ((1 : Int32)) (((40 : Int32) * a1)) w19
        · refine sm_aload_n ii_mo_off_45 rfl ?_
          refine sm_iconst (5 : Int32) ii_mo_off_46 (by decide) ?_
          refine sm_cvI [.int (5 : Int32)] [] rfl ii_mo_off_47 ml_mo_81 (mf_mo_find) (mv_mo_find) (Nat.le_of_ble_eq_true rfl) rfl 7 rfl rfl rfl rfl (mc_mo_find ((5 : Int32)) w19) (fun x22 w23 => ?_)
          exact sm_iret ii_mo_off_50 rfl
      · refine sm_aload_n ii_mo_off_28 rfl ?_
        refine sm_iconst (1 : Int32) ii_mo_off_29 (by decide) ?_
        refine sm_cvI [.int (1 : Int32)] [] rfl ii_mo_off_30 ml_mo_81 (mf_mo_find) (mv_mo_find) (Nat.le_of_ble_eq_true rfl) rfl 7 rfl rfl rfl rfl (mc_mo_find ((1 : Int32)) w19) (fun x24 w25 => ?_)
        exact sm_iret ii_mo_off_33 rfl
set_option maxHeartbeats 4000000 in
set_option maxRecDepth 100000 in
theorem mc_mo_off (a1 : Int32) (w : sm_Mem) : sm_MC mi_mo_off [.ref 62, .int a1] w (ff_mo_off a1 w) := sm_MC_of (0, fun _ => 0) (by decide +kernel) (by decide) rfl (Nat.le_of_ble_eq_true rfl) (ss_mo_off_0 a1 w)
abbrev mi_hs_isSilenced : sm_MI := (⟨"HerOrders$House", "isSilenced", "()Z"⟩, prog_3_method_19_code, 2, (some .boolean), 4)
set_option maxRecDepth 100000 in
theorem mf_hs_isSilenced : sm_MF mi_hs_isSilenced 0 := ⟨List.mem_of_getElem? (i := 823) (by decide +kernel), List.mem_of_getElem? (i := 128) (by decide +kernel), ⟨by decide, by decide⟩, by decide +kernel⟩
set_option maxRecDepth 100000 in
theorem mv_hs_isSilenced : sm_MFV mi_hs_isSilenced := ⟨List.mem_of_getElem? (i := 822) (by decide +kernel), List.mem_of_getElem? (i := 59) (by decide +kernel)⟩
set_option maxRecDepth 100000 in
theorem ii_hs_isSilenced_0 : sm_D prog_3_method_19_code 0 1 1 (.iconst 0) := ⟨by decide +kernel, rfl⟩
set_option maxRecDepth 100000 in
theorem ii_hs_isSilenced_1 : sm_D prog_3_method_19_code 1 1 2 (.istore_n 1) := ⟨by decide +kernel, rfl⟩
set_option maxRecDepth 100000 in
theorem ii_hs_isSilenced_2 : sm_D prog_3_method_19_code 2 1 3 (.iload_n 1) := ⟨by decide +kernel, rfl⟩
set_option maxRecDepth 100000 in
theorem ii_hs_isSilenced_3 : sm_D prog_3_method_19_code 3 1 4 (.aload_n 0) := ⟨by decide +kernel, rfl⟩
set_option maxRecDepth 100000 in
theorem ii_hs_isSilenced_4 : sm_D prog_3_method_19_code 4 3 7 (.getfield 45) := ⟨by decide +kernel, rfl⟩
set_option maxRecDepth 100000 in
theorem ii_hs_isSilenced_7 : sm_D prog_3_method_19_code 7 3 10 (.if_icmp .ge 19) := ⟨by decide +kernel, rfl⟩
set_option maxRecDepth 100000 in
theorem ii_hs_isSilenced_10 : sm_D prog_3_method_19_code 10 1 11 (.aload_n 0) := ⟨by decide +kernel, rfl⟩
set_option maxRecDepth 100000 in
theorem ii_hs_isSilenced_11 : sm_D prog_3_method_19_code 11 1 12 (.iload_n 1) := ⟨by decide +kernel, rfl⟩
set_option maxRecDepth 100000 in
theorem ii_hs_isSilenced_12 : sm_D prog_3_method_19_code 12 3 15 (.invokevirtual 126) := ⟨by decide +kernel, rfl⟩
set_option maxRecDepth 100000 in
theorem ii_hs_isSilenced_15 : sm_D prog_3_method_19_code 15 3 18 (.ifCond .eq 5) := ⟨by decide +kernel, rfl⟩
set_option maxRecDepth 100000 in
theorem ii_hs_isSilenced_18 : sm_D prog_3_method_19_code 18 1 19 (.iconst 0) := ⟨by decide +kernel, rfl⟩
set_option maxRecDepth 100000 in
theorem ii_hs_isSilenced_19 : sm_D prog_3_method_19_code 19 1 20 (.ireturn) := ⟨by decide +kernel, rfl⟩
set_option maxRecDepth 100000 in
theorem ii_hs_isSilenced_20 : sm_D prog_3_method_19_code 20 3 23 (.iinc 1 1) := ⟨by decide +kernel, rfl⟩
set_option maxRecDepth 100000 in
theorem ii_hs_isSilenced_23 : sm_D prog_3_method_19_code 23 3 26 (.goto (-21)) := ⟨by decide +kernel, rfl⟩
set_option maxRecDepth 100000 in
theorem ii_hs_isSilenced_26 : sm_D prog_3_method_19_code 26 1 27 (.iconst 1) := ⟨by decide +kernel, rfl⟩
set_option maxRecDepth 100000 in
theorem ii_hs_isSilenced_27 : sm_D prog_3_method_19_code 27 1 28 (.ireturn) := ⟨by decide +kernel, rfl⟩
noncomputable def ff_hs_isSilenced_2_b  (self2 : Int32 → sm_Mem → sm_R) (a1 : Int32) (w : sm_Mem) : sm_R := (if (w.1 36 0) ≤ a1 then (some (.int (1 : Int32), w)) else (sm_cI (ff_hs_sayable (a1) w) fun x1 w2 => (if x1 = (0 : Int32) then self2 ((a1 + (1 : Int32))) w2 else (some (.int (0 : Int32), w2)))))
noncomputable def ff_hs_isSilenced_2_f  : Nat → Int32 → sm_Mem → sm_R
  | 0, _, _ => none
  | n + 1, a1, w => ff_hs_isSilenced_2_b  (ff_hs_isSilenced_2_f  n) a1 w
noncomputable def ff_hs_isSilenced_2  (a1 : Int32) (w : sm_Mem) : sm_R := ff_hs_isSilenced_2_f  sm_N a1 w
set_option maxHeartbeats 4000000 in
set_option maxRecDepth 100000 in
theorem ss_hs_isSilenced_2_b {E : Nat × (Nat → Int32)}  (self2 : Int32 → sm_Mem → sm_R) (hself2 : ∀ (a1 : Int32) (w : sm_Mem), sm_Sim E (mi_hs_isSilenced) 2 [some (.ref 36), some (.int a1)] [] w (self2 a1 w)) (a1 : Int32) (w : sm_Mem) : sm_Sim E (mi_hs_isSilenced) 2 [some (.ref 36), some (.int a1)] [] w (ff_hs_isSilenced_2_b  self2 a1 w) := by
  unfold ff_hs_isSilenced_2_b
  refine sm_iload_n ii_hs_isSilenced_2 rfl ?_
  refine sm_aload_n ii_hs_isSilenced_3 rfl ?_
  refine sm_getI ii_hs_isSilenced_4 fl_hs_45 (k := 36) rfl ?_
  refine sm_icmp_ge 26 ii_hs_isSilenced_7 (by decide) ?_ ?_
  · refine sm_iconst (1 : Int32) ii_hs_isSilenced_26 (by decide) ?_
    exact sm_zret1 ii_hs_isSilenced_27 rfl (by decide)
  · refine sm_aload_n ii_hs_isSilenced_10 rfl ?_
    refine sm_iload_n ii_hs_isSilenced_11 rfl ?_
    refine sm_cvI [.int a1] [] rfl ii_hs_isSilenced_12 ml_hs_126 (mf_hs_sayable) (mv_hs_sayable) (Nat.le_of_ble_eq_true rfl) rfl 1 rfl rfl rfl rfl (mc_hs_sayable (a1) w) (fun x1 w2 => ?_)
    refine sm_if_eq 20 ii_hs_isSilenced_15 (by decide) ?_ ?_
    · refine sm_iinc (a1 + (1 : Int32)) [some (.ref 36), some (.int (a1 + (1 : Int32)))] ii_hs_isSilenced_20 rfl rfl rfl rfl ?_
      refine sm_goto 2 ii_hs_isSilenced_23 (by decide) ?_
      exact hself2 ((a1 + (1 : Int32))) w2
    · refine sm_iconst (0 : Int32) ii_hs_isSilenced_18 (by decide) ?_
      exact sm_zret1 ii_hs_isSilenced_19 rfl (by decide)
set_option maxHeartbeats 4000000 in
set_option maxRecDepth 100000 in
theorem ss_hs_isSilenced_2_f {E : Nat × (Nat → Int32)}  : ∀ (n : Nat) (a1 : Int32) (w : sm_Mem), sm_Sim E (mi_hs_isSilenced) 2 [some (.ref 36), some (.int a1)] [] w (ff_hs_isSilenced_2_f  n a1 w)
  | 0, _, _ => fun _ _ h => by cases h
  | n + 1, a1, w => ss_hs_isSilenced_2_b  _ (ss_hs_isSilenced_2_f  n) a1 w
set_option maxHeartbeats 4000000 in
set_option maxRecDepth 100000 in
theorem ss_hs_isSilenced_2 {E : Nat × (Nat → Int32)}  (a1 : Int32) (w : sm_Mem) : sm_Sim E (mi_hs_isSilenced) 2 [some (.ref 36), some (.int a1)] [] w (ff_hs_isSilenced_2  a1 w) := ss_hs_isSilenced_2_f  sm_N a1 w
noncomputable def ff_hs_isSilenced   (w : sm_Mem) : sm_R := ff_hs_isSilenced_2 ((0 : Int32)) w
set_option maxHeartbeats 4000000 in
set_option maxRecDepth 100000 in
theorem ss_hs_isSilenced_0 {E : Nat × (Nat → Int32)}   (w : sm_Mem) : sm_Sim E (mi_hs_isSilenced) 0 [some (.ref 36), none] [] w (ff_hs_isSilenced   w) := by
  unfold ff_hs_isSilenced
  refine sm_iconst (0 : Int32) ii_hs_isSilenced_0 (by decide) ?_
  refine sm_istore_n [some (.ref 36), some (.int (0 : Int32))] ii_hs_isSilenced_1 rfl rfl ?_
  exact ss_hs_isSilenced_2 ((0 : Int32)) w
set_option maxHeartbeats 4000000 in
set_option maxRecDepth 100000 in
theorem mc_hs_isSilenced  (w : sm_Mem) : sm_MC mi_hs_isSilenced [.ref 36] w (ff_hs_isSilenced  w) := sm_MC_of (0, fun _ => 0) (by decide +kernel) (by decide) rfl (Nat.le_of_ble_eq_true rfl) (ss_hs_isSilenced_0  w)
