/-! the program, by a program: functions of its methods and that the methods do them -/
set_option maxRecDepth 100000 in
theorem fl_tr_22 : sm_FL "HerOrders$Trials" 22 4 4 := ⟨RX4, TX4, 5, rfl, by decide, rfl, sm_inX4, Or.inl (List.mem_of_getElem? (i := 266) (by decide +kernel))⟩
set_option maxRecDepth 100000 in
theorem mq_tr_74 : Cond.methodLink "HerOrders$Trials" 74 Lib.Math.min.name ∈ lw_tbl := List.mem_of_getElem? (i := 683) (by decide +kernel)
set_option maxRecDepth 100000 in
theorem fl_tr_78 : sm_FL "HerOrders$Trials" 78 1 9 := ⟨RX1, TX1, 13, rfl, by decide, rfl, sm_inX1, Or.inr ⟨"HerOrders", List.mem_of_getElem? (i := 162) (by decide +kernel)⟩⟩
set_option maxRecDepth 100000 in
theorem fl_tr_81 : sm_FL "HerOrders$Trials" 81 2 0 := ⟨RX2, TX2, 2, rfl, by decide, rfl, sm_inX2, Or.inr ⟨"HerOrders", List.mem_of_getElem? (i := 100) (by decide +kernel)⟩⟩
set_option maxRecDepth 100000 in
theorem fl_tr_77 : sm_FL "HerOrders$Trials" 77 1 11 := ⟨RX1, TX1, 13, rfl, by decide, rfl, sm_inX1, Or.inr ⟨"HerOrders", List.mem_of_getElem? (i := 167) (by decide +kernel)⟩⟩
set_option maxRecDepth 100000 in
theorem fl_tr_69 : sm_FL "HerOrders$Trials" 69 2 1 := ⟨RX2, TX2, 2, rfl, by decide, rfl, sm_inX2, Or.inr ⟨"HerOrders", List.mem_of_getElem? (i := 105) (by decide +kernel)⟩⟩
set_option maxRecDepth 100000 in
theorem ml_ho_275 : sm_ML "HerOrders" 275 ⟨"HerOrders$Trials", "distanceTo", "(LHerOrders$Row;)I"⟩ := Or.inr ⟨"HerOrders", List.mem_of_getElem? (i := 679) (by decide +kernel)⟩
set_option maxRecDepth 100000 in
theorem ml_ho_362 : sm_ML "HerOrders" 362 ⟨"HerOrders$House", "push", "(II)V"⟩ := Or.inr ⟨"HerOrders", List.mem_of_getElem? (i := 696) (by decide +kernel)⟩
set_option maxRecDepth 100000 in
theorem ml_ho_278 : sm_ML "HerOrders" 278 ⟨"HerOrders", "outcome", "(LHerOrders$House;I)I"⟩ := Or.inl (List.mem_of_getElem? (i := 688) (by decide +kernel))
set_option maxRecDepth 100000 in
theorem ml_ho_365 : sm_ML "HerOrders" 365 ⟨"HerOrders$House", "pop", "()V"⟩ := Or.inr ⟨"HerOrders", List.mem_of_getElem? (i := 697) (by decide +kernel)⟩
set_option maxRecDepth 100000 in
theorem ml_ho_359 : sm_ML "HerOrders" 359 ⟨"HerOrders$House", "isSilenced", "()Z"⟩ := Or.inr ⟨"HerOrders", List.mem_of_getElem? (i := 691) (by decide +kernel)⟩
set_option maxRecDepth 100000 in
theorem ml_wy_123 : sm_ML "HerOrders$Ways" 123 ⟨"HerOrders$House", "allSpeakers", "()I"⟩ := Or.inr ⟨"HerOrders", List.mem_of_getElem? (i := 710) (by decide +kernel)⟩
set_option maxRecDepth 100000 in
theorem ml_wy_126 : sm_ML "HerOrders$Ways" 126 ⟨"HerOrders$Ways", "weightOf", "(II)J"⟩ := Or.inl (List.mem_of_getElem? (i := 711) (by decide +kernel))
set_option maxRecDepth 100000 in
theorem ml_wy_120 : sm_ML "HerOrders$Ways" 120 ⟨"HerOrders$Ways", "spreadReach", "()V"⟩ := Or.inl (List.mem_of_getElem? (i := 706) (by decide +kernel))
set_option maxRecDepth 100000 in
theorem ml_ho_282 : sm_ML "HerOrders" 282 ⟨"HerOrders$Ways", "weightOfFull", "(I)J"⟩ := Or.inr ⟨"HerOrders", List.mem_of_getElem? (i := 702) (by decide +kernel)⟩
set_option maxRecDepth 100000 in
theorem ml_ho_286 : sm_ML "HerOrders" 286 ⟨"HerOrders$Ways", "weightOfAny", "()J"⟩ := Or.inr ⟨"HerOrders", List.mem_of_getElem? (i := 715) (by decide +kernel)⟩
set_option maxRecDepth 100000 in
theorem fl_ho_304 : sm_FL "HerOrders" 304 3 2 := ⟨RX3, TX3, 5, rfl, by decide, rfl, sm_inX3, Or.inr ⟨"HerOrders", List.mem_of_getElem? (i := 288) (by decide +kernel)⟩⟩
set_option maxRecDepth 100000 in
theorem ml_ho_289 : sm_ML "HerOrders" 289 ⟨"HerOrders$Ways", "weightOfWords", "(I)J"⟩ := Or.inr ⟨"HerOrders", List.mem_of_getElem? (i := 724) (by decide +kernel)⟩
set_option maxRecDepth 100000 in
theorem ml_hs_86 : sm_ML "HerOrders$House" 86 ⟨"HerOrders$House", "enact", "(III)V"⟩ := Or.inl (List.mem_of_getElem? (i := 741) (by decide +kernel))
set_option maxRecDepth 100000 in
theorem ml_ho_296 : sm_ML "HerOrders" 296 ⟨"HerOrders$House", "enactLot", "(J)V"⟩ := Or.inr ⟨"HerOrders", List.mem_of_getElem? (i := 734) (by decide +kernel)⟩
set_option maxRecDepth 100000 in
theorem fp_ho_78 : sm_FP "HerOrders" 78 2 1 .int := ⟨RX2, TX2, 2, tyX2, rfl, by decide, rfl, sm_inX2, tyX2_ok, nmX2, rfl, by decide +kernel, Or.inr ⟨"HerOrders", List.mem_of_getElem? (i := 104) (by decide +kernel)⟩⟩
abbrev mi_tr_distanceTo : sm_MI := (⟨"HerOrders$Trials", "distanceTo", "(LHerOrders$Row;)I"⟩, prog_6_method_8_code, 7, (some .int), 1)
set_option maxRecDepth 100000 in
theorem mf_tr_distanceTo : sm_MF mi_tr_distanceTo 1 := ⟨List.mem_of_getElem? (i := 682) (by decide +kernel), List.mem_of_getElem? (i := 75) (by decide +kernel), ⟨by decide, by decide⟩, by decide +kernel⟩
set_option maxRecDepth 100000 in
theorem mv_tr_distanceTo : sm_MFV mi_tr_distanceTo := ⟨List.mem_of_getElem? (i := 681) (by decide +kernel), List.mem_of_getElem? (i := 51) (by decide +kernel)⟩
set_option maxRecDepth 100000 in
theorem ii_tr_distanceTo_0 : sm_D prog_6_method_8_code 0 1 1 (.iconst 0) := ⟨by decide +kernel, rfl⟩
set_option maxRecDepth 100000 in
theorem ii_tr_distanceTo_1 : sm_D prog_6_method_8_code 1 1 2 (.aload_n 1) := ⟨by decide +kernel, rfl⟩
set_option maxRecDepth 100000 in
theorem ii_tr_distanceTo_2 : sm_D prog_6_method_8_code 2 3 5 (.getfield 69) := ⟨by decide +kernel, rfl⟩
set_option maxRecDepth 100000 in
theorem ii_tr_distanceTo_5 : sm_D prog_6_method_8_code 5 2 7 (.bipush 8) := ⟨by decide +kernel, rfl⟩
set_option maxRecDepth 100000 in
theorem ii_tr_distanceTo_7 : sm_D prog_6_method_8_code 7 3 10 (.invokestatic 74) := ⟨by decide +kernel, rfl⟩
set_option maxRecDepth 100000 in
theorem ii_tr_distanceTo_10 : sm_D prog_6_method_8_code 10 3 13 (.invokestatic 59) := ⟨by decide +kernel, rfl⟩
set_option maxRecDepth 100000 in
theorem ii_tr_distanceTo_13 : sm_D prog_6_method_8_code 13 1 14 (.istore_n 2) := ⟨by decide +kernel, rfl⟩
set_option maxRecDepth 100000 in
theorem ii_tr_distanceTo_14 : sm_D prog_6_method_8_code 14 1 15 (.iconst 0) := ⟨by decide +kernel, rfl⟩
set_option maxRecDepth 100000 in
theorem ii_tr_distanceTo_15 : sm_D prog_6_method_8_code 15 1 16 (.istore_n 3) := ⟨by decide +kernel, rfl⟩
set_option maxRecDepth 100000 in
theorem ii_tr_distanceTo_16 : sm_D prog_6_method_8_code 16 1 17 (.iload_n 3) := ⟨by decide +kernel, rfl⟩
set_option maxRecDepth 100000 in
theorem ii_tr_distanceTo_17 : sm_D prog_6_method_8_code 17 1 18 (.iload_n 2) := ⟨by decide +kernel, rfl⟩
set_option maxRecDepth 100000 in
theorem ii_tr_distanceTo_18 : sm_D prog_6_method_8_code 18 3 21 (.if_icmp .gt 16) := ⟨by decide +kernel, rfl⟩
set_option maxRecDepth 100000 in
theorem ii_tr_distanceTo_21 : sm_D prog_6_method_8_code 21 1 22 (.aload_n 0) := ⟨by decide +kernel, rfl⟩
set_option maxRecDepth 100000 in
theorem ii_tr_distanceTo_22 : sm_D prog_6_method_8_code 22 3 25 (.getfield 22) := ⟨by decide +kernel, rfl⟩
set_option maxRecDepth 100000 in
theorem ii_tr_distanceTo_25 : sm_D prog_6_method_8_code 25 1 26 (.iload_n 3) := ⟨by decide +kernel, rfl⟩
set_option maxRecDepth 100000 in
theorem ii_tr_distanceTo_26 : sm_D prog_6_method_8_code 26 1 27 (.iload_n 3) := ⟨by decide +kernel, rfl⟩
set_option maxRecDepth 100000 in
theorem ii_tr_distanceTo_27 : sm_D prog_6_method_8_code 27 1 28 (.iastore) := ⟨by decide +kernel, rfl⟩
set_option maxRecDepth 100000 in
theorem ii_tr_distanceTo_28 : sm_D prog_6_method_8_code 28 3 31 (.iinc 3 1) := ⟨by decide +kernel, rfl⟩
set_option maxRecDepth 100000 in
theorem ii_tr_distanceTo_31 : sm_D prog_6_method_8_code 31 3 34 (.goto (-15)) := ⟨by decide +kernel, rfl⟩
set_option maxRecDepth 100000 in
theorem ii_tr_distanceTo_34 : sm_D prog_6_method_8_code 34 1 35 (.iconst 0) := ⟨by decide +kernel, rfl⟩
set_option maxRecDepth 100000 in
theorem ii_tr_distanceTo_35 : sm_D prog_6_method_8_code 35 1 36 (.istore_n 3) := ⟨by decide +kernel, rfl⟩
set_option maxRecDepth 100000 in
theorem ii_tr_distanceTo_36 : sm_D prog_6_method_8_code 36 1 37 (.iload_n 3) := ⟨by decide +kernel, rfl⟩
set_option maxRecDepth 100000 in
theorem ii_tr_distanceTo_37 : sm_D prog_6_method_8_code 37 1 38 (.aload_n 0) := ⟨by decide +kernel, rfl⟩
set_option maxRecDepth 100000 in
theorem ii_tr_distanceTo_38 : sm_D prog_6_method_8_code 38 3 41 (.getfield 9) := ⟨by decide +kernel, rfl⟩
set_option maxRecDepth 100000 in
theorem ii_tr_distanceTo_41 : sm_D prog_6_method_8_code 41 3 44 (.getfield 77) := ⟨by decide +kernel, rfl⟩
set_option maxRecDepth 100000 in
theorem ii_tr_distanceTo_44 : sm_D prog_6_method_8_code 44 3 47 (.if_icmp .ge 114) := ⟨by decide +kernel, rfl⟩
set_option maxRecDepth 100000 in
theorem ii_tr_distanceTo_47 : sm_D prog_6_method_8_code 47 1 48 (.aload_n 0) := ⟨by decide +kernel, rfl⟩
set_option maxRecDepth 100000 in
theorem ii_tr_distanceTo_48 : sm_D prog_6_method_8_code 48 3 51 (.getfield 22) := ⟨by decide +kernel, rfl⟩
set_option maxRecDepth 100000 in
theorem ii_tr_distanceTo_51 : sm_D prog_6_method_8_code 51 1 52 (.iconst 0) := ⟨by decide +kernel, rfl⟩
set_option maxRecDepth 100000 in
theorem ii_tr_distanceTo_52 : sm_D prog_6_method_8_code 52 1 53 (.iaload) := ⟨by decide +kernel, rfl⟩
set_option maxRecDepth 100000 in
theorem ii_tr_distanceTo_53 : sm_D prog_6_method_8_code 53 2 55 (.istore 4) := ⟨by decide +kernel, rfl⟩
set_option maxRecDepth 100000 in
theorem ii_tr_distanceTo_55 : sm_D prog_6_method_8_code 55 1 56 (.aload_n 0) := ⟨by decide +kernel, rfl⟩
set_option maxRecDepth 100000 in
theorem ii_tr_distanceTo_56 : sm_D prog_6_method_8_code 56 3 59 (.getfield 22) := ⟨by decide +kernel, rfl⟩
set_option maxRecDepth 100000 in
theorem ii_tr_distanceTo_59 : sm_D prog_6_method_8_code 59 1 60 (.iconst 0) := ⟨by decide +kernel, rfl⟩
set_option maxRecDepth 100000 in
theorem ii_tr_distanceTo_60 : sm_D prog_6_method_8_code 60 1 61 (.iload_n 3) := ⟨by decide +kernel, rfl⟩
set_option maxRecDepth 100000 in
theorem ii_tr_distanceTo_61 : sm_D prog_6_method_8_code 61 1 62 (.iconst 1) := ⟨by decide +kernel, rfl⟩
set_option maxRecDepth 100000 in
theorem ii_tr_distanceTo_62 : sm_D prog_6_method_8_code 62 1 63 (.iadd) := ⟨by decide +kernel, rfl⟩
set_option maxRecDepth 100000 in
theorem ii_tr_distanceTo_63 : sm_D prog_6_method_8_code 63 1 64 (.iastore) := ⟨by decide +kernel, rfl⟩
set_option maxRecDepth 100000 in
theorem ii_tr_distanceTo_64 : sm_D prog_6_method_8_code 64 1 65 (.iconst 1) := ⟨by decide +kernel, rfl⟩
set_option maxRecDepth 100000 in
theorem ii_tr_distanceTo_65 : sm_D prog_6_method_8_code 65 2 67 (.istore 5) := ⟨by decide +kernel, rfl⟩
set_option maxRecDepth 100000 in
theorem ii_tr_distanceTo_67 : sm_D prog_6_method_8_code 67 2 69 (.iload 5) := ⟨by decide +kernel, rfl⟩
set_option maxRecDepth 100000 in
theorem ii_tr_distanceTo_69 : sm_D prog_6_method_8_code 69 1 70 (.iload_n 2) := ⟨by decide +kernel, rfl⟩
set_option maxRecDepth 100000 in
theorem ii_tr_distanceTo_70 : sm_D prog_6_method_8_code 70 3 73 (.if_icmp .gt 82) := ⟨by decide +kernel, rfl⟩
set_option maxRecDepth 100000 in
theorem ii_tr_distanceTo_73 : sm_D prog_6_method_8_code 73 2 75 (.iload 4) := ⟨by decide +kernel, rfl⟩
set_option maxRecDepth 100000 in
theorem ii_tr_distanceTo_75 : sm_D prog_6_method_8_code 75 1 76 (.aload_n 0) := ⟨by decide +kernel, rfl⟩
set_option maxRecDepth 100000 in
theorem ii_tr_distanceTo_76 : sm_D prog_6_method_8_code 76 3 79 (.getfield 9) := ⟨by decide +kernel, rfl⟩
set_option maxRecDepth 100000 in
theorem ii_tr_distanceTo_79 : sm_D prog_6_method_8_code 79 3 82 (.getfield 78) := ⟨by decide +kernel, rfl⟩
set_option maxRecDepth 100000 in
theorem ii_tr_distanceTo_82 : sm_D prog_6_method_8_code 82 1 83 (.iload_n 3) := ⟨by decide +kernel, rfl⟩
set_option maxRecDepth 100000 in
theorem ii_tr_distanceTo_83 : sm_D prog_6_method_8_code 83 1 84 (.iaload) := ⟨by decide +kernel, rfl⟩
set_option maxRecDepth 100000 in
theorem ii_tr_distanceTo_84 : sm_D prog_6_method_8_code 84 1 85 (.aload_n 1) := ⟨by decide +kernel, rfl⟩
set_option maxRecDepth 100000 in
theorem ii_tr_distanceTo_85 : sm_D prog_6_method_8_code 85 3 88 (.getfield 81) := ⟨by decide +kernel, rfl⟩
set_option maxRecDepth 100000 in
theorem ii_tr_distanceTo_88 : sm_D prog_6_method_8_code 88 2 90 (.iload 5) := ⟨by decide +kernel, rfl⟩
set_option maxRecDepth 100000 in
theorem ii_tr_distanceTo_90 : sm_D prog_6_method_8_code 90 1 91 (.iconst 1) := ⟨by decide +kernel, rfl⟩
set_option maxRecDepth 100000 in
theorem ii_tr_distanceTo_91 : sm_D prog_6_method_8_code 91 1 92 (.isub) := ⟨by decide +kernel, rfl⟩
set_option maxRecDepth 100000 in
theorem ii_tr_distanceTo_92 : sm_D prog_6_method_8_code 92 1 93 (.iaload) := ⟨by decide +kernel, rfl⟩
set_option maxRecDepth 100000 in
theorem ii_tr_distanceTo_93 : sm_D prog_6_method_8_code 93 3 96 (.if_icmp .ne 7) := ⟨by decide +kernel, rfl⟩
set_option maxRecDepth 100000 in
theorem ii_tr_distanceTo_96 : sm_D prog_6_method_8_code 96 1 97 (.iconst 0) := ⟨by decide +kernel, rfl⟩
set_option maxRecDepth 100000 in
theorem ii_tr_distanceTo_97 : sm_D prog_6_method_8_code 97 3 100 (.goto 4) := ⟨by decide +kernel, rfl⟩
set_option maxRecDepth 100000 in
theorem ii_tr_distanceTo_100 : sm_D prog_6_method_8_code 100 1 101 (.iconst 1) := ⟨by decide +kernel, rfl⟩
set_option maxRecDepth 100000 in
theorem ii_tr_distanceTo_101 : sm_D prog_6_method_8_code 101 1 102 (.iadd) := ⟨by decide +kernel, rfl⟩
set_option maxRecDepth 100000 in
theorem ii_tr_distanceTo_102 : sm_D prog_6_method_8_code 102 2 104 (.istore 6) := ⟨by decide +kernel, rfl⟩
set_option maxRecDepth 100000 in
theorem ii_tr_distanceTo_104 : sm_D prog_6_method_8_code 104 1 105 (.aload_n 0) := ⟨by decide +kernel, rfl⟩
set_option maxRecDepth 100000 in
theorem ii_tr_distanceTo_105 : sm_D prog_6_method_8_code 105 3 108 (.getfield 22) := ⟨by decide +kernel, rfl⟩
set_option maxRecDepth 100000 in
theorem ii_tr_distanceTo_108 : sm_D prog_6_method_8_code 108 2 110 (.iload 5) := ⟨by decide +kernel, rfl⟩
set_option maxRecDepth 100000 in
theorem ii_tr_distanceTo_110 : sm_D prog_6_method_8_code 110 1 111 (.iaload) := ⟨by decide +kernel, rfl⟩
set_option maxRecDepth 100000 in
theorem ii_tr_distanceTo_111 : sm_D prog_6_method_8_code 111 2 113 (.istore 4) := ⟨by decide +kernel, rfl⟩
set_option maxRecDepth 100000 in
theorem ii_tr_distanceTo_113 : sm_D prog_6_method_8_code 113 1 114 (.aload_n 0) := ⟨by decide +kernel, rfl⟩
set_option maxRecDepth 100000 in
theorem ii_tr_distanceTo_114 : sm_D prog_6_method_8_code 114 3 117 (.getfield 22) := ⟨by decide +kernel, rfl⟩
set_option maxRecDepth 100000 in
theorem ii_tr_distanceTo_117 : sm_D prog_6_method_8_code 117 2 119 (.iload 5) := ⟨by decide +kernel, rfl⟩
set_option maxRecDepth 100000 in
theorem ii_tr_distanceTo_119 : sm_D prog_6_method_8_code 119 2 121 (.iload 6) := ⟨by decide +kernel, rfl⟩
set_option maxRecDepth 100000 in
theorem ii_tr_distanceTo_121 : sm_D prog_6_method_8_code 121 1 122 (.iconst 1) := ⟨by decide +kernel, rfl⟩
set_option maxRecDepth 100000 in
theorem ii_tr_distanceTo_122 : sm_D prog_6_method_8_code 122 1 123 (.aload_n 0) := ⟨by decide +kernel, rfl⟩
set_option maxRecDepth 100000 in
theorem ii_tr_distanceTo_123 : sm_D prog_6_method_8_code 123 3 126 (.getfield 22) := ⟨by decide +kernel, rfl⟩
set_option maxRecDepth 100000 in
theorem ii_tr_distanceTo_126 : sm_D prog_6_method_8_code 126 2 128 (.iload 5) := ⟨by decide +kernel, rfl⟩
set_option maxRecDepth 100000 in
theorem ii_tr_distanceTo_128 : sm_D prog_6_method_8_code 128 1 129 (.iaload) := ⟨by decide +kernel, rfl⟩
set_option maxRecDepth 100000 in
theorem ii_tr_distanceTo_129 : sm_D prog_6_method_8_code 129 1 130 (.aload_n 0) := ⟨by decide +kernel, rfl⟩
set_option maxRecDepth 100000 in
theorem ii_tr_distanceTo_130 : sm_D prog_6_method_8_code 130 3 133 (.getfield 22) := ⟨by decide +kernel, rfl⟩
set_option maxRecDepth 100000 in
theorem ii_tr_distanceTo_133 : sm_D prog_6_method_8_code 133 2 135 (.iload 5) := ⟨by decide +kernel, rfl⟩
set_option maxRecDepth 100000 in
theorem ii_tr_distanceTo_135 : sm_D prog_6_method_8_code 135 1 136 (.iconst 1) := ⟨by decide +kernel, rfl⟩
set_option maxRecDepth 100000 in
theorem ii_tr_distanceTo_136 : sm_D prog_6_method_8_code 136 1 137 (.isub) := ⟨by decide +kernel, rfl⟩
set_option maxRecDepth 100000 in
theorem ii_tr_distanceTo_137 : sm_D prog_6_method_8_code 137 1 138 (.iaload) := ⟨by decide +kernel, rfl⟩
set_option maxRecDepth 100000 in
theorem ii_tr_distanceTo_138 : sm_D prog_6_method_8_code 138 3 141 (.invokestatic 74) := ⟨by decide +kernel, rfl⟩
set_option maxRecDepth 100000 in
theorem ii_tr_distanceTo_141 : sm_D prog_6_method_8_code 141 1 142 (.iadd) := ⟨by decide +kernel, rfl⟩
set_option maxRecDepth 100000 in
theorem ii_tr_distanceTo_142 : sm_D prog_6_method_8_code 142 3 145 (.invokestatic 74) := ⟨by decide +kernel, rfl⟩
set_option maxRecDepth 100000 in
theorem ii_tr_distanceTo_145 : sm_D prog_6_method_8_code 145 1 146 (.iastore) := ⟨by decide +kernel, rfl⟩
set_option maxRecDepth 100000 in
theorem ii_tr_distanceTo_146 : sm_D prog_6_method_8_code 146 3 149 (.iinc 5 1) := ⟨by decide +kernel, rfl⟩
set_option maxRecDepth 100000 in
theorem ii_tr_distanceTo_149 : sm_D prog_6_method_8_code 149 3 152 (.goto (-82)) := ⟨by decide +kernel, rfl⟩
set_option maxRecDepth 100000 in
theorem ii_tr_distanceTo_152 : sm_D prog_6_method_8_code 152 3 155 (.iinc 3 1) := ⟨by decide +kernel, rfl⟩
set_option maxRecDepth 100000 in
theorem ii_tr_distanceTo_155 : sm_D prog_6_method_8_code 155 3 158 (.goto (-119)) := ⟨by decide +kernel, rfl⟩
set_option maxRecDepth 100000 in
theorem ii_tr_distanceTo_158 : sm_D prog_6_method_8_code 158 1 159 (.aload_n 0) := ⟨by decide +kernel, rfl⟩
set_option maxRecDepth 100000 in
theorem ii_tr_distanceTo_159 : sm_D prog_6_method_8_code 159 3 162 (.getfield 22) := ⟨by decide +kernel, rfl⟩
set_option maxRecDepth 100000 in
theorem ii_tr_distanceTo_162 : sm_D prog_6_method_8_code 162 1 163 (.iload_n 2) := ⟨by decide +kernel, rfl⟩
set_option maxRecDepth 100000 in
theorem ii_tr_distanceTo_163 : sm_D prog_6_method_8_code 163 1 164 (.iaload) := ⟨by decide +kernel, rfl⟩
set_option maxRecDepth 100000 in
theorem ii_tr_distanceTo_164 : sm_D prog_6_method_8_code 164 1 165 (.ireturn) := ⟨by decide +kernel, rfl⟩
noncomputable def ff_tr_distanceTo_101 (self36 : Nat → Int32 → Int32 → sm_Mem → sm_R) (self67 : Nat → Int32 → Int32 → Int32 → Int32 → sm_Mem → sm_R) (a1 : Nat) (a2 : Int32) (a3 : Int32) (a5 : Int32) (b0 : Int32) (b1 : Int32) (w : sm_Mem) : sm_R := (Option.bind (sm_rd w 59 9 a5) fun x1 => (Option.bind (sm_rd w 59 9 a5) fun x2 => (Option.bind (sm_rd w 59 9 (a5 - (1 : Int32))) fun x3 => (Option.bind (sm_wr w 59 9 a5 (if ((1 : Int32) + (if x3 < x2 then x3 else x2)) < (b0 + b1) then ((1 : Int32) + (if x3 < x2 then x3 else x2)) else (b0 + b1))) fun w4 => self67 (a1) (a2) (a3) (x1) ((a5 + (1 : Int32))) w4))))
set_option maxHeartbeats 4000000 in
set_option maxRecDepth 100000 in
theorem ss_tr_distanceTo_101 {E : Nat × (Nat → Int32)} (self36 : Nat → Int32 → Int32 → sm_Mem → sm_R) (hself36 : ∀ (a1 : Nat) (a2 : Int32) (a3 : Int32) (w : sm_Mem), sm_Sim E (mi_tr_distanceTo) 36 [some (.ref 56), some (.ref a1), some (.int a2), some (.int a3), none, none, none] [] w (self36 a1 a2 a3 w)) (self67 : Nat → Int32 → Int32 → Int32 → Int32 → sm_Mem → sm_R) (hself67 : ∀ (a1 : Nat) (a2 : Int32) (a3 : Int32) (a4 : Int32) (a5 : Int32) (w : sm_Mem), sm_Sim E (mi_tr_distanceTo) 67 [some (.ref 56), some (.ref a1), some (.int a2), some (.int a3), some (.int a4), some (.int a5), none] [] w (self67 a1 a2 a3 a4 a5 w)) (a1 : Nat) (a2 : Int32) (a3 : Int32) (a5 : Int32) (b0 : Int32) (b1 : Int32) (w : sm_Mem) : sm_Sim E (mi_tr_distanceTo) 101 [some (.ref 56), some (.ref a1), some (.int a2), some (.int a3), none, some (.int a5), none] [.int b1, .int b0] w (ff_tr_distanceTo_101 self36 self67 a1 a2 a3 a5 b0 b1 w) := by
  unfold ff_tr_distanceTo_101
  refine sm_iadd ii_tr_distanceTo_101 ?_
  refine sm_istore [some (.ref 56), some (.ref a1), some (.int a2), some (.int a3), none, some (.int a5), some (.int (b0 + b1))] ii_tr_distanceTo_102 rfl rfl ?_
  refine sm_aload_n ii_tr_distanceTo_104 rfl ?_
  refine sm_getR 59 ii_tr_distanceTo_105 fl_tr_22 (k := 56) rfl ?_
  refine sm_iload ii_tr_distanceTo_108 rfl ?_
  refine sm_iald ii_tr_distanceTo_110 (k := 59) rfl (fun x1 => ?_)
  refine sm_istore [some (.ref 56), some (.ref a1), some (.int a2), some (.int a3), some (.int x1), some (.int a5), some (.int (b0 + b1))] ii_tr_distanceTo_111 rfl rfl ?_
  refine sm_aload_n ii_tr_distanceTo_113 rfl ?_
  refine sm_getR 59 ii_tr_distanceTo_114 fl_tr_22 (k := 56) rfl ?_
  refine sm_iload ii_tr_distanceTo_117 rfl ?_
  refine sm_iload ii_tr_distanceTo_119 rfl ?_
  refine sm_iconst (1 : Int32) ii_tr_distanceTo_121 (by decide) ?_
  refine sm_aload_n ii_tr_distanceTo_122 rfl ?_
  refine sm_getR 59 ii_tr_distanceTo_123 fl_tr_22 (k := 56) rfl ?_
  refine sm_iload ii_tr_distanceTo_126 rfl ?_
  refine sm_iald ii_tr_distanceTo_128 (k := 59) rfl (fun x2 => ?_)
  refine sm_aload_n ii_tr_distanceTo_129 rfl ?_
  refine sm_getR 59 ii_tr_distanceTo_130 fl_tr_22 (k := 56) rfl ?_
  refine sm_iload ii_tr_distanceTo_133 rfl ?_
  refine sm_iconst (1 : Int32) ii_tr_distanceTo_135 (by decide) ?_
  refine sm_isub ii_tr_distanceTo_136 ?_
  refine sm_iald ii_tr_distanceTo_137 (k := 59) rfl (fun x3 => ?_)
  refine sm_mmin ii_tr_distanceTo_138 mq_tr_74 mq_st_min mq_in mq_co_min (by decide) rfl ?_
  refine sm_iadd ii_tr_distanceTo_141 ?_
  refine sm_mmin ii_tr_distanceTo_142 mq_tr_74 mq_st_min mq_in mq_co_min (by decide) rfl ?_
  refine sm_iast ii_tr_distanceTo_145 (k := 59) rfl (fun w4 => ?_)
  refine sm_iinc (a5 + (1 : Int32)) [some (.ref 56), some (.ref a1), some (.int a2), some (.int a3), some (.int x1), some (.int (a5 + (1 : Int32))), some (.int (b0 + b1))] ii_tr_distanceTo_146 rfl rfl rfl rfl ?_
  refine sm_goto 67 ii_tr_distanceTo_149 (by decide) ?_
  refine sm_msk [true, true, true, true, true, true, false] [some (.ref 56), some (.ref a1), some (.int a2), some (.int a3), some (.int x1), some (.int (a5 + (1 : Int32))), none] rfl ?_
  exact hself67 (a1) (a2) (a3) (x1) ((a5 + (1 : Int32))) w4
noncomputable def ff_tr_distanceTo_67_b (self36 : Nat → Int32 → Int32 → sm_Mem → sm_R) (self67 : Nat → Int32 → Int32 → Int32 → Int32 → sm_Mem → sm_R) (a1 : Nat) (a2 : Int32) (a3 : Int32) (a4 : Int32) (a5 : Int32) (w : sm_Mem) : sm_R := (if a2 < a5 then self36 (a1) (a2) ((a3 + (1 : Int32))) w else (Option.bind (sm_rd w 43 8 a3) fun x5 => (Option.bind (sm_fk a1 2 0 2) fun r6 => (Option.bind (sm_rds w r6 (a5 - (1 : Int32))) fun x7 => (if x5 = x7 then ff_tr_distanceTo_101 self36 self67 (a1) (a2) (a3) (a5) (a4) ((0 : Int32)) w else ff_tr_distanceTo_101 self36 self67 (a1) (a2) (a3) (a5) (a4) ((1 : Int32)) w)))))
noncomputable def ff_tr_distanceTo_67_f (self36 : Nat → Int32 → Int32 → sm_Mem → sm_R) : Nat → Nat → Int32 → Int32 → Int32 → Int32 → sm_Mem → sm_R
  | 0, _, _, _, _, _, _ => none
  | n + 1, a1, a2, a3, a4, a5, w => ff_tr_distanceTo_67_b self36 (ff_tr_distanceTo_67_f self36 n) a1 a2 a3 a4 a5 w
noncomputable def ff_tr_distanceTo_67 (self36 : Nat → Int32 → Int32 → sm_Mem → sm_R) (a1 : Nat) (a2 : Int32) (a3 : Int32) (a4 : Int32) (a5 : Int32) (w : sm_Mem) : sm_R := ff_tr_distanceTo_67_f self36 sm_N a1 a2 a3 a4 a5 w
set_option maxHeartbeats 4000000 in
set_option maxRecDepth 100000 in
theorem ss_tr_distanceTo_67_b {E : Nat × (Nat → Int32)} (self36 : Nat → Int32 → Int32 → sm_Mem → sm_R) (hself36 : ∀ (a1 : Nat) (a2 : Int32) (a3 : Int32) (w : sm_Mem), sm_Sim E (mi_tr_distanceTo) 36 [some (.ref 56), some (.ref a1), some (.int a2), some (.int a3), none, none, none] [] w (self36 a1 a2 a3 w)) (self67 : Nat → Int32 → Int32 → Int32 → Int32 → sm_Mem → sm_R) (hself67 : ∀ (a1 : Nat) (a2 : Int32) (a3 : Int32) (a4 : Int32) (a5 : Int32) (w : sm_Mem), sm_Sim E (mi_tr_distanceTo) 67 [some (.ref 56), some (.ref a1), some (.int a2), some (.int a3), some (.int a4), some (.int a5), none] [] w (self67 a1 a2 a3 a4 a5 w)) (a1 : Nat) (a2 : Int32) (a3 : Int32) (a4 : Int32) (a5 : Int32) (w : sm_Mem) : sm_Sim E (mi_tr_distanceTo) 67 [some (.ref 56), some (.ref a1), some (.int a2), some (.int a3), some (.int a4), some (.int a5), none] [] w (ff_tr_distanceTo_67_b self36 self67 a1 a2 a3 a4 a5 w) := by
  unfold ff_tr_distanceTo_67_b
  refine sm_iload ii_tr_distanceTo_67 rfl ?_
  refine sm_iload_n ii_tr_distanceTo_69 rfl ?_
  refine sm_icmp_gt 152 ii_tr_distanceTo_70 (by decide) ?_ ?_
  · refine sm_iinc (a3 + (1 : Int32)) [some (.ref 56), some (.ref a1), some (.int a2), some (.int (a3 + (1 : Int32))), some (.int a4), some (.int a5), none] ii_tr_distanceTo_152 rfl rfl rfl rfl ?_
    refine sm_goto 36 ii_tr_distanceTo_155 (by decide) ?_
    refine sm_msk [true, true, true, true, false, false, false] [some (.ref 56), some (.ref a1), some (.int a2), some (.int (a3 + (1 : Int32))), none, none, none] rfl ?_
    exact hself36 (a1) (a2) ((a3 + (1 : Int32))) w
  · refine sm_iload ii_tr_distanceTo_73 rfl ?_
    refine sm_aload_n ii_tr_distanceTo_75 rfl ?_
    refine sm_getR 36 ii_tr_distanceTo_76 fl_tr_9 (k := 56) rfl ?_
    refine sm_getR 43 ii_tr_distanceTo_79 fl_tr_78 (k := 36) rfl ?_
    refine sm_iload_n ii_tr_distanceTo_82 rfl ?_
    refine sm_iald ii_tr_distanceTo_83 (k := 43) rfl (fun x5 => ?_)
    refine sm_aload_n ii_tr_distanceTo_84 rfl ?_
    refine sm_getRs ii_tr_distanceTo_85 fl_tr_81 (fun r6 => ?_)
    refine sm_iload ii_tr_distanceTo_88 rfl ?_
    refine sm_iconst (1 : Int32) ii_tr_distanceTo_90 (by decide) ?_
    refine sm_isub ii_tr_distanceTo_91 ?_
    refine sm_ialds ii_tr_distanceTo_92 (fun x7 => ?_)
    refine sm_icmp_ne 100 ii_tr_distanceTo_93 (by decide) ?_ ?_
    · refine sm_iconst (0 : Int32) ii_tr_distanceTo_96 (by decide) ?_
      refine sm_goto 101 ii_tr_distanceTo_97 (by decide) ?_
      refine sm_msk [true, true, true, true, false, true, false] [some (.ref 56), some (.ref a1), some (.int a2), some (.int a3), none, some (.int a5), none] rfl ?_
      exact ss_tr_distanceTo_101 self36 hself36 self67 hself67 (a1) (a2) (a3) (a5) (a4) ((0 : Int32)) w
    · refine sm_iconst (1 : Int32) ii_tr_distanceTo_100 (by decide) ?_
      refine sm_msk [true, true, true, true, false, true, false] [some (.ref 56), some (.ref a1), some (.int a2), some (.int a3), none, some (.int a5), none] rfl ?_
      exact ss_tr_distanceTo_101 self36 hself36 self67 hself67 (a1) (a2) (a3) (a5) (a4) ((1 : Int32)) w
set_option maxHeartbeats 4000000 in
set_option maxRecDepth 100000 in
theorem ss_tr_distanceTo_67_f {E : Nat × (Nat → Int32)} (self36 : Nat → Int32 → Int32 → sm_Mem → sm_R) (hself36 : ∀ (a1 : Nat) (a2 : Int32) (a3 : Int32) (w : sm_Mem), sm_Sim E (mi_tr_distanceTo) 36 [some (.ref 56), some (.ref a1), some (.int a2), some (.int a3), none, none, none] [] w (self36 a1 a2 a3 w)) : ∀ (n : Nat) (a1 : Nat) (a2 : Int32) (a3 : Int32) (a4 : Int32) (a5 : Int32) (w : sm_Mem), sm_Sim E (mi_tr_distanceTo) 67 [some (.ref 56), some (.ref a1), some (.int a2), some (.int a3), some (.int a4), some (.int a5), none] [] w (ff_tr_distanceTo_67_f self36 n a1 a2 a3 a4 a5 w)
  | 0, _, _, _, _, _, _ => fun _ _ h => by cases h
  | n + 1, a1, a2, a3, a4, a5, w => ss_tr_distanceTo_67_b self36 hself36 _ (ss_tr_distanceTo_67_f self36 hself36 n) a1 a2 a3 a4 a5 w
set_option maxHeartbeats 4000000 in
set_option maxRecDepth 100000 in
theorem ss_tr_distanceTo_67 {E : Nat × (Nat → Int32)} (self36 : Nat → Int32 → Int32 → sm_Mem → sm_R) (hself36 : ∀ (a1 : Nat) (a2 : Int32) (a3 : Int32) (w : sm_Mem), sm_Sim E (mi_tr_distanceTo) 36 [some (.ref 56), some (.ref a1), some (.int a2), some (.int a3), none, none, none] [] w (self36 a1 a2 a3 w)) (a1 : Nat) (a2 : Int32) (a3 : Int32) (a4 : Int32) (a5 : Int32) (w : sm_Mem) : sm_Sim E (mi_tr_distanceTo) 67 [some (.ref 56), some (.ref a1), some (.int a2), some (.int a3), some (.int a4), some (.int a5), none] [] w (ff_tr_distanceTo_67 self36 a1 a2 a3 a4 a5 w) := ss_tr_distanceTo_67_f self36 hself36 sm_N a1 a2 a3 a4 a5 w
noncomputable def ff_tr_distanceTo_36_b  (self36 : Nat → Int32 → Int32 → sm_Mem → sm_R) (a1 : Nat) (a2 : Int32) (a3 : Int32) (w : sm_Mem) : sm_R := (if (w.1 36 11) ≤ a3 then (Option.bind (sm_rd w 59 9 a2) fun x8 => (some (.int x8, w))) else (Option.bind (sm_rd w 59 9 (0 : Int32)) fun x9 => (Option.bind (sm_wr w 59 9 (0 : Int32) (a3 + (1 : Int32))) fun w10 => ff_tr_distanceTo_67 self36 (a1) (a2) (a3) (x9) ((1 : Int32)) w10)))
noncomputable def ff_tr_distanceTo_36_f  : Nat → Nat → Int32 → Int32 → sm_Mem → sm_R
  | 0, _, _, _, _ => none
  | n + 1, a1, a2, a3, w => ff_tr_distanceTo_36_b  (ff_tr_distanceTo_36_f  n) a1 a2 a3 w
noncomputable def ff_tr_distanceTo_36  (a1 : Nat) (a2 : Int32) (a3 : Int32) (w : sm_Mem) : sm_R := ff_tr_distanceTo_36_f  sm_N a1 a2 a3 w
set_option maxHeartbeats 4000000 in
set_option maxRecDepth 100000 in
theorem ss_tr_distanceTo_36_b {E : Nat × (Nat → Int32)}  (self36 : Nat → Int32 → Int32 → sm_Mem → sm_R) (hself36 : ∀ (a1 : Nat) (a2 : Int32) (a3 : Int32) (w : sm_Mem), sm_Sim E (mi_tr_distanceTo) 36 [some (.ref 56), some (.ref a1), some (.int a2), some (.int a3), none, none, none] [] w (self36 a1 a2 a3 w)) (a1 : Nat) (a2 : Int32) (a3 : Int32) (w : sm_Mem) : sm_Sim E (mi_tr_distanceTo) 36 [some (.ref 56), some (.ref a1), some (.int a2), some (.int a3), none, none, none] [] w (ff_tr_distanceTo_36_b  self36 a1 a2 a3 w) := by
  unfold ff_tr_distanceTo_36_b
  refine sm_iload_n ii_tr_distanceTo_36 rfl ?_
  refine sm_aload_n ii_tr_distanceTo_37 rfl ?_
  refine sm_getR 36 ii_tr_distanceTo_38 fl_tr_9 (k := 56) rfl ?_
  refine sm_getI ii_tr_distanceTo_41 fl_tr_77 (k := 36) rfl ?_
  refine sm_icmp_ge 158 ii_tr_distanceTo_44 (by decide) ?_ ?_
  · refine sm_aload_n ii_tr_distanceTo_158 rfl ?_
    refine sm_getR 59 ii_tr_distanceTo_159 fl_tr_22 (k := 56) rfl ?_
    refine sm_iload_n ii_tr_distanceTo_162 rfl ?_
    refine sm_iald ii_tr_distanceTo_163 (k := 59) rfl (fun x8 => ?_)
    exact sm_iret ii_tr_distanceTo_164 rfl
  · refine sm_aload_n ii_tr_distanceTo_47 rfl ?_
    refine sm_getR 59 ii_tr_distanceTo_48 fl_tr_22 (k := 56) rfl ?_
    refine sm_iconst (0 : Int32) ii_tr_distanceTo_51 (by decide) ?_
    refine sm_iald ii_tr_distanceTo_52 (k := 59) rfl (fun x9 => ?_)
    refine sm_istore [some (.ref 56), some (.ref a1), some (.int a2), some (.int a3), some (.int x9), none, none] ii_tr_distanceTo_53 rfl rfl ?_
    refine sm_aload_n ii_tr_distanceTo_55 rfl ?_
    refine sm_getR 59 ii_tr_distanceTo_56 fl_tr_22 (k := 56) rfl ?_
    refine sm_iconst (0 : Int32) ii_tr_distanceTo_59 (by decide) ?_
    refine sm_iload_n ii_tr_distanceTo_60 rfl ?_
    refine sm_iconst (1 : Int32) ii_tr_distanceTo_61 (by decide) ?_
    refine sm_iadd ii_tr_distanceTo_62 ?_
    refine sm_iast ii_tr_distanceTo_63 (k := 59) rfl (fun w10 => ?_)
    refine sm_iconst (1 : Int32) ii_tr_distanceTo_64 (by decide) ?_
    refine sm_istore [some (.ref 56), some (.ref a1), some (.int a2), some (.int a3), some (.int x9), some (.int (1 : Int32)), none] ii_tr_distanceTo_65 rfl rfl ?_
    exact ss_tr_distanceTo_67 self36 hself36 (a1) (a2) (a3) (x9) ((1 : Int32)) w10
set_option maxHeartbeats 4000000 in
set_option maxRecDepth 100000 in
theorem ss_tr_distanceTo_36_f {E : Nat × (Nat → Int32)}  : ∀ (n : Nat) (a1 : Nat) (a2 : Int32) (a3 : Int32) (w : sm_Mem), sm_Sim E (mi_tr_distanceTo) 36 [some (.ref 56), some (.ref a1), some (.int a2), some (.int a3), none, none, none] [] w (ff_tr_distanceTo_36_f  n a1 a2 a3 w)
  | 0, _, _, _, _ => fun _ _ h => by cases h
  | n + 1, a1, a2, a3, w => ss_tr_distanceTo_36_b  _ (ss_tr_distanceTo_36_f  n) a1 a2 a3 w
set_option maxHeartbeats 4000000 in
set_option maxRecDepth 100000 in
theorem ss_tr_distanceTo_36 {E : Nat × (Nat → Int32)}  (a1 : Nat) (a2 : Int32) (a3 : Int32) (w : sm_Mem) : sm_Sim E (mi_tr_distanceTo) 36 [some (.ref 56), some (.ref a1), some (.int a2), some (.int a3), none, none, none] [] w (ff_tr_distanceTo_36  a1 a2 a3 w) := ss_tr_distanceTo_36_f  sm_N a1 a2 a3 w
noncomputable def ff_tr_distanceTo_16_b  (self16 : Nat → Int32 → Int32 → sm_Mem → sm_R) (a1 : Nat) (a2 : Int32) (a3 : Int32) (w : sm_Mem) : sm_R := (if a2 < a3 then ff_tr_distanceTo_36 (a1) (a2) ((0 : Int32)) w else (Option.bind (sm_wr w 59 9 a3 a3) fun w11 => self16 (a1) (a2) ((a3 + (1 : Int32))) w11))
noncomputable def ff_tr_distanceTo_16_f  : Nat → Nat → Int32 → Int32 → sm_Mem → sm_R
  | 0, _, _, _, _ => none
  | n + 1, a1, a2, a3, w => ff_tr_distanceTo_16_b  (ff_tr_distanceTo_16_f  n) a1 a2 a3 w
noncomputable def ff_tr_distanceTo_16  (a1 : Nat) (a2 : Int32) (a3 : Int32) (w : sm_Mem) : sm_R := ff_tr_distanceTo_16_f  sm_N a1 a2 a3 w
set_option maxHeartbeats 4000000 in
set_option maxRecDepth 100000 in
theorem ss_tr_distanceTo_16_b {E : Nat × (Nat → Int32)}  (self16 : Nat → Int32 → Int32 → sm_Mem → sm_R) (hself16 : ∀ (a1 : Nat) (a2 : Int32) (a3 : Int32) (w : sm_Mem), sm_Sim E (mi_tr_distanceTo) 16 [some (.ref 56), some (.ref a1), some (.int a2), some (.int a3), none, none, none] [] w (self16 a1 a2 a3 w)) (a1 : Nat) (a2 : Int32) (a3 : Int32) (w : sm_Mem) : sm_Sim E (mi_tr_distanceTo) 16 [some (.ref 56), some (.ref a1), some (.int a2), some (.int a3), none, none, none] [] w (ff_tr_distanceTo_16_b  self16 a1 a2 a3 w) := by
  unfold ff_tr_distanceTo_16_b
  refine sm_iload_n ii_tr_distanceTo_16 rfl ?_
  refine sm_iload_n ii_tr_distanceTo_17 rfl ?_
  refine sm_icmp_gt 34 ii_tr_distanceTo_18 (by decide) ?_ ?_
  · refine sm_iconst (0 : Int32) ii_tr_distanceTo_34 (by decide) ?_
    refine sm_istore_n [some (.ref 56), some (.ref a1), some (.int a2), some (.int (0 : Int32)), none, none, none] ii_tr_distanceTo_35 rfl rfl ?_
    exact ss_tr_distanceTo_36 (a1) (a2) ((0 : Int32)) w
  · refine sm_aload_n ii_tr_distanceTo_21 rfl ?_
    refine sm_getR 59 ii_tr_distanceTo_22 fl_tr_22 (k := 56) rfl ?_
    refine sm_iload_n ii_tr_distanceTo_25 rfl ?_
    refine sm_iload_n ii_tr_distanceTo_26 rfl ?_
    refine sm_iast ii_tr_distanceTo_27 (k := 59) rfl (fun w11 => ?_)
    refine sm_iinc (a3 + (1 : Int32)) [some (.ref 56), some (.ref a1), some (.int a2), some (.int (a3 + (1 : Int32))), none, none, none] ii_tr_distanceTo_28 rfl rfl rfl rfl ?_
    refine sm_goto 16 ii_tr_distanceTo_31 (by decide) ?_
    exact hself16 (a1) (a2) ((a3 + (1 : Int32))) w11
set_option maxHeartbeats 4000000 in
set_option maxRecDepth 100000 in
theorem ss_tr_distanceTo_16_f {E : Nat × (Nat → Int32)}  : ∀ (n : Nat) (a1 : Nat) (a2 : Int32) (a3 : Int32) (w : sm_Mem), sm_Sim E (mi_tr_distanceTo) 16 [some (.ref 56), some (.ref a1), some (.int a2), some (.int a3), none, none, none] [] w (ff_tr_distanceTo_16_f  n a1 a2 a3 w)
  | 0, _, _, _, _ => fun _ _ h => by cases h
  | n + 1, a1, a2, a3, w => ss_tr_distanceTo_16_b  _ (ss_tr_distanceTo_16_f  n) a1 a2 a3 w
set_option maxHeartbeats 4000000 in
set_option maxRecDepth 100000 in
theorem ss_tr_distanceTo_16 {E : Nat × (Nat → Int32)}  (a1 : Nat) (a2 : Int32) (a3 : Int32) (w : sm_Mem) : sm_Sim E (mi_tr_distanceTo) 16 [some (.ref 56), some (.ref a1), some (.int a2), some (.int a3), none, none, none] [] w (ff_tr_distanceTo_16  a1 a2 a3 w) := ss_tr_distanceTo_16_f  sm_N a1 a2 a3 w
noncomputable def ff_tr_distanceTo  (a1 : Nat) (w : sm_Mem) : sm_R := (Option.bind (sm_gI w a1 2 1) fun x12 => ff_tr_distanceTo_16 (a1) ((if (0 : Int32) < (if (8 : Int32) < x12 then (8 : Int32) else x12) then (if (8 : Int32) < x12 then (8 : Int32) else x12) else (0 : Int32))) ((0 : Int32)) w)
set_option maxHeartbeats 4000000 in
set_option maxRecDepth 100000 in
theorem ss_tr_distanceTo_0 {E : Nat × (Nat → Int32)}  (a1 : Nat) (w : sm_Mem) : sm_Sim E (mi_tr_distanceTo) 0 [some (.ref 56), some (.ref a1), none, none, none, none, none] [] w (ff_tr_distanceTo  a1 w) := by
  unfold ff_tr_distanceTo
  refine sm_iconst (0 : Int32) ii_tr_distanceTo_0 (by decide) ?_
  refine sm_aload_n ii_tr_distanceTo_1 rfl ?_
  refine sm_getIs ii_tr_distanceTo_2 fl_tr_69 (fun x12 => ?_)
  refine sm_bipush (8 : Int32) ii_tr_distanceTo_5 (by decide) ?_
  refine sm_mmin ii_tr_distanceTo_7 mq_tr_74 mq_st_min mq_in mq_co_min (by decide) rfl ?_
  refine sm_mmax ii_tr_distanceTo_10 mq_tr_59 mq_st_max mq_in mq_co_max (by decide) rfl ?_
  refine sm_istore_n [some (.ref 56), some (.ref a1), some (.int (if (0 : Int32) < (if (8 : Int32) < x12 then (8 : Int32) else x12) then (if (8 : Int32) < x12 then (8 : Int32) else x12) else (0 : Int32))), none, none, none, none] ii_tr_distanceTo_13 rfl rfl ?_
  refine sm_iconst (0 : Int32) ii_tr_distanceTo_14 (by decide) ?_
  refine sm_istore_n [some (.ref 56), some (.ref a1), some (.int (if (0 : Int32) < (if (8 : Int32) < x12 then (8 : Int32) else x12) then (if (8 : Int32) < x12 then (8 : Int32) else x12) else (0 : Int32))), some (.int (0 : Int32)), none, none, none] ii_tr_distanceTo_15 rfl rfl ?_
  exact ss_tr_distanceTo_16 (a1) ((if (0 : Int32) < (if (8 : Int32) < x12 then (8 : Int32) else x12) then (if (8 : Int32) < x12 then (8 : Int32) else x12) else (0 : Int32))) ((0 : Int32)) w
set_option maxHeartbeats 4000000 in
set_option maxRecDepth 100000 in
theorem mc_tr_distanceTo {E : Nat × (Nat → Int32)} (a1 : Nat) (w : sm_Mem) : sm_MC E mi_tr_distanceTo [.ref 56, .ref a1] w (ff_tr_distanceTo a1 w) := sm_MC_of E (by decide +kernel) rfl (Nat.le_of_ble_eq_true rfl) (ss_tr_distanceTo_0 a1 w)
abbrev mi_ho_off : sm_MI := (⟨"HerOrders", "off", "(I)I"⟩, prog_1_method_34_code, 3, (some .int), 4)
set_option maxRecDepth 100000 in
theorem mf_ho_off : sm_MF mi_ho_off 1 := ⟨List.mem_of_getElem? (i := 678) (by decide +kernel), List.mem_of_getElem? (i := 69) (by decide +kernel), ⟨by decide, by decide⟩, by decide +kernel⟩
set_option maxRecDepth 100000 in
theorem mv_ho_off : sm_MFV mi_ho_off := ⟨List.mem_of_getElem? (i := 676) (by decide +kernel), List.mem_of_getElem? (i := 677) (by decide +kernel)⟩
set_option maxRecDepth 100000 in
theorem ii_ho_off_0 : sm_D prog_1_method_34_code 0 1 1 (.aload_n 0) := ⟨by decide +kernel, rfl⟩
set_option maxRecDepth 100000 in
theorem ii_ho_off_1 : sm_D prog_1_method_34_code 1 1 2 (.iload_n 1) := ⟨by decide +kernel, rfl⟩
set_option maxRecDepth 100000 in
theorem ii_ho_off_2 : sm_D prog_1_method_34_code 2 2 4 (.bipush 8) := ⟨by decide +kernel, rfl⟩
set_option maxRecDepth 100000 in
theorem ii_ho_off_4 : sm_D prog_1_method_34_code 4 3 7 (.invokevirtual 192) := ⟨by decide +kernel, rfl⟩
set_option maxRecDepth 100000 in
theorem ii_ho_off_7 : sm_D prog_1_method_34_code 7 1 8 (.istore_n 2) := ⟨by decide +kernel, rfl⟩
set_option maxRecDepth 100000 in
theorem ii_ho_off_8 : sm_D prog_1_method_34_code 8 1 9 (.iload_n 2) := ⟨by decide +kernel, rfl⟩
set_option maxRecDepth 100000 in
theorem ii_ho_off_9 : sm_D prog_1_method_34_code 9 3 12 (.ifCond .eq 5) := ⟨by decide +kernel, rfl⟩
set_option maxRecDepth 100000 in
theorem ii_ho_off_12 : sm_D prog_1_method_34_code 12 1 13 (.iload_n 2) := ⟨by decide +kernel, rfl⟩
set_option maxRecDepth 100000 in
theorem ii_ho_off_13 : sm_D prog_1_method_34_code 13 1 14 (.ireturn) := ⟨by decide +kernel, rfl⟩
set_option maxRecDepth 100000 in
theorem ii_ho_off_14 : sm_D prog_1_method_34_code 14 1 15 (.aload_n 0) := ⟨by decide +kernel, rfl⟩
set_option maxRecDepth 100000 in
theorem ii_ho_off_15 : sm_D prog_1_method_34_code 15 3 18 (.getfield 47) := ⟨by decide +kernel, rfl⟩
set_option maxRecDepth 100000 in
theorem ii_ho_off_18 : sm_D prog_1_method_34_code 18 1 19 (.aload_n 0) := ⟨by decide +kernel, rfl⟩
set_option maxRecDepth 100000 in
theorem ii_ho_off_19 : sm_D prog_1_method_34_code 19 3 22 (.getfield 11) := ⟨by decide +kernel, rfl⟩
set_option maxRecDepth 100000 in
theorem ii_ho_off_22 : sm_D prog_1_method_34_code 22 1 23 (.iload_n 1) := ⟨by decide +kernel, rfl⟩
set_option maxRecDepth 100000 in
theorem ii_ho_off_23 : sm_D prog_1_method_34_code 23 1 24 (.aaload) := ⟨by decide +kernel, rfl⟩
set_option maxRecDepth 100000 in
theorem ii_ho_off_24 : sm_D prog_1_method_34_code 24 3 27 (.invokevirtual 275) := ⟨by decide +kernel, rfl⟩
set_option maxRecDepth 100000 in
theorem ii_ho_off_27 : sm_D prog_1_method_34_code 27 1 28 (.ireturn) := ⟨by decide +kernel, rfl⟩
noncomputable def ff_ho_off  (a1 : Int32) (w : sm_Mem) : sm_R := (sm_cI (ff_ho_refusalOfWords (a1) ((8 : Int32)) w) fun x1 w2 => (if x1 = (0 : Int32) then (Option.bind (sm_rr 1 a1) fun r3 => (sm_cI (ff_tr_distanceTo (r3) w2) fun x4 w5 => (some (.int x4, w5)))) else (some (.int x1, w2))))
set_option maxHeartbeats 4000000 in
set_option maxRecDepth 100000 in
theorem ss_ho_off_0 {E : Nat × (Nat → Int32)}  (a1 : Int32) (w : sm_Mem) : sm_Sim E (mi_ho_off) 0 [some (.ref 0), some (.int a1), none] [] w (ff_ho_off  a1 w) := by
  unfold ff_ho_off
  refine sm_aload_n ii_ho_off_0 rfl ?_
  refine sm_iload_n ii_ho_off_1 rfl ?_
  refine sm_bipush (8 : Int32) ii_ho_off_2 (by decide) ?_
  refine sm_cvI [.int a1, .int (8 : Int32)] [] rfl ii_ho_off_4 ml_ho_192 (mf_ho_refusalOfWords) (mv_ho_refusalOfWords) (Nat.le_of_ble_eq_true rfl) rfl 6 rfl rfl rfl rfl (mc_ho_refusalOfWords (a1) ((8 : Int32)) w) (fun x1 w2 => ?_)
  refine sm_istore_n [some (.ref 0), some (.int a1), some (.int x1)] ii_ho_off_7 rfl rfl ?_
  refine sm_iload_n ii_ho_off_8 rfl ?_
  refine sm_if_eq 14 ii_ho_off_9 (by decide) ?_ ?_
  · refine sm_aload_n ii_ho_off_14 rfl ?_
    refine sm_getR 56 ii_ho_off_15 fl_ho_47 (k := 0) rfl ?_
    refine sm_aload_n ii_ho_off_18 rfl ?_
    refine sm_getR 1 ii_ho_off_19 fl_ho_11 (k := 0) rfl ?_
    refine sm_iload_n ii_ho_off_22 rfl ?_
    refine sm_aald ii_ho_off_23 (fun r3 => ?_)
    refine sm_cvI [.ref r3] [] rfl ii_ho_off_24 ml_ho_275 (mf_tr_distanceTo) (mv_tr_distanceTo) (Nat.le_of_ble_eq_true rfl) rfl 4 rfl rfl rfl rfl (mc_tr_distanceTo (r3) w2) (fun x4 w5 => ?_)
    exact sm_iret ii_ho_off_27 rfl
  · refine sm_iload_n ii_ho_off_12 rfl ?_
    exact sm_iret ii_ho_off_13 rfl
set_option maxHeartbeats 4000000 in
set_option maxRecDepth 100000 in
theorem mc_ho_off {E : Nat × (Nat → Int32)} (a1 : Int32) (w : sm_Mem) : sm_MC E mi_ho_off [.ref 0, .int a1] w (ff_ho_off a1 w) := sm_MC_of E (by decide +kernel) rfl (Nat.le_of_ble_eq_true rfl) (ss_ho_off_0 a1 w)
abbrev mi_hs_isSilenced : sm_MI := (⟨"HerOrders$House", "isSilenced", "()Z"⟩, prog_3_method_19_code, 2, (some .boolean), 4)
set_option maxRecDepth 100000 in
theorem mf_hs_isSilenced : sm_MF mi_hs_isSilenced 0 := ⟨List.mem_of_getElem? (i := 694) (by decide +kernel), List.mem_of_getElem? (i := 73) (by decide +kernel), ⟨by decide, by decide⟩, by decide +kernel⟩
set_option maxRecDepth 100000 in
theorem mv_hs_isSilenced : sm_MFV mi_hs_isSilenced := ⟨List.mem_of_getElem? (i := 693) (by decide +kernel), List.mem_of_getElem? (i := 52) (by decide +kernel)⟩
set_option maxRecDepth 100000 in
theorem ii_hs_isSilenced_0 : sm_D prog_3_method_19_code 0 1 1 (.iconst 0) := ⟨by decide +kernel, rfl⟩
set_option maxRecDepth 100000 in
theorem ii_hs_isSilenced_1 : sm_D prog_3_method_19_code 1 1 2 (.istore_n 1) := ⟨by decide +kernel, rfl⟩
set_option maxRecDepth 100000 in
theorem ii_hs_isSilenced_2 : sm_D prog_3_method_19_code 2 1 3 (.iload_n 1) := ⟨by decide +kernel, rfl⟩
set_option maxRecDepth 100000 in
theorem ii_hs_isSilenced_3 : sm_D prog_3_method_19_code 3 1 4 (.aload_n 0) := ⟨by decide +kernel, rfl⟩
set_option maxRecDepth 100000 in
theorem ii_hs_isSilenced_4 : sm_D prog_3_method_19_code 4 3 7 (.getfield 45) := ⟨by decide +kernel, rfl⟩
set_option maxRecDepth 100000 in
theorem ii_hs_isSilenced_7 : sm_D prog_3_method_19_code 7 3 10 (.if_icmp .ge 19) := ⟨by decide +kernel, rfl⟩
set_option maxRecDepth 100000 in
theorem ii_hs_isSilenced_10 : sm_D prog_3_method_19_code 10 1 11 (.aload_n 0) := ⟨by decide +kernel, rfl⟩
set_option maxRecDepth 100000 in
theorem ii_hs_isSilenced_11 : sm_D prog_3_method_19_code 11 1 12 (.iload_n 1) := ⟨by decide +kernel, rfl⟩
set_option maxRecDepth 100000 in
theorem ii_hs_isSilenced_12 : sm_D prog_3_method_19_code 12 3 15 (.invokevirtual 126) := ⟨by decide +kernel, rfl⟩
set_option maxRecDepth 100000 in
theorem ii_hs_isSilenced_15 : sm_D prog_3_method_19_code 15 3 18 (.ifCond .eq 5) := ⟨by decide +kernel, rfl⟩
set_option maxRecDepth 100000 in
theorem ii_hs_isSilenced_18 : sm_D prog_3_method_19_code 18 1 19 (.iconst 0) := ⟨by decide +kernel, rfl⟩
set_option maxRecDepth 100000 in
theorem ii_hs_isSilenced_19 : sm_D prog_3_method_19_code 19 1 20 (.ireturn) := ⟨by decide +kernel, rfl⟩
set_option maxRecDepth 100000 in
theorem ii_hs_isSilenced_20 : sm_D prog_3_method_19_code 20 3 23 (.iinc 1 1) := ⟨by decide +kernel, rfl⟩
set_option maxRecDepth 100000 in
theorem ii_hs_isSilenced_23 : sm_D prog_3_method_19_code 23 3 26 (.goto (-21)) := ⟨by decide +kernel, rfl⟩
set_option maxRecDepth 100000 in
theorem ii_hs_isSilenced_26 : sm_D prog_3_method_19_code 26 1 27 (.iconst 1) := ⟨by decide +kernel, rfl⟩
set_option maxRecDepth 100000 in
theorem ii_hs_isSilenced_27 : sm_D prog_3_method_19_code 27 1 28 (.ireturn) := ⟨by decide +kernel, rfl⟩
noncomputable def ff_hs_isSilenced_2_b  (self2 : Int32 → sm_Mem → sm_R) (a1 : Int32) (w : sm_Mem) : sm_R := (if (w.1 36 0) ≤ a1 then (some (.int (1 : Int32), w)) else (sm_cI (ff_hs_sayable (a1) w) fun x1 w2 => (if x1 = (0 : Int32) then self2 ((a1 + (1 : Int32))) w2 else (some (.int (0 : Int32), w2)))))
noncomputable def ff_hs_isSilenced_2_f  : Nat → Int32 → sm_Mem → sm_R
  | 0, _, _ => none
  | n + 1, a1, w => ff_hs_isSilenced_2_b  (ff_hs_isSilenced_2_f  n) a1 w
noncomputable def ff_hs_isSilenced_2  (a1 : Int32) (w : sm_Mem) : sm_R := ff_hs_isSilenced_2_f  sm_N a1 w
set_option maxHeartbeats 4000000 in
set_option maxRecDepth 100000 in
theorem ss_hs_isSilenced_2_b {E : Nat × (Nat → Int32)}  (self2 : Int32 → sm_Mem → sm_R) (hself2 : ∀ (a1 : Int32) (w : sm_Mem), sm_Sim E (mi_hs_isSilenced) 2 [some (.ref 36), some (.int a1)] [] w (self2 a1 w)) (a1 : Int32) (w : sm_Mem) : sm_Sim E (mi_hs_isSilenced) 2 [some (.ref 36), some (.int a1)] [] w (ff_hs_isSilenced_2_b  self2 a1 w) := by
  unfold ff_hs_isSilenced_2_b
  refine sm_iload_n ii_hs_isSilenced_2 rfl ?_
  refine sm_aload_n ii_hs_isSilenced_3 rfl ?_
  refine sm_getI ii_hs_isSilenced_4 fl_hs_45 (k := 36) rfl ?_
  refine sm_icmp_ge 26 ii_hs_isSilenced_7 (by decide) ?_ ?_
  · refine sm_iconst (1 : Int32) ii_hs_isSilenced_26 (by decide) ?_
    exact sm_zret1 ii_hs_isSilenced_27 rfl (by decide)
  · refine sm_aload_n ii_hs_isSilenced_10 rfl ?_
    refine sm_iload_n ii_hs_isSilenced_11 rfl ?_
    refine sm_cvI [.int a1] [] rfl ii_hs_isSilenced_12 ml_hs_126 (mf_hs_sayable) (mv_hs_sayable) (Nat.le_of_ble_eq_true rfl) rfl 1 rfl rfl rfl rfl (mc_hs_sayable (a1) w) (fun x1 w2 => ?_)
    refine sm_if_eq 20 ii_hs_isSilenced_15 (by decide) ?_ ?_
    · refine sm_iinc (a1 + (1 : Int32)) [some (.ref 36), some (.int (a1 + (1 : Int32)))] ii_hs_isSilenced_20 rfl rfl rfl rfl ?_
      refine sm_goto 2 ii_hs_isSilenced_23 (by decide) ?_
      exact hself2 ((a1 + (1 : Int32))) w2
    · refine sm_iconst (0 : Int32) ii_hs_isSilenced_18 (by decide) ?_
      exact sm_zret1 ii_hs_isSilenced_19 rfl (by decide)
set_option maxHeartbeats 4000000 in
set_option maxRecDepth 100000 in
theorem ss_hs_isSilenced_2_f {E : Nat × (Nat → Int32)}  : ∀ (n : Nat) (a1 : Int32) (w : sm_Mem), sm_Sim E (mi_hs_isSilenced) 2 [some (.ref 36), some (.int a1)] [] w (ff_hs_isSilenced_2_f  n a1 w)
  | 0, _, _ => fun _ _ h => by cases h
  | n + 1, a1, w => ss_hs_isSilenced_2_b  _ (ss_hs_isSilenced_2_f  n) a1 w
set_option maxHeartbeats 4000000 in
set_option maxRecDepth 100000 in
theorem ss_hs_isSilenced_2 {E : Nat × (Nat → Int32)}  (a1 : Int32) (w : sm_Mem) : sm_Sim E (mi_hs_isSilenced) 2 [some (.ref 36), some (.int a1)] [] w (ff_hs_isSilenced_2  a1 w) := ss_hs_isSilenced_2_f  sm_N a1 w
noncomputable def ff_hs_isSilenced   (w : sm_Mem) : sm_R := ff_hs_isSilenced_2 ((0 : Int32)) w
set_option maxHeartbeats 4000000 in
set_option maxRecDepth 100000 in
theorem ss_hs_isSilenced_0 {E : Nat × (Nat → Int32)}   (w : sm_Mem) : sm_Sim E (mi_hs_isSilenced) 0 [some (.ref 36), none] [] w (ff_hs_isSilenced   w) := by
  unfold ff_hs_isSilenced
  refine sm_iconst (0 : Int32) ii_hs_isSilenced_0 (by decide) ?_
  refine sm_istore_n [some (.ref 36), some (.int (0 : Int32))] ii_hs_isSilenced_1 rfl rfl ?_
  exact ss_hs_isSilenced_2 ((0 : Int32)) w
set_option maxHeartbeats 4000000 in
set_option maxRecDepth 100000 in
theorem mc_hs_isSilenced {E : Nat × (Nat → Int32)}  (w : sm_Mem) : sm_MC E mi_hs_isSilenced [.ref 36] w (ff_hs_isSilenced  w) := sm_MC_of E (by decide +kernel) rfl (Nat.le_of_ble_eq_true rfl) (ss_hs_isSilenced_0  w)
abbrev mi_ho_outcome (k : Nat) : sm_MI := (⟨"HerOrders", "outcome", "(LHerOrders$House;I)I"⟩, prog_1_method_61_code, 6, (some .int), k)
set_option maxRecDepth 100000 in
theorem mf_ho_outcome_z : sm_MF (mi_ho_outcome 0) 2 := ⟨List.mem_of_getElem? (i := 690) (by decide +kernel), List.mem_of_getElem? (i := 69) (by decide +kernel), ⟨by decide, by decide⟩, by decide +kernel⟩
set_option maxRecDepth 100000 in
theorem mf_ho_outcome (k : Nat) : sm_MF (mi_ho_outcome k) 2 := mf_ho_outcome_z
set_option maxRecDepth 100000 in
theorem mv_ho_outcome_z : sm_MFS (mi_ho_outcome 0) := List.mem_of_getElem? (i := 689) (by decide +kernel)
set_option maxRecDepth 100000 in
theorem mv_ho_outcome (k : Nat) : sm_MFS (mi_ho_outcome k) := mv_ho_outcome_z
set_option maxRecDepth 100000 in
theorem ii_ho_outcome_0 : sm_D prog_1_method_61_code 0 1 1 (.iload_n 1) := ⟨by decide +kernel, rfl⟩
set_option maxRecDepth 100000 in
theorem ii_ho_outcome_1 : sm_D prog_1_method_61_code 1 3 4 (.ifCond .gt 6) := ⟨by decide +kernel, rfl⟩
set_option maxRecDepth 100000 in
theorem ii_ho_outcome_4 : sm_D prog_1_method_61_code 4 2 6 (.bipush (-9)) := ⟨by decide +kernel, rfl⟩
set_option maxRecDepth 100000 in
theorem ii_ho_outcome_6 : sm_D prog_1_method_61_code 6 1 7 (.ireturn) := ⟨by decide +kernel, rfl⟩
set_option maxRecDepth 100000 in
theorem ii_ho_outcome_7 : sm_D prog_1_method_61_code 7 1 8 (.iload_n 1) := ⟨by decide +kernel, rfl⟩
set_option maxRecDepth 100000 in
theorem ii_ho_outcome_8 : sm_D prog_1_method_61_code 8 1 9 (.iconst 1) := ⟨by decide +kernel, rfl⟩
set_option maxRecDepth 100000 in
theorem ii_ho_outcome_9 : sm_D prog_1_method_61_code 9 3 12 (.if_icmp .ne 17) := ⟨by decide +kernel, rfl⟩
set_option maxRecDepth 100000 in
theorem ii_ho_outcome_12 : sm_D prog_1_method_61_code 12 1 13 (.aload_n 0) := ⟨by decide +kernel, rfl⟩
set_option maxRecDepth 100000 in
theorem ii_ho_outcome_13 : sm_D prog_1_method_61_code 13 3 16 (.invokevirtual 359) := ⟨by decide +kernel, rfl⟩
set_option maxRecDepth 100000 in
theorem ii_ho_outcome_16 : sm_D prog_1_method_61_code 16 3 19 (.ifCond .eq 7) := ⟨by decide +kernel, rfl⟩
set_option maxRecDepth 100000 in
theorem ii_ho_outcome_19 : sm_D prog_1_method_61_code 19 1 20 (.iconst 1) := ⟨by decide +kernel, rfl⟩
set_option maxRecDepth 100000 in
theorem ii_ho_outcome_20 : sm_D prog_1_method_61_code 20 3 23 (.goto 5) := ⟨by decide +kernel, rfl⟩
set_option maxRecDepth 100000 in
theorem ii_ho_outcome_23 : sm_D prog_1_method_61_code 23 2 25 (.bipush (-9)) := ⟨by decide +kernel, rfl⟩
set_option maxRecDepth 100000 in
theorem ii_ho_outcome_25 : sm_D prog_1_method_61_code 25 1 26 (.ireturn) := ⟨by decide +kernel, rfl⟩
set_option maxRecDepth 100000 in
theorem ii_ho_outcome_26 : sm_D prog_1_method_61_code 26 1 27 (.iconst 1) := ⟨by decide +kernel, rfl⟩
set_option maxRecDepth 100000 in
theorem ii_ho_outcome_27 : sm_D prog_1_method_61_code 27 1 28 (.istore_n 2) := ⟨by decide +kernel, rfl⟩
set_option maxRecDepth 100000 in
theorem ii_ho_outcome_28 : sm_D prog_1_method_61_code 28 1 29 (.iconst 0) := ⟨by decide +kernel, rfl⟩
set_option maxRecDepth 100000 in
theorem ii_ho_outcome_29 : sm_D prog_1_method_61_code 29 1 30 (.istore_n 3) := ⟨by decide +kernel, rfl⟩
set_option maxRecDepth 100000 in
theorem ii_ho_outcome_30 : sm_D prog_1_method_61_code 30 1 31 (.iload_n 3) := ⟨by decide +kernel, rfl⟩
set_option maxRecDepth 100000 in
theorem ii_ho_outcome_31 : sm_D prog_1_method_61_code 31 1 32 (.aload_n 0) := ⟨by decide +kernel, rfl⟩
set_option maxRecDepth 100000 in
theorem ii_ho_outcome_32 : sm_D prog_1_method_61_code 32 3 35 (.getfield 115) := ⟨by decide +kernel, rfl⟩
set_option maxRecDepth 100000 in
theorem ii_ho_outcome_35 : sm_D prog_1_method_61_code 35 3 38 (.if_icmp .ge 73) := ⟨by decide +kernel, rfl⟩
set_option maxRecDepth 100000 in
theorem ii_ho_outcome_38 : sm_D prog_1_method_61_code 38 1 39 (.iconst 0) := ⟨by decide +kernel, rfl⟩
set_option maxRecDepth 100000 in
theorem ii_ho_outcome_39 : sm_D prog_1_method_61_code 39 2 41 (.istore 4) := ⟨by decide +kernel, rfl⟩
set_option maxRecDepth 100000 in
theorem ii_ho_outcome_41 : sm_D prog_1_method_61_code 41 2 43 (.iload 4) := ⟨by decide +kernel, rfl⟩
set_option maxRecDepth 100000 in
theorem ii_ho_outcome_43 : sm_D prog_1_method_61_code 43 2 45 (.bipush 6) := ⟨by decide +kernel, rfl⟩
set_option maxRecDepth 100000 in
theorem ii_ho_outcome_45 : sm_D prog_1_method_61_code 45 3 48 (.if_icmp .ge 57) := ⟨by decide +kernel, rfl⟩
set_option maxRecDepth 100000 in
theorem ii_ho_outcome_48 : sm_D prog_1_method_61_code 48 1 49 (.aload_n 0) := ⟨by decide +kernel, rfl⟩
set_option maxRecDepth 100000 in
theorem ii_ho_outcome_49 : sm_D prog_1_method_61_code 49 1 50 (.iload_n 3) := ⟨by decide +kernel, rfl⟩
set_option maxRecDepth 100000 in
theorem ii_ho_outcome_50 : sm_D prog_1_method_61_code 50 2 52 (.iload 4) := ⟨by decide +kernel, rfl⟩
set_option maxRecDepth 100000 in
theorem ii_ho_outcome_52 : sm_D prog_1_method_61_code 52 3 55 (.invokevirtual 152) := ⟨by decide +kernel, rfl⟩
set_option maxRecDepth 100000 in
theorem ii_ho_outcome_55 : sm_D prog_1_method_61_code 55 3 58 (.ifCond .ne 6) := ⟨by decide +kernel, rfl⟩
set_option maxRecDepth 100000 in
theorem ii_ho_outcome_58 : sm_D prog_1_method_61_code 58 3 61 (.goto 38) := ⟨by decide +kernel, rfl⟩
set_option maxRecDepth 100000 in
theorem ii_ho_outcome_61 : sm_D prog_1_method_61_code 61 1 62 (.aload_n 0) := ⟨by decide +kernel, rfl⟩
set_option maxRecDepth 100000 in
theorem ii_ho_outcome_62 : sm_D prog_1_method_61_code 62 1 63 (.iload_n 3) := ⟨by decide +kernel, rfl⟩
set_option maxRecDepth 100000 in
theorem ii_ho_outcome_63 : sm_D prog_1_method_61_code 63 2 65 (.iload 4) := ⟨by decide +kernel, rfl⟩
set_option maxRecDepth 100000 in
theorem ii_ho_outcome_65 : sm_D prog_1_method_61_code 65 3 68 (.invokevirtual 362) := ⟨by decide +kernel, rfl⟩
set_option maxRecDepth 100000 in
theorem ii_ho_outcome_68 : sm_D prog_1_method_61_code 68 1 69 (.aload_n 0) := ⟨by decide +kernel, rfl⟩
set_option maxRecDepth 100000 in
theorem ii_ho_outcome_69 : sm_D prog_1_method_61_code 69 1 70 (.iload_n 1) := ⟨by decide +kernel, rfl⟩
set_option maxRecDepth 100000 in
theorem ii_ho_outcome_70 : sm_D prog_1_method_61_code 70 1 71 (.iconst 1) := ⟨by decide +kernel, rfl⟩
set_option maxRecDepth 100000 in
theorem ii_ho_outcome_71 : sm_D prog_1_method_61_code 71 1 72 (.isub) := ⟨by decide +kernel, rfl⟩
set_option maxRecDepth 100000 in
theorem ii_ho_outcome_72 : sm_D prog_1_method_61_code 72 3 75 (.invokestatic 278) := ⟨by decide +kernel, rfl⟩
set_option maxRecDepth 100000 in
theorem ii_ho_outcome_75 : sm_D prog_1_method_61_code 75 2 77 (.istore 5) := ⟨by decide +kernel, rfl⟩
set_option maxRecDepth 100000 in
theorem ii_ho_outcome_77 : sm_D prog_1_method_61_code 77 1 78 (.aload_n 0) := ⟨by decide +kernel, rfl⟩
set_option maxRecDepth 100000 in
theorem ii_ho_outcome_78 : sm_D prog_1_method_61_code 78 3 81 (.invokevirtual 365) := ⟨by decide +kernel, rfl⟩
set_option maxRecDepth 100000 in
theorem ii_ho_outcome_81 : sm_D prog_1_method_61_code 81 2 83 (.iload 5) := ⟨by decide +kernel, rfl⟩
set_option maxRecDepth 100000 in
theorem ii_ho_outcome_83 : sm_D prog_1_method_61_code 83 1 84 (.iconst 1) := ⟨by decide +kernel, rfl⟩
set_option maxRecDepth 100000 in
theorem ii_ho_outcome_84 : sm_D prog_1_method_61_code 84 3 87 (.if_icmp .ne 5) := ⟨by decide +kernel, rfl⟩
set_option maxRecDepth 100000 in
theorem ii_ho_outcome_87 : sm_D prog_1_method_61_code 87 1 88 (.iconst 0) := ⟨by decide +kernel, rfl⟩
set_option maxRecDepth 100000 in
theorem ii_ho_outcome_88 : sm_D prog_1_method_61_code 88 1 89 (.ireturn) := ⟨by decide +kernel, rfl⟩
set_option maxRecDepth 100000 in
theorem ii_ho_outcome_89 : sm_D prog_1_method_61_code 89 2 91 (.iload 5) := ⟨by decide +kernel, rfl⟩
set_option maxRecDepth 100000 in
theorem ii_ho_outcome_91 : sm_D prog_1_method_61_code 91 3 94 (.ifCond .eq 5) := ⟨by decide +kernel, rfl⟩
set_option maxRecDepth 100000 in
theorem ii_ho_outcome_94 : sm_D prog_1_method_61_code 94 1 95 (.iconst 0) := ⟨by decide +kernel, rfl⟩
set_option maxRecDepth 100000 in
theorem ii_ho_outcome_95 : sm_D prog_1_method_61_code 95 1 96 (.istore_n 2) := ⟨by decide +kernel, rfl⟩
set_option maxRecDepth 100000 in
theorem ii_ho_outcome_96 : sm_D prog_1_method_61_code 96 3 99 (.iinc 4 1) := ⟨by decide +kernel, rfl⟩
set_option maxRecDepth 100000 in
theorem ii_ho_outcome_99 : sm_D prog_1_method_61_code 99 3 102 (.goto (-58)) := ⟨by decide +kernel, rfl⟩
set_option maxRecDepth 100000 in
theorem ii_ho_outcome_102 : sm_D prog_1_method_61_code 102 3 105 (.iinc 3 1) := ⟨by decide +kernel, rfl⟩
set_option maxRecDepth 100000 in
theorem ii_ho_outcome_105 : sm_D prog_1_method_61_code 105 3 108 (.goto (-75)) := ⟨by decide +kernel, rfl⟩
set_option maxRecDepth 100000 in
theorem ii_ho_outcome_108 : sm_D prog_1_method_61_code 108 1 109 (.iload_n 2) := ⟨by decide +kernel, rfl⟩
set_option maxRecDepth 100000 in
theorem ii_ho_outcome_109 : sm_D prog_1_method_61_code 109 3 112 (.ifCond .eq 7) := ⟨by decide +kernel, rfl⟩
set_option maxRecDepth 100000 in
theorem ii_ho_outcome_112 : sm_D prog_1_method_61_code 112 1 113 (.iconst 1) := ⟨by decide +kernel, rfl⟩
set_option maxRecDepth 100000 in
theorem ii_ho_outcome_113 : sm_D prog_1_method_61_code 113 3 116 (.goto 5) := ⟨by decide +kernel, rfl⟩
set_option maxRecDepth 100000 in
theorem ii_ho_outcome_116 : sm_D prog_1_method_61_code 116 2 118 (.bipush (-9)) := ⟨by decide +kernel, rfl⟩
set_option maxRecDepth 100000 in
theorem ii_ho_outcome_118 : sm_D prog_1_method_61_code 118 1 119 (.ireturn) := ⟨by decide +kernel, rfl⟩
noncomputable def ff_ho_outcome_41_b (rc : Int32 → sm_Mem → sm_R) (self30 : Int32 → Int32 → Int32 → sm_Mem → sm_R) (self41 : Int32 → Int32 → Int32 → Int32 → sm_Mem → sm_R) (a1 : Int32) (a2 : Int32) (a3 : Int32) (a4 : Int32) (w : sm_Mem) : sm_R := (if (6 : Int32) ≤ a4 then self30 (a1) (a2) ((a3 + (1 : Int32))) w else (sm_cI (ff_hs_can (a3) (a4) w) fun x1 w2 => (if x1 = (0 : Int32) then self41 (a1) (a2) (a3) ((a4 + (1 : Int32))) w2 else (sm_cV (ff_hs_push (a3) (a4) w2) fun w4 => (sm_cI (rc ((a1 - (1 : Int32))) w4) fun x5 w6 => (sm_cV (ff_hs_pop  w6) fun w8 => (if x5 = (1 : Int32) then (some (.int (0 : Int32), w8)) else (if x5 = (0 : Int32) then self41 (a1) (a2) (a3) ((a4 + (1 : Int32))) w8 else self41 (a1) ((0 : Int32)) (a3) ((a4 + (1 : Int32))) w8))))))))
noncomputable def ff_ho_outcome_41_f (rc : Int32 → sm_Mem → sm_R) (self30 : Int32 → Int32 → Int32 → sm_Mem → sm_R) : Nat → Int32 → Int32 → Int32 → Int32 → sm_Mem → sm_R
  | 0, _, _, _, _, _ => none
  | n + 1, a1, a2, a3, a4, w => ff_ho_outcome_41_b rc self30 (ff_ho_outcome_41_f rc self30 n) a1 a2 a3 a4 w
noncomputable def ff_ho_outcome_41 (rc : Int32 → sm_Mem → sm_R) (self30 : Int32 → Int32 → Int32 → sm_Mem → sm_R) (a1 : Int32) (a2 : Int32) (a3 : Int32) (a4 : Int32) (w : sm_Mem) : sm_R := ff_ho_outcome_41_f rc self30 sm_N a1 a2 a3 a4 w
set_option maxHeartbeats 4000000 in
set_option maxRecDepth 100000 in
theorem ss_ho_outcome_41_b {E : Nat × (Nat → Int32)} {dn : Nat} (rc : Int32 → sm_Mem → sm_R) (hrc : ∀ (a1 : Int32) (w : sm_Mem), sm_MC E (mi_ho_outcome (5 + dn)) [.ref 36, .int a1] w (rc a1 w)) (self30 : Int32 → Int32 → Int32 → sm_Mem → sm_R) (hself30 : ∀ (a1 : Int32) (a2 : Int32) (a3 : Int32) (w : sm_Mem), sm_Sim E (mi_ho_outcome (5 + dn + 1)) 30 [some (.ref 36), some (.int a1), some (.int a2), some (.int a3), none, none] [] w (self30 a1 a2 a3 w)) (self41 : Int32 → Int32 → Int32 → Int32 → sm_Mem → sm_R) (hself41 : ∀ (a1 : Int32) (a2 : Int32) (a3 : Int32) (a4 : Int32) (w : sm_Mem), sm_Sim E (mi_ho_outcome (5 + dn + 1)) 41 [some (.ref 36), some (.int a1), some (.int a2), some (.int a3), some (.int a4), none] [] w (self41 a1 a2 a3 a4 w)) (a1 : Int32) (a2 : Int32) (a3 : Int32) (a4 : Int32) (w : sm_Mem) : sm_Sim E (mi_ho_outcome (5 + dn + 1)) 41 [some (.ref 36), some (.int a1), some (.int a2), some (.int a3), some (.int a4), none] [] w (ff_ho_outcome_41_b rc self30 self41 a1 a2 a3 a4 w) := by
  unfold ff_ho_outcome_41_b
  refine sm_iload ii_ho_outcome_41 rfl ?_
  refine sm_bipush (6 : Int32) ii_ho_outcome_43 (by decide) ?_
  refine sm_icmp_ge 102 ii_ho_outcome_45 (by decide) ?_ ?_
  · refine sm_iinc (a3 + (1 : Int32)) [some (.ref 36), some (.int a1), some (.int a2), some (.int (a3 + (1 : Int32))), some (.int a4), none] ii_ho_outcome_102 rfl rfl rfl rfl ?_
    refine sm_goto 30 ii_ho_outcome_105 (by decide) ?_
    refine sm_msk [true, true, true, true, false, false] [some (.ref 36), some (.int a1), some (.int a2), some (.int (a3 + (1 : Int32))), none, none] rfl ?_
    exact hself30 (a1) (a2) ((a3 + (1 : Int32))) w
  · refine sm_aload_n ii_ho_outcome_48 rfl ?_
    refine sm_iload_n ii_ho_outcome_49 rfl ?_
    refine sm_iload ii_ho_outcome_50 rfl ?_
    refine sm_cvI [.int a3, .int a4] [] rfl ii_ho_outcome_52 ml_ho_152 (mf_hs_can) (mv_hs_can) (sm_kle rfl) rfl 1 rfl rfl rfl rfl (mc_hs_can (a3) (a4) w) (fun x1 w2 => ?_)
    refine sm_if_ne 61 ii_ho_outcome_55 (by decide) ?_ ?_
    · refine sm_goto 96 ii_ho_outcome_58 (by decide) ?_
      refine sm_iinc (a4 + (1 : Int32)) [some (.ref 36), some (.int a1), some (.int a2), some (.int a3), some (.int (a4 + (1 : Int32))), none] ii_ho_outcome_96 rfl rfl rfl rfl ?_
      refine sm_goto 41 ii_ho_outcome_99 (by decide) ?_
      exact hself41 (a1) (a2) (a3) ((a4 + (1 : Int32))) w2
    · refine sm_aload_n ii_ho_outcome_61 rfl ?_
      refine sm_iload_n ii_ho_outcome_62 rfl ?_
      refine sm_iload ii_ho_outcome_63 rfl ?_
      refine sm_cvV [.int a3, .int a4] [] rfl ii_ho_outcome_65 ml_ho_362 (mf_hs_push) (mv_hs_push) (sm_kle rfl) rfl 1 rfl rfl rfl rfl (mc_hs_push (a3) (a4) w2) (fun w4 => ?_)
      refine sm_aload_n ii_ho_outcome_68 rfl ?_
      refine sm_iload_n ii_ho_outcome_69 rfl ?_
      refine sm_iconst (1 : Int32) ii_ho_outcome_70 (by decide) ?_
      refine sm_isub ii_ho_outcome_71 ?_
      refine sm_csI [.ref 36, .int (a1 - (1 : Int32))] [] rfl ii_ho_outcome_72 ml_ho_278 (mf_ho_outcome (5 + dn)) (mv_ho_outcome (5 + dn)) (Nat.le_refl _) rfl rfl rfl (hrc ((a1 - (1 : Int32))) w4) (fun x5 w6 => ?_)
      refine sm_istore [some (.ref 36), some (.int a1), some (.int a2), some (.int a3), some (.int a4), some (.int x5)] ii_ho_outcome_75 rfl rfl ?_
      refine sm_aload_n ii_ho_outcome_77 rfl ?_
      refine sm_cvV [] [] rfl ii_ho_outcome_78 ml_ho_365 (mf_hs_pop) (mv_hs_pop) (sm_kle rfl) rfl 1 rfl rfl rfl rfl (mc_hs_pop  w6) (fun w8 => ?_)
      refine sm_iload ii_ho_outcome_81 rfl ?_
      refine sm_iconst (1 : Int32) ii_ho_outcome_83 (by decide) ?_
      refine sm_icmp_ne 89 ii_ho_outcome_84 (by decide) ?_ ?_
      · refine sm_iconst (0 : Int32) ii_ho_outcome_87 (by decide) ?_
        exact sm_iret ii_ho_outcome_88 rfl
      · refine sm_iload ii_ho_outcome_89 rfl ?_
        refine sm_if_eq 96 ii_ho_outcome_91 (by decide) ?_ ?_
        · refine sm_iinc (a4 + (1 : Int32)) [some (.ref 36), some (.int a1), some (.int a2), some (.int a3), some (.int (a4 + (1 : Int32))), some (.int x5)] ii_ho_outcome_96 rfl rfl rfl rfl ?_
          refine sm_goto 41 ii_ho_outcome_99 (by decide) ?_
          refine sm_msk [true, true, true, true, true, false] [some (.ref 36), some (.int a1), some (.int a2), some (.int a3), some (.int (a4 + (1 : Int32))), none] rfl ?_
          exact hself41 (a1) (a2) (a3) ((a4 + (1 : Int32))) w8
        · refine sm_iconst (0 : Int32) ii_ho_outcome_94 (by decide) ?_
          refine sm_istore_n [some (.ref 36), some (.int a1), some (.int (0 : Int32)), some (.int a3), some (.int a4), some (.int x5)] ii_ho_outcome_95 rfl rfl ?_
          refine sm_iinc (a4 + (1 : Int32)) [some (.ref 36), some (.int a1), some (.int (0 : Int32)), some (.int a3), some (.int (a4 + (1 : Int32))), some (.int x5)] ii_ho_outcome_96 rfl rfl rfl rfl ?_
          refine sm_goto 41 ii_ho_outcome_99 (by decide) ?_
          refine sm_msk [true, true, true, true, true, false] [some (.ref 36), some (.int a1), some (.int (0 : Int32)), some (.int a3), some (.int (a4 + (1 : Int32))), none] rfl ?_
          exact hself41 (a1) ((0 : Int32)) (a3) ((a4 + (1 : Int32))) w8
set_option maxHeartbeats 4000000 in
set_option maxRecDepth 100000 in
theorem ss_ho_outcome_41_f {E : Nat × (Nat → Int32)} {dn : Nat} (rc : Int32 → sm_Mem → sm_R) (hrc : ∀ (a1 : Int32) (w : sm_Mem), sm_MC E (mi_ho_outcome (5 + dn)) [.ref 36, .int a1] w (rc a1 w)) (self30 : Int32 → Int32 → Int32 → sm_Mem → sm_R) (hself30 : ∀ (a1 : Int32) (a2 : Int32) (a3 : Int32) (w : sm_Mem), sm_Sim E (mi_ho_outcome (5 + dn + 1)) 30 [some (.ref 36), some (.int a1), some (.int a2), some (.int a3), none, none] [] w (self30 a1 a2 a3 w)) : ∀ (n : Nat) (a1 : Int32) (a2 : Int32) (a3 : Int32) (a4 : Int32) (w : sm_Mem), sm_Sim E (mi_ho_outcome (5 + dn + 1)) 41 [some (.ref 36), some (.int a1), some (.int a2), some (.int a3), some (.int a4), none] [] w (ff_ho_outcome_41_f rc self30 n a1 a2 a3 a4 w)
  | 0, _, _, _, _, _ => fun _ _ h => by cases h
  | n + 1, a1, a2, a3, a4, w => ss_ho_outcome_41_b rc hrc self30 hself30 _ (ss_ho_outcome_41_f rc hrc self30 hself30 n) a1 a2 a3 a4 w
set_option maxHeartbeats 4000000 in
set_option maxRecDepth 100000 in
theorem ss_ho_outcome_41 {E : Nat × (Nat → Int32)} {dn : Nat} (rc : Int32 → sm_Mem → sm_R) (hrc : ∀ (a1 : Int32) (w : sm_Mem), sm_MC E (mi_ho_outcome (5 + dn)) [.ref 36, .int a1] w (rc a1 w)) (self30 : Int32 → Int32 → Int32 → sm_Mem → sm_R) (hself30 : ∀ (a1 : Int32) (a2 : Int32) (a3 : Int32) (w : sm_Mem), sm_Sim E (mi_ho_outcome (5 + dn + 1)) 30 [some (.ref 36), some (.int a1), some (.int a2), some (.int a3), none, none] [] w (self30 a1 a2 a3 w)) (a1 : Int32) (a2 : Int32) (a3 : Int32) (a4 : Int32) (w : sm_Mem) : sm_Sim E (mi_ho_outcome (5 + dn + 1)) 41 [some (.ref 36), some (.int a1), some (.int a2), some (.int a3), some (.int a4), none] [] w (ff_ho_outcome_41 rc self30 a1 a2 a3 a4 w) := ss_ho_outcome_41_f rc hrc self30 hself30 sm_N a1 a2 a3 a4 w
noncomputable def ff_ho_outcome_30_b (rc : Int32 → sm_Mem → sm_R)  (self30 : Int32 → Int32 → Int32 → sm_Mem → sm_R) (a1 : Int32) (a2 : Int32) (a3 : Int32) (w : sm_Mem) : sm_R := (if (w.1 36 0) ≤ a3 then (if a2 = (0 : Int32) then (some (.int (-9 : Int32), w)) else (some (.int (1 : Int32), w))) else ff_ho_outcome_41 rc self30 (a1) (a2) (a3) ((0 : Int32)) w)
noncomputable def ff_ho_outcome_30_f (rc : Int32 → sm_Mem → sm_R)  : Nat → Int32 → Int32 → Int32 → sm_Mem → sm_R
  | 0, _, _, _, _ => none
  | n + 1, a1, a2, a3, w => ff_ho_outcome_30_b rc  (ff_ho_outcome_30_f rc  n) a1 a2 a3 w
noncomputable def ff_ho_outcome_30 (rc : Int32 → sm_Mem → sm_R)  (a1 : Int32) (a2 : Int32) (a3 : Int32) (w : sm_Mem) : sm_R := ff_ho_outcome_30_f rc  sm_N a1 a2 a3 w
set_option maxHeartbeats 4000000 in
set_option maxRecDepth 100000 in
theorem ss_ho_outcome_30_b {E : Nat × (Nat → Int32)} {dn : Nat} (rc : Int32 → sm_Mem → sm_R) (hrc : ∀ (a1 : Int32) (w : sm_Mem), sm_MC E (mi_ho_outcome (5 + dn)) [.ref 36, .int a1] w (rc a1 w))  (self30 : Int32 → Int32 → Int32 → sm_Mem → sm_R) (hself30 : ∀ (a1 : Int32) (a2 : Int32) (a3 : Int32) (w : sm_Mem), sm_Sim E (mi_ho_outcome (5 + dn + 1)) 30 [some (.ref 36), some (.int a1), some (.int a2), some (.int a3), none, none] [] w (self30 a1 a2 a3 w)) (a1 : Int32) (a2 : Int32) (a3 : Int32) (w : sm_Mem) : sm_Sim E (mi_ho_outcome (5 + dn + 1)) 30 [some (.ref 36), some (.int a1), some (.int a2), some (.int a3), none, none] [] w (ff_ho_outcome_30_b rc  self30 a1 a2 a3 w) := by
  unfold ff_ho_outcome_30_b
  refine sm_iload_n ii_ho_outcome_30 rfl ?_
  refine sm_aload_n ii_ho_outcome_31 rfl ?_
  refine sm_getI ii_ho_outcome_32 fl_ho_115 (k := 36) rfl ?_
  refine sm_icmp_ge 108 ii_ho_outcome_35 (by decide) ?_ ?_
  · refine sm_iload_n ii_ho_outcome_108 rfl ?_
    refine sm_if_eq 116 ii_ho_outcome_109 (by decide) ?_ ?_
    · refine sm_bipush (-9 : Int32) ii_ho_outcome_116 (by decide) ?_
      exact sm_iret ii_ho_outcome_118 rfl
    · refine sm_iconst (1 : Int32) ii_ho_outcome_112 (by decide) ?_
      refine sm_goto 118 ii_ho_outcome_113 (by decide) ?_
      exact sm_iret ii_ho_outcome_118 rfl
  · refine sm_iconst (0 : Int32) ii_ho_outcome_38 (by decide) ?_
    refine sm_istore [some (.ref 36), some (.int a1), some (.int a2), some (.int a3), some (.int (0 : Int32)), none] ii_ho_outcome_39 rfl rfl ?_
    exact ss_ho_outcome_41 rc hrc self30 hself30 (a1) (a2) (a3) ((0 : Int32)) w
set_option maxHeartbeats 4000000 in
set_option maxRecDepth 100000 in
theorem ss_ho_outcome_30_f {E : Nat × (Nat → Int32)} {dn : Nat} (rc : Int32 → sm_Mem → sm_R) (hrc : ∀ (a1 : Int32) (w : sm_Mem), sm_MC E (mi_ho_outcome (5 + dn)) [.ref 36, .int a1] w (rc a1 w))  : ∀ (n : Nat) (a1 : Int32) (a2 : Int32) (a3 : Int32) (w : sm_Mem), sm_Sim E (mi_ho_outcome (5 + dn + 1)) 30 [some (.ref 36), some (.int a1), some (.int a2), some (.int a3), none, none] [] w (ff_ho_outcome_30_f rc  n a1 a2 a3 w)
  | 0, _, _, _, _ => fun _ _ h => by cases h
  | n + 1, a1, a2, a3, w => ss_ho_outcome_30_b rc hrc  _ (ss_ho_outcome_30_f rc hrc  n) a1 a2 a3 w
set_option maxHeartbeats 4000000 in
set_option maxRecDepth 100000 in
theorem ss_ho_outcome_30 {E : Nat × (Nat → Int32)} {dn : Nat} (rc : Int32 → sm_Mem → sm_R) (hrc : ∀ (a1 : Int32) (w : sm_Mem), sm_MC E (mi_ho_outcome (5 + dn)) [.ref 36, .int a1] w (rc a1 w))  (a1 : Int32) (a2 : Int32) (a3 : Int32) (w : sm_Mem) : sm_Sim E (mi_ho_outcome (5 + dn + 1)) 30 [some (.ref 36), some (.int a1), some (.int a2), some (.int a3), none, none] [] w (ff_ho_outcome_30 rc  a1 a2 a3 w) := ss_ho_outcome_30_f rc hrc  sm_N a1 a2 a3 w
noncomputable def ff_ho_outcome_0 (rc : Int32 → sm_Mem → sm_R)  (a1 : Int32) (w : sm_Mem) : sm_R := (if (0 : Int32) < a1 then (if a1 = (1 : Int32) then (sm_cI (ff_hs_isSilenced  w) fun x9 w10 => (if x9 = (0 : Int32) then (some (.int (-9 : Int32), w10)) else (some (.int (1 : Int32), w10)))) else ff_ho_outcome_30 rc (a1) ((1 : Int32)) ((0 : Int32)) w) else (some (.int (-9 : Int32), w)))
set_option maxHeartbeats 4000000 in
set_option maxRecDepth 100000 in
theorem ss_ho_outcome_0 {E : Nat × (Nat → Int32)} {dn : Nat} (rc : Int32 → sm_Mem → sm_R) (hrc : ∀ (a1 : Int32) (w : sm_Mem), sm_MC E (mi_ho_outcome (5 + dn)) [.ref 36, .int a1] w (rc a1 w))  (a1 : Int32) (w : sm_Mem) : sm_Sim E (mi_ho_outcome (5 + dn + 1)) 0 [some (.ref 36), some (.int a1), none, none, none, none] [] w (ff_ho_outcome_0 rc  a1 w) := by
  unfold ff_ho_outcome_0
  refine sm_iload_n ii_ho_outcome_0 rfl ?_
  refine sm_if_gt 7 ii_ho_outcome_1 (by decide) ?_ ?_
  · refine sm_iload_n ii_ho_outcome_7 rfl ?_
    refine sm_iconst (1 : Int32) ii_ho_outcome_8 (by decide) ?_
    refine sm_icmp_ne 26 ii_ho_outcome_9 (by decide) ?_ ?_
    · refine sm_aload_n ii_ho_outcome_12 rfl ?_
      refine sm_cvI [] [] rfl ii_ho_outcome_13 ml_ho_359 (mf_hs_isSilenced) (mv_hs_isSilenced) (sm_kle rfl) rfl 1 rfl rfl rfl rfl (mc_hs_isSilenced  w) (fun x9 w10 => ?_)
      refine sm_if_eq 23 ii_ho_outcome_16 (by decide) ?_ ?_
      · refine sm_bipush (-9 : Int32) ii_ho_outcome_23 (by decide) ?_
        exact sm_iret ii_ho_outcome_25 rfl
      · refine sm_iconst (1 : Int32) ii_ho_outcome_19 (by decide) ?_
        refine sm_goto 25 ii_ho_outcome_20 (by decide) ?_
        exact sm_iret ii_ho_outcome_25 rfl
    · refine sm_iconst (1 : Int32) ii_ho_outcome_26 (by decide) ?_
      refine sm_istore_n [some (.ref 36), some (.int a1), some (.int (1 : Int32)), none, none, none] ii_ho_outcome_27 rfl rfl ?_
      refine sm_iconst (0 : Int32) ii_ho_outcome_28 (by decide) ?_
      refine sm_istore_n [some (.ref 36), some (.int a1), some (.int (1 : Int32)), some (.int (0 : Int32)), none, none] ii_ho_outcome_29 rfl rfl ?_
      exact ss_ho_outcome_30 rc hrc (a1) ((1 : Int32)) ((0 : Int32)) w
  · refine sm_bipush (-9 : Int32) ii_ho_outcome_4 (by decide) ?_
    exact sm_iret ii_ho_outcome_6 rfl
noncomputable def ff_ho_outcome : Nat → Int32 → sm_Mem → sm_R
  | 0, _, _ => none
  | n + 1, a1, w => ff_ho_outcome_0 (ff_ho_outcome n) a1 w
set_option maxHeartbeats 4000000 in
set_option maxRecDepth 100000 in
theorem mc_ho_outcome {E : Nat × (Nat → Int32)} : ∀ (n : Nat) (a1 : Int32) (w : sm_Mem), sm_MC E (mi_ho_outcome (5 + n)) [.ref 36, .int a1] w (ff_ho_outcome n a1 w)
  | 0, _, _ => fun _ _ h => by cases h
  | n + 1, a1, w => sm_MC_of E (show plainName "HerOrders" = true by decide +kernel) rfl (Nat.le_of_ble_eq_true rfl) (ss_ho_outcome_0 (dn := n) _ (mc_ho_outcome n) a1 w)
abbrev mi_ho_struck : sm_MI := (⟨"HerOrders", "struck", "(I)I"⟩, prog_1_method_35_code, 2, (some .int), 14)
set_option maxRecDepth 100000 in
theorem mf_ho_struck : sm_MF mi_ho_struck 1 := ⟨List.mem_of_getElem? (i := 687) (by decide +kernel), List.mem_of_getElem? (i := 69) (by decide +kernel), ⟨by decide, by decide⟩, by decide +kernel⟩
set_option maxRecDepth 100000 in
theorem mv_ho_struck : sm_MFV mi_ho_struck := ⟨List.mem_of_getElem? (i := 685) (by decide +kernel), List.mem_of_getElem? (i := 686) (by decide +kernel)⟩
set_option maxRecDepth 100000 in
theorem ii_ho_struck_0 : sm_D prog_1_method_35_code 0 1 1 (.iload_n 1) := ⟨by decide +kernel, rfl⟩
set_option maxRecDepth 100000 in
theorem ii_ho_struck_1 : sm_D prog_1_method_35_code 1 3 4 (.ifCond .lt 8) := ⟨by decide +kernel, rfl⟩
set_option maxRecDepth 100000 in
theorem ii_ho_struck_4 : sm_D prog_1_method_35_code 4 1 5 (.iload_n 1) := ⟨by decide +kernel, rfl⟩
set_option maxRecDepth 100000 in
theorem ii_ho_struck_5 : sm_D prog_1_method_35_code 5 1 6 (.iconst 3) := ⟨by decide +kernel, rfl⟩
set_option maxRecDepth 100000 in
theorem ii_ho_struck_6 : sm_D prog_1_method_35_code 6 3 9 (.if_icmp .le 5) := ⟨by decide +kernel, rfl⟩
set_option maxRecDepth 100000 in
theorem ii_ho_struck_9 : sm_D prog_1_method_35_code 9 1 10 (.iconst (-1)) := ⟨by decide +kernel, rfl⟩
set_option maxRecDepth 100000 in
theorem ii_ho_struck_10 : sm_D prog_1_method_35_code 10 1 11 (.ireturn) := ⟨by decide +kernel, rfl⟩
set_option maxRecDepth 100000 in
theorem ii_ho_struck_11 : sm_D prog_1_method_35_code 11 1 12 (.aload_n 0) := ⟨by decide +kernel, rfl⟩
set_option maxRecDepth 100000 in
theorem ii_ho_struck_12 : sm_D prog_1_method_35_code 12 3 15 (.getfield 31) := ⟨by decide +kernel, rfl⟩
set_option maxRecDepth 100000 in
theorem ii_ho_struck_15 : sm_D prog_1_method_35_code 15 3 18 (.getfield 115) := ⟨by decide +kernel, rfl⟩
set_option maxRecDepth 100000 in
theorem ii_ho_struck_18 : sm_D prog_1_method_35_code 18 3 21 (.ifCond .ne 6) := ⟨by decide +kernel, rfl⟩
set_option maxRecDepth 100000 in
theorem ii_ho_struck_21 : sm_D prog_1_method_35_code 21 2 23 (.bipush (-4)) := ⟨by decide +kernel, rfl⟩
set_option maxRecDepth 100000 in
theorem ii_ho_struck_23 : sm_D prog_1_method_35_code 23 1 24 (.ireturn) := ⟨by decide +kernel, rfl⟩
set_option maxRecDepth 100000 in
theorem ii_ho_struck_24 : sm_D prog_1_method_35_code 24 1 25 (.aload_n 0) := ⟨by decide +kernel, rfl⟩
set_option maxRecDepth 100000 in
theorem ii_ho_struck_25 : sm_D prog_1_method_35_code 25 3 28 (.getfield 31) := ⟨by decide +kernel, rfl⟩
set_option maxRecDepth 100000 in
theorem ii_ho_struck_28 : sm_D prog_1_method_35_code 28 1 29 (.iload_n 1) := ⟨by decide +kernel, rfl⟩
set_option maxRecDepth 100000 in
theorem ii_ho_struck_29 : sm_D prog_1_method_35_code 29 3 32 (.invokestatic 278) := ⟨by decide +kernel, rfl⟩
set_option maxRecDepth 100000 in
theorem ii_ho_struck_32 : sm_D prog_1_method_35_code 32 1 33 (.ireturn) := ⟨by decide +kernel, rfl⟩
noncomputable def ff_ho_struck  (a1 : Int32) (w : sm_Mem) : sm_R := (if a1 < (0 : Int32) then (some (.int (-1 : Int32), w)) else (if a1 ≤ (3 : Int32) then (if (w.1 36 0) = (0 : Int32) then (some (.int (-4 : Int32), w)) else (sm_cI (ff_ho_outcome 8 (a1) w) fun x1 w2 => (some (.int x1, w2)))) else (some (.int (-1 : Int32), w))))
set_option maxHeartbeats 4000000 in
set_option maxRecDepth 100000 in
theorem ss_ho_struck_0 {E : Nat × (Nat → Int32)}  (a1 : Int32) (w : sm_Mem) : sm_Sim E (mi_ho_struck) 0 [some (.ref 0), some (.int a1)] [] w (ff_ho_struck  a1 w) := by
  unfold ff_ho_struck
  refine sm_iload_n ii_ho_struck_0 rfl ?_
  refine sm_if_lt 9 ii_ho_struck_1 (by decide) ?_ ?_
  · refine sm_iconst (-1 : Int32) ii_ho_struck_9 (by decide) ?_
    exact sm_iret ii_ho_struck_10 rfl
  · refine sm_iload_n ii_ho_struck_4 rfl ?_
    refine sm_iconst (3 : Int32) ii_ho_struck_5 (by decide) ?_
    refine sm_icmp_le 11 ii_ho_struck_6 (by decide) ?_ ?_
    · refine sm_aload_n ii_ho_struck_11 rfl ?_
      refine sm_getR 36 ii_ho_struck_12 fl_ho_31 (k := 0) rfl ?_
      refine sm_getI ii_ho_struck_15 fl_ho_115 (k := 36) rfl ?_
      refine sm_if_ne 24 ii_ho_struck_18 (by decide) ?_ ?_
      · refine sm_bipush (-4 : Int32) ii_ho_struck_21 (by decide) ?_
        exact sm_iret ii_ho_struck_23 rfl
      · refine sm_aload_n ii_ho_struck_24 rfl ?_
        refine sm_getR 36 ii_ho_struck_25 fl_ho_31 (k := 0) rfl ?_
        refine sm_iload_n ii_ho_struck_28 rfl ?_
        refine sm_csI [.ref 36, .int a1] [] rfl ii_ho_struck_29 ml_ho_278 (mf_ho_outcome 13) (mv_ho_outcome 13) (Nat.le_of_ble_eq_true rfl) rfl rfl rfl (mc_ho_outcome 8 (a1) w) (fun x1 w2 => ?_)
        exact sm_iret ii_ho_struck_32 rfl
    · refine sm_iconst (-1 : Int32) ii_ho_struck_9 (by decide) ?_
      exact sm_iret ii_ho_struck_10 rfl
set_option maxHeartbeats 4000000 in
set_option maxRecDepth 100000 in
theorem mc_ho_struck {E : Nat × (Nat → Int32)} (a1 : Int32) (w : sm_Mem) : sm_MC E mi_ho_struck [.ref 0, .int a1] w (ff_ho_struck a1 w) := sm_MC_of E (by decide +kernel) rfl (Nat.le_of_ble_eq_true rfl) (ss_ho_struck_0 a1 w)
abbrev mi_wy_spreadReach : sm_MI := (⟨"HerOrders$Ways", "spreadReach", "()V"⟩, prog_7_method_15_code, 3, none, 1)
set_option maxRecDepth 100000 in
theorem mf_wy_spreadReach : sm_MF mi_wy_spreadReach 0 := ⟨List.mem_of_getElem? (i := 709) (by decide +kernel), List.mem_of_getElem? (i := 74) (by decide +kernel), ⟨by decide, by decide⟩, by decide +kernel⟩
set_option maxRecDepth 100000 in
theorem mv_wy_spreadReach : sm_MFV mi_wy_spreadReach := ⟨List.mem_of_getElem? (i := 708) (by decide +kernel), List.mem_of_getElem? (i := 54) (by decide +kernel)⟩
set_option maxRecDepth 100000 in
theorem ii_wy_spreadReach_0 : sm_D prog_7_method_15_code 0 1 1 (.iconst 0) := ⟨by decide +kernel, rfl⟩
set_option maxRecDepth 100000 in
theorem ii_wy_spreadReach_1 : sm_D prog_7_method_15_code 1 1 2 (.istore_n 1) := ⟨by decide +kernel, rfl⟩
set_option maxRecDepth 100000 in
theorem ii_wy_spreadReach_2 : sm_D prog_7_method_15_code 2 1 3 (.iload_n 1) := ⟨by decide +kernel, rfl⟩
set_option maxRecDepth 100000 in
theorem ii_wy_spreadReach_3 : sm_D prog_7_method_15_code 3 1 4 (.aload_n 0) := ⟨by decide +kernel, rfl⟩
set_option maxRecDepth 100000 in
theorem ii_wy_spreadReach_4 : sm_D prog_7_method_15_code 4 3 7 (.getfield 9) := ⟨by decide +kernel, rfl⟩
set_option maxRecDepth 100000 in
theorem ii_wy_spreadReach_7 : sm_D prog_7_method_15_code 7 3 10 (.getfield 84) := ⟨by decide +kernel, rfl⟩
set_option maxRecDepth 100000 in
theorem ii_wy_spreadReach_10 : sm_D prog_7_method_15_code 10 3 13 (.if_icmp .ge 53) := ⟨by decide +kernel, rfl⟩
set_option maxRecDepth 100000 in
theorem ii_wy_spreadReach_13 : sm_D prog_7_method_15_code 13 1 14 (.iconst 0) := ⟨by decide +kernel, rfl⟩
set_option maxRecDepth 100000 in
theorem ii_wy_spreadReach_14 : sm_D prog_7_method_15_code 14 1 15 (.istore_n 2) := ⟨by decide +kernel, rfl⟩
set_option maxRecDepth 100000 in
theorem ii_wy_spreadReach_15 : sm_D prog_7_method_15_code 15 1 16 (.iload_n 2) := ⟨by decide +kernel, rfl⟩
set_option maxRecDepth 100000 in
theorem ii_wy_spreadReach_16 : sm_D prog_7_method_15_code 16 1 17 (.aload_n 0) := ⟨by decide +kernel, rfl⟩
set_option maxRecDepth 100000 in
theorem ii_wy_spreadReach_17 : sm_D prog_7_method_15_code 17 3 20 (.getfield 28) := ⟨by decide +kernel, rfl⟩
set_option maxRecDepth 100000 in
theorem ii_wy_spreadReach_20 : sm_D prog_7_method_15_code 20 1 21 (.arraylength) := ⟨by decide +kernel, rfl⟩
set_option maxRecDepth 100000 in
theorem ii_wy_spreadReach_21 : sm_D prog_7_method_15_code 21 3 24 (.if_icmp .ge 36) := ⟨by decide +kernel, rfl⟩
set_option maxRecDepth 100000 in
theorem ii_wy_spreadReach_24 : sm_D prog_7_method_15_code 24 1 25 (.aload_n 0) := ⟨by decide +kernel, rfl⟩
set_option maxRecDepth 100000 in
theorem ii_wy_spreadReach_25 : sm_D prog_7_method_15_code 25 3 28 (.getfield 28) := ⟨by decide +kernel, rfl⟩
set_option maxRecDepth 100000 in
theorem ii_wy_spreadReach_28 : sm_D prog_7_method_15_code 28 1 29 (.iload_n 2) := ⟨by decide +kernel, rfl⟩
set_option maxRecDepth 100000 in
theorem ii_wy_spreadReach_29 : sm_D prog_7_method_15_code 29 1 30 (.aload_n 0) := ⟨by decide +kernel, rfl⟩
set_option maxRecDepth 100000 in
theorem ii_wy_spreadReach_30 : sm_D prog_7_method_15_code 30 3 33 (.getfield 28) := ⟨by decide +kernel, rfl⟩
set_option maxRecDepth 100000 in
theorem ii_wy_spreadReach_33 : sm_D prog_7_method_15_code 33 1 34 (.iload_n 2) := ⟨by decide +kernel, rfl⟩
set_option maxRecDepth 100000 in
theorem ii_wy_spreadReach_34 : sm_D prog_7_method_15_code 34 1 35 (.iaload) := ⟨by decide +kernel, rfl⟩
set_option maxRecDepth 100000 in
theorem ii_wy_spreadReach_35 : sm_D prog_7_method_15_code 35 1 36 (.aload_n 0) := ⟨by decide +kernel, rfl⟩
set_option maxRecDepth 100000 in
theorem ii_wy_spreadReach_36 : sm_D prog_7_method_15_code 36 3 39 (.getfield 28) := ⟨by decide +kernel, rfl⟩
set_option maxRecDepth 100000 in
theorem ii_wy_spreadReach_39 : sm_D prog_7_method_15_code 39 1 40 (.iload_n 2) := ⟨by decide +kernel, rfl⟩
set_option maxRecDepth 100000 in
theorem ii_wy_spreadReach_40 : sm_D prog_7_method_15_code 40 1 41 (.iconst 1) := ⟨by decide +kernel, rfl⟩
set_option maxRecDepth 100000 in
theorem ii_wy_spreadReach_41 : sm_D prog_7_method_15_code 41 1 42 (.iload_n 1) := ⟨by decide +kernel, rfl⟩
set_option maxRecDepth 100000 in
theorem ii_wy_spreadReach_42 : sm_D prog_7_method_15_code 42 1 43 (.ishl) := ⟨by decide +kernel, rfl⟩
set_option maxRecDepth 100000 in
theorem ii_wy_spreadReach_43 : sm_D prog_7_method_15_code 43 1 44 (.iconst (-1)) := ⟨by decide +kernel, rfl⟩
set_option maxRecDepth 100000 in
theorem ii_wy_spreadReach_44 : sm_D prog_7_method_15_code 44 1 45 (.ixor) := ⟨by decide +kernel, rfl⟩
set_option maxRecDepth 100000 in
theorem ii_wy_spreadReach_45 : sm_D prog_7_method_15_code 45 1 46 (.iand) := ⟨by decide +kernel, rfl⟩
set_option maxRecDepth 100000 in
theorem ii_wy_spreadReach_46 : sm_D prog_7_method_15_code 46 1 47 (.iaload) := ⟨by decide +kernel, rfl⟩
set_option maxRecDepth 100000 in
theorem ii_wy_spreadReach_47 : sm_D prog_7_method_15_code 47 3 50 (.invokestatic 46) := ⟨by decide +kernel, rfl⟩
set_option maxRecDepth 100000 in
theorem ii_wy_spreadReach_50 : sm_D prog_7_method_15_code 50 1 51 (.iastore) := ⟨by decide +kernel, rfl⟩
set_option maxRecDepth 100000 in
theorem ii_wy_spreadReach_51 : sm_D prog_7_method_15_code 51 3 54 (.iinc 2 1) := ⟨by decide +kernel, rfl⟩
set_option maxRecDepth 100000 in
theorem ii_wy_spreadReach_54 : sm_D prog_7_method_15_code 54 3 57 (.goto (-39)) := ⟨by decide +kernel, rfl⟩
set_option maxRecDepth 100000 in
theorem ii_wy_spreadReach_57 : sm_D prog_7_method_15_code 57 3 60 (.iinc 1 1) := ⟨by decide +kernel, rfl⟩
set_option maxRecDepth 100000 in
theorem ii_wy_spreadReach_60 : sm_D prog_7_method_15_code 60 3 63 (.goto (-58)) := ⟨by decide +kernel, rfl⟩
set_option maxRecDepth 100000 in
theorem ii_wy_spreadReach_63 : sm_D prog_7_method_15_code 63 1 64 (.return_) := ⟨by decide +kernel, rfl⟩
noncomputable def ff_wy_spreadReach_15_b (self2 : Int32 → sm_Mem → sm_R) (self15 : Int32 → Int32 → sm_Mem → sm_R) (a1 : Int32) (a2 : Int32) (w : sm_Mem) : sm_R := (Option.bind (sm_al 54) fun x1 => (if x1 ≤ a2 then self2 ((a1 + (1 : Int32))) w else (Option.bind (sm_rd w 54 64 a2) fun x2 => (Option.bind (sm_rd w 54 64 (a2 &&& (((1 : Int32) <<< (a1 &&& (31 : Int32))) ^^^ (-1 : Int32)))) fun x3 => (Option.bind (sm_wr w 54 64 a2 (if x2 < x3 then x3 else x2)) fun w4 => self15 (a1) ((a2 + (1 : Int32))) w4)))))
noncomputable def ff_wy_spreadReach_15_f (self2 : Int32 → sm_Mem → sm_R) : Nat → Int32 → Int32 → sm_Mem → sm_R
  | 0, _, _, _ => none
  | n + 1, a1, a2, w => ff_wy_spreadReach_15_b self2 (ff_wy_spreadReach_15_f self2 n) a1 a2 w
noncomputable def ff_wy_spreadReach_15 (self2 : Int32 → sm_Mem → sm_R) (a1 : Int32) (a2 : Int32) (w : sm_Mem) : sm_R := ff_wy_spreadReach_15_f self2 sm_N a1 a2 w
set_option maxHeartbeats 4000000 in
set_option maxRecDepth 100000 in
theorem ss_wy_spreadReach_15_b {E : Nat × (Nat → Int32)} (self2 : Int32 → sm_Mem → sm_R) (hself2 : ∀ (a1 : Int32) (w : sm_Mem), sm_Sim E (mi_wy_spreadReach) 2 [some (.ref 49), some (.int a1), none] [] w (self2 a1 w)) (self15 : Int32 → Int32 → sm_Mem → sm_R) (hself15 : ∀ (a1 : Int32) (a2 : Int32) (w : sm_Mem), sm_Sim E (mi_wy_spreadReach) 15 [some (.ref 49), some (.int a1), some (.int a2)] [] w (self15 a1 a2 w)) (a1 : Int32) (a2 : Int32) (w : sm_Mem) : sm_Sim E (mi_wy_spreadReach) 15 [some (.ref 49), some (.int a1), some (.int a2)] [] w (ff_wy_spreadReach_15_b self2 self15 a1 a2 w) := by
  unfold ff_wy_spreadReach_15_b
  refine sm_iload_n ii_wy_spreadReach_15 rfl ?_
  refine sm_aload_n ii_wy_spreadReach_16 rfl ?_
  refine sm_getR 54 ii_wy_spreadReach_17 fl_wy_28 (k := 49) rfl ?_
  refine sm_alen ii_wy_spreadReach_20 (fun x1 => ?_)
  refine sm_icmp_ge 57 ii_wy_spreadReach_21 (by decide) ?_ ?_
  · refine sm_iinc (a1 + (1 : Int32)) [some (.ref 49), some (.int (a1 + (1 : Int32))), some (.int a2)] ii_wy_spreadReach_57 rfl rfl rfl rfl ?_
    refine sm_goto 2 ii_wy_spreadReach_60 (by decide) ?_
    refine sm_msk [true, true, false] [some (.ref 49), some (.int (a1 + (1 : Int32))), none] rfl ?_
    exact hself2 ((a1 + (1 : Int32))) w
  · refine sm_aload_n ii_wy_spreadReach_24 rfl ?_
    refine sm_getR 54 ii_wy_spreadReach_25 fl_wy_28 (k := 49) rfl ?_
    refine sm_iload_n ii_wy_spreadReach_28 rfl ?_
    refine sm_aload_n ii_wy_spreadReach_29 rfl ?_
    refine sm_getR 54 ii_wy_spreadReach_30 fl_wy_28 (k := 49) rfl ?_
    refine sm_iload_n ii_wy_spreadReach_33 rfl ?_
    refine sm_iald ii_wy_spreadReach_34 (k := 54) rfl (fun x2 => ?_)
    refine sm_aload_n ii_wy_spreadReach_35 rfl ?_
    refine sm_getR 54 ii_wy_spreadReach_36 fl_wy_28 (k := 49) rfl ?_
    refine sm_iload_n ii_wy_spreadReach_39 rfl ?_
    refine sm_iconst (1 : Int32) ii_wy_spreadReach_40 (by decide) ?_
    refine sm_iload_n ii_wy_spreadReach_41 rfl ?_
    refine sm_ishl ii_wy_spreadReach_42 ?_
    refine sm_iconst (-1 : Int32) ii_wy_spreadReach_43 (by decide) ?_
    refine sm_ixor ii_wy_spreadReach_44 ?_
    refine sm_iand ii_wy_spreadReach_45 ?_
    refine sm_iald ii_wy_spreadReach_46 (k := 54) rfl (fun x3 => ?_)
    refine sm_mmax ii_wy_spreadReach_47 mq_wy_46 mq_st_max mq_in mq_co_max (by decide) rfl ?_
    refine sm_iast ii_wy_spreadReach_50 (k := 54) rfl (fun w4 => ?_)
    refine sm_iinc (a2 + (1 : Int32)) [some (.ref 49), some (.int a1), some (.int (a2 + (1 : Int32)))] ii_wy_spreadReach_51 rfl rfl rfl rfl ?_
    refine sm_goto 15 ii_wy_spreadReach_54 (by decide) ?_
    exact hself15 (a1) ((a2 + (1 : Int32))) w4
set_option maxHeartbeats 4000000 in
set_option maxRecDepth 100000 in
theorem ss_wy_spreadReach_15_f {E : Nat × (Nat → Int32)} (self2 : Int32 → sm_Mem → sm_R) (hself2 : ∀ (a1 : Int32) (w : sm_Mem), sm_Sim E (mi_wy_spreadReach) 2 [some (.ref 49), some (.int a1), none] [] w (self2 a1 w)) : ∀ (n : Nat) (a1 : Int32) (a2 : Int32) (w : sm_Mem), sm_Sim E (mi_wy_spreadReach) 15 [some (.ref 49), some (.int a1), some (.int a2)] [] w (ff_wy_spreadReach_15_f self2 n a1 a2 w)
  | 0, _, _, _ => fun _ _ h => by cases h
  | n + 1, a1, a2, w => ss_wy_spreadReach_15_b self2 hself2 _ (ss_wy_spreadReach_15_f self2 hself2 n) a1 a2 w
set_option maxHeartbeats 4000000 in
set_option maxRecDepth 100000 in
theorem ss_wy_spreadReach_15 {E : Nat × (Nat → Int32)} (self2 : Int32 → sm_Mem → sm_R) (hself2 : ∀ (a1 : Int32) (w : sm_Mem), sm_Sim E (mi_wy_spreadReach) 2 [some (.ref 49), some (.int a1), none] [] w (self2 a1 w)) (a1 : Int32) (a2 : Int32) (w : sm_Mem) : sm_Sim E (mi_wy_spreadReach) 15 [some (.ref 49), some (.int a1), some (.int a2)] [] w (ff_wy_spreadReach_15 self2 a1 a2 w) := ss_wy_spreadReach_15_f self2 hself2 sm_N a1 a2 w
noncomputable def ff_wy_spreadReach_2_b  (self2 : Int32 → sm_Mem → sm_R) (a1 : Int32) (w : sm_Mem) : sm_R := (if (w.1 36 0) ≤ a1 then (some (.null, w)) else ff_wy_spreadReach_15 self2 (a1) ((0 : Int32)) w)
noncomputable def ff_wy_spreadReach_2_f  : Nat → Int32 → sm_Mem → sm_R
  | 0, _, _ => none
  | n + 1, a1, w => ff_wy_spreadReach_2_b  (ff_wy_spreadReach_2_f  n) a1 w
noncomputable def ff_wy_spreadReach_2  (a1 : Int32) (w : sm_Mem) : sm_R := ff_wy_spreadReach_2_f  sm_N a1 w
set_option maxHeartbeats 4000000 in
set_option maxRecDepth 100000 in
theorem ss_wy_spreadReach_2_b {E : Nat × (Nat → Int32)}  (self2 : Int32 → sm_Mem → sm_R) (hself2 : ∀ (a1 : Int32) (w : sm_Mem), sm_Sim E (mi_wy_spreadReach) 2 [some (.ref 49), some (.int a1), none] [] w (self2 a1 w)) (a1 : Int32) (w : sm_Mem) : sm_Sim E (mi_wy_spreadReach) 2 [some (.ref 49), some (.int a1), none] [] w (ff_wy_spreadReach_2_b  self2 a1 w) := by
  unfold ff_wy_spreadReach_2_b
  refine sm_iload_n ii_wy_spreadReach_2 rfl ?_
  refine sm_aload_n ii_wy_spreadReach_3 rfl ?_
  refine sm_getR 36 ii_wy_spreadReach_4 fl_wy_9 (k := 49) rfl ?_
  refine sm_getI ii_wy_spreadReach_7 fl_wy_84 (k := 36) rfl ?_
  refine sm_icmp_ge 63 ii_wy_spreadReach_10 (by decide) ?_ ?_
  · exact sm_vret ii_wy_spreadReach_63 rfl
  · refine sm_iconst (0 : Int32) ii_wy_spreadReach_13 (by decide) ?_
    refine sm_istore_n [some (.ref 49), some (.int a1), some (.int (0 : Int32))] ii_wy_spreadReach_14 rfl rfl ?_
    exact ss_wy_spreadReach_15 self2 hself2 (a1) ((0 : Int32)) w
set_option maxHeartbeats 4000000 in
set_option maxRecDepth 100000 in
theorem ss_wy_spreadReach_2_f {E : Nat × (Nat → Int32)}  : ∀ (n : Nat) (a1 : Int32) (w : sm_Mem), sm_Sim E (mi_wy_spreadReach) 2 [some (.ref 49), some (.int a1), none] [] w (ff_wy_spreadReach_2_f  n a1 w)
  | 0, _, _ => fun _ _ h => by cases h
  | n + 1, a1, w => ss_wy_spreadReach_2_b  _ (ss_wy_spreadReach_2_f  n) a1 w
set_option maxHeartbeats 4000000 in
set_option maxRecDepth 100000 in
theorem ss_wy_spreadReach_2 {E : Nat × (Nat → Int32)}  (a1 : Int32) (w : sm_Mem) : sm_Sim E (mi_wy_spreadReach) 2 [some (.ref 49), some (.int a1), none] [] w (ff_wy_spreadReach_2  a1 w) := ss_wy_spreadReach_2_f  sm_N a1 w
noncomputable def ff_wy_spreadReach   (w : sm_Mem) : sm_R := ff_wy_spreadReach_2 ((0 : Int32)) w
set_option maxHeartbeats 4000000 in
set_option maxRecDepth 100000 in
theorem ss_wy_spreadReach_0 {E : Nat × (Nat → Int32)}   (w : sm_Mem) : sm_Sim E (mi_wy_spreadReach) 0 [some (.ref 49), none, none] [] w (ff_wy_spreadReach   w) := by
  unfold ff_wy_spreadReach
  refine sm_iconst (0 : Int32) ii_wy_spreadReach_0 (by decide) ?_
  refine sm_istore_n [some (.ref 49), some (.int (0 : Int32)), none] ii_wy_spreadReach_1 rfl rfl ?_
  exact ss_wy_spreadReach_2 ((0 : Int32)) w
set_option maxHeartbeats 4000000 in
set_option maxRecDepth 100000 in
theorem mc_wy_spreadReach {E : Nat × (Nat → Int32)}  (w : sm_Mem) : sm_MC E mi_wy_spreadReach [.ref 49] w (ff_wy_spreadReach  w) := sm_MC_of E (by decide +kernel) rfl (Nat.le_of_ble_eq_true rfl) (ss_wy_spreadReach_0  w)
abbrev mi_wy_weightOf : sm_MI := (⟨"HerOrders$Ways", "weightOf", "(II)J"⟩, prog_7_method_16_code, 6, (some .long), 1)
set_option maxRecDepth 100000 in
theorem mf_wy_weightOf : sm_MF mi_wy_weightOf 2 := ⟨List.mem_of_getElem? (i := 714) (by decide +kernel), List.mem_of_getElem? (i := 74) (by decide +kernel), ⟨by decide, by decide⟩, by decide +kernel⟩
set_option maxRecDepth 100000 in
theorem mv_wy_weightOf : sm_MFV mi_wy_weightOf := ⟨List.mem_of_getElem? (i := 713) (by decide +kernel), List.mem_of_getElem? (i := 55) (by decide +kernel)⟩
set_option maxRecDepth 100000 in
theorem ii_wy_weightOf_0 : sm_D prog_7_method_16_code 0 1 1 (.lconst 1) := ⟨by decide +kernel, rfl⟩
set_option maxRecDepth 100000 in
theorem ii_wy_weightOf_1 : sm_D prog_7_method_16_code 1 1 2 (.lstore_n 3) := ⟨by decide +kernel, rfl⟩
set_option maxRecDepth 100000 in
theorem ii_wy_weightOf_2 : sm_D prog_7_method_16_code 2 1 3 (.iconst 0) := ⟨by decide +kernel, rfl⟩
set_option maxRecDepth 100000 in
theorem ii_wy_weightOf_3 : sm_D prog_7_method_16_code 3 2 5 (.istore 5) := ⟨by decide +kernel, rfl⟩
set_option maxRecDepth 100000 in
theorem ii_wy_weightOf_5 : sm_D prog_7_method_16_code 5 2 7 (.iload 5) := ⟨by decide +kernel, rfl⟩
set_option maxRecDepth 100000 in
theorem ii_wy_weightOf_7 : sm_D prog_7_method_16_code 7 1 8 (.aload_n 0) := ⟨by decide +kernel, rfl⟩
set_option maxRecDepth 100000 in
theorem ii_wy_weightOf_8 : sm_D prog_7_method_16_code 8 3 11 (.getfield 9) := ⟨by decide +kernel, rfl⟩
set_option maxRecDepth 100000 in
theorem ii_wy_weightOf_11 : sm_D prog_7_method_16_code 11 3 14 (.getfield 84) := ⟨by decide +kernel, rfl⟩
set_option maxRecDepth 100000 in
theorem ii_wy_weightOf_14 : sm_D prog_7_method_16_code 14 3 17 (.if_icmp .ge 31) := ⟨by decide +kernel, rfl⟩
set_option maxRecDepth 100000 in
theorem ii_wy_weightOf_17 : sm_D prog_7_method_16_code 17 1 18 (.lload_n 3) := ⟨by decide +kernel, rfl⟩
set_option maxRecDepth 100000 in
theorem ii_wy_weightOf_18 : sm_D prog_7_method_16_code 18 1 19 (.iload_n 1) := ⟨by decide +kernel, rfl⟩
set_option maxRecDepth 100000 in
theorem ii_wy_weightOf_19 : sm_D prog_7_method_16_code 19 2 21 (.iload 5) := ⟨by decide +kernel, rfl⟩
set_option maxRecDepth 100000 in
theorem ii_wy_weightOf_21 : sm_D prog_7_method_16_code 21 1 22 (.ishr) := ⟨by decide +kernel, rfl⟩
set_option maxRecDepth 100000 in
theorem ii_wy_weightOf_22 : sm_D prog_7_method_16_code 22 1 23 (.iconst 1) := ⟨by decide +kernel, rfl⟩
set_option maxRecDepth 100000 in
theorem ii_wy_weightOf_23 : sm_D prog_7_method_16_code 23 1 24 (.iand) := ⟨by decide +kernel, rfl⟩
set_option maxRecDepth 100000 in
theorem ii_wy_weightOf_24 : sm_D prog_7_method_16_code 24 3 27 (.ifCond .ne 8) := ⟨by decide +kernel, rfl⟩
set_option maxRecDepth 100000 in
theorem ii_wy_weightOf_27 : sm_D prog_7_method_16_code 27 1 28 (.iload_n 2) := ⟨by decide +kernel, rfl⟩
set_option maxRecDepth 100000 in
theorem ii_wy_weightOf_28 : sm_D prog_7_method_16_code 28 1 29 (.i2l) := ⟨by decide +kernel, rfl⟩
set_option maxRecDepth 100000 in
theorem ii_wy_weightOf_29 : sm_D prog_7_method_16_code 29 3 32 (.goto 8) := ⟨by decide +kernel, rfl⟩
set_option maxRecDepth 100000 in
theorem ii_wy_weightOf_32 : sm_D prog_7_method_16_code 32 2 34 (.bipush 12) := ⟨by decide +kernel, rfl⟩
set_option maxRecDepth 100000 in
theorem ii_wy_weightOf_34 : sm_D prog_7_method_16_code 34 1 35 (.iload_n 2) := ⟨by decide +kernel, rfl⟩
set_option maxRecDepth 100000 in
theorem ii_wy_weightOf_35 : sm_D prog_7_method_16_code 35 1 36 (.isub) := ⟨by decide +kernel, rfl⟩
set_option maxRecDepth 100000 in
theorem ii_wy_weightOf_36 : sm_D prog_7_method_16_code 36 1 37 (.i2l) := ⟨by decide +kernel, rfl⟩
set_option maxRecDepth 100000 in
theorem ii_wy_weightOf_37 : sm_D prog_7_method_16_code 37 1 38 (.lmul) := ⟨by decide +kernel, rfl⟩
set_option maxRecDepth 100000 in
theorem ii_wy_weightOf_38 : sm_D prog_7_method_16_code 38 1 39 (.lstore_n 3) := ⟨by decide +kernel, rfl⟩
set_option maxRecDepth 100000 in
theorem ii_wy_weightOf_39 : sm_D prog_7_method_16_code 39 3 42 (.iinc 5 1) := ⟨by decide +kernel, rfl⟩
set_option maxRecDepth 100000 in
theorem ii_wy_weightOf_42 : sm_D prog_7_method_16_code 42 3 45 (.goto (-37)) := ⟨by decide +kernel, rfl⟩
set_option maxRecDepth 100000 in
theorem ii_wy_weightOf_45 : sm_D prog_7_method_16_code 45 1 46 (.lload_n 3) := ⟨by decide +kernel, rfl⟩
set_option maxRecDepth 100000 in
theorem ii_wy_weightOf_46 : sm_D prog_7_method_16_code 46 1 47 (.lreturn) := ⟨by decide +kernel, rfl⟩
noncomputable def ff_wy_weightOf_37 (self5 : Int32 → Int32 → Int64 → Int32 → sm_Mem → sm_R) (a1 : Int32) (a2 : Int32) (a5 : Int32) (b0 : Int64) (b1 : Int64) (w : sm_Mem) : sm_R := self5 (a1) (a2) ((b0 * b1)) ((a5 + (1 : Int32))) w
set_option maxHeartbeats 4000000 in
set_option maxRecDepth 100000 in
theorem ss_wy_weightOf_37 {E : Nat × (Nat → Int32)} (self5 : Int32 → Int32 → Int64 → Int32 → sm_Mem → sm_R) (hself5 : ∀ (a1 : Int32) (a2 : Int32) (a3 : Int64) (a5 : Int32) (w : sm_Mem), sm_Sim E (mi_wy_weightOf) 5 [some (.ref 49), some (.int a1), some (.int a2), some (.long a3), none, some (.int a5)] [] w (self5 a1 a2 a3 a5 w)) (a1 : Int32) (a2 : Int32) (a5 : Int32) (b0 : Int64) (b1 : Int64) (w : sm_Mem) : sm_Sim E (mi_wy_weightOf) 37 [some (.ref 49), some (.int a1), some (.int a2), none, none, some (.int a5)] [.long b1, .long b0] w (ff_wy_weightOf_37 self5 a1 a2 a5 b0 b1 w) := by
  unfold ff_wy_weightOf_37
  refine sm_lmul ii_wy_weightOf_37 ?_
  refine sm_lstore_n [some (.ref 49), some (.int a1), some (.int a2), some (.long (b0 * b1)), none, some (.int a5)] ii_wy_weightOf_38 rfl rfl ?_
  refine sm_iinc (a5 + (1 : Int32)) [some (.ref 49), some (.int a1), some (.int a2), some (.long (b0 * b1)), none, some (.int (a5 + (1 : Int32)))] ii_wy_weightOf_39 rfl rfl rfl rfl ?_
  refine sm_goto 5 ii_wy_weightOf_42 (by decide) ?_
  exact hself5 (a1) (a2) ((b0 * b1)) ((a5 + (1 : Int32))) w
noncomputable def ff_wy_weightOf_5_b  (self5 : Int32 → Int32 → Int64 → Int32 → sm_Mem → sm_R) (a1 : Int32) (a2 : Int32) (a3 : Int64) (a5 : Int32) (w : sm_Mem) : sm_R := (if (w.1 36 0) ≤ a5 then (some (.long a3, w)) else (if ((a1 >>> (a5 &&& (31 : Int32))) &&& (1 : Int32)) = (0 : Int32) then ff_wy_weightOf_37 self5 (a1) (a2) (a5) (a3) ((Int32.toInt64 a2)) w else ff_wy_weightOf_37 self5 (a1) (a2) (a5) (a3) ((Int32.toInt64 ((12 : Int32) - a2))) w))
noncomputable def ff_wy_weightOf_5_f  : Nat → Int32 → Int32 → Int64 → Int32 → sm_Mem → sm_R
  | 0, _, _, _, _, _ => none
  | n + 1, a1, a2, a3, a5, w => ff_wy_weightOf_5_b  (ff_wy_weightOf_5_f  n) a1 a2 a3 a5 w
noncomputable def ff_wy_weightOf_5  (a1 : Int32) (a2 : Int32) (a3 : Int64) (a5 : Int32) (w : sm_Mem) : sm_R := ff_wy_weightOf_5_f  sm_N a1 a2 a3 a5 w
set_option maxHeartbeats 4000000 in
set_option maxRecDepth 100000 in
theorem ss_wy_weightOf_5_b {E : Nat × (Nat → Int32)}  (self5 : Int32 → Int32 → Int64 → Int32 → sm_Mem → sm_R) (hself5 : ∀ (a1 : Int32) (a2 : Int32) (a3 : Int64) (a5 : Int32) (w : sm_Mem), sm_Sim E (mi_wy_weightOf) 5 [some (.ref 49), some (.int a1), some (.int a2), some (.long a3), none, some (.int a5)] [] w (self5 a1 a2 a3 a5 w)) (a1 : Int32) (a2 : Int32) (a3 : Int64) (a5 : Int32) (w : sm_Mem) : sm_Sim E (mi_wy_weightOf) 5 [some (.ref 49), some (.int a1), some (.int a2), some (.long a3), none, some (.int a5)] [] w (ff_wy_weightOf_5_b  self5 a1 a2 a3 a5 w) := by
  unfold ff_wy_weightOf_5_b
  refine sm_iload ii_wy_weightOf_5 rfl ?_
  refine sm_aload_n ii_wy_weightOf_7 rfl ?_
  refine sm_getR 36 ii_wy_weightOf_8 fl_wy_9 (k := 49) rfl ?_
  refine sm_getI ii_wy_weightOf_11 fl_wy_84 (k := 36) rfl ?_
  refine sm_icmp_ge 45 ii_wy_weightOf_14 (by decide) ?_ ?_
  · refine sm_lload_n ii_wy_weightOf_45 rfl ?_
    exact sm_lret ii_wy_weightOf_46 rfl
  · refine sm_lload_n ii_wy_weightOf_17 rfl ?_
    refine sm_iload_n ii_wy_weightOf_18 rfl ?_
    refine sm_iload ii_wy_weightOf_19 rfl ?_
    refine sm_ishr ii_wy_weightOf_21 ?_
    refine sm_iconst (1 : Int32) ii_wy_weightOf_22 (by decide) ?_
    refine sm_iand ii_wy_weightOf_23 ?_
    refine sm_if_ne 32 ii_wy_weightOf_24 (by decide) ?_ ?_
    · refine sm_iload_n ii_wy_weightOf_27 rfl ?_
      refine sm_i2l ii_wy_weightOf_28 ?_
      refine sm_goto 37 ii_wy_weightOf_29 (by decide) ?_
      refine sm_msk [true, true, true, false, false, true] [some (.ref 49), some (.int a1), some (.int a2), none, none, some (.int a5)] rfl ?_
      exact ss_wy_weightOf_37 self5 hself5 (a1) (a2) (a5) (a3) ((Int32.toInt64 a2)) w
    · refine sm_bipush (12 : Int32) ii_wy_weightOf_32 (by decide) ?_
      refine sm_iload_n ii_wy_weightOf_34 rfl ?_
      refine sm_isub ii_wy_weightOf_35 ?_
      refine sm_i2l ii_wy_weightOf_36 ?_
      refine sm_msk [true, true, true, false, false, true] [some (.ref 49), some (.int a1), some (.int a2), none, none, some (.int a5)] rfl ?_
      exact ss_wy_weightOf_37 self5 hself5 (a1) (a2) (a5) (a3) ((Int32.toInt64 ((12 : Int32) - a2))) w
set_option maxHeartbeats 4000000 in
set_option maxRecDepth 100000 in
theorem ss_wy_weightOf_5_f {E : Nat × (Nat → Int32)}  : ∀ (n : Nat) (a1 : Int32) (a2 : Int32) (a3 : Int64) (a5 : Int32) (w : sm_Mem), sm_Sim E (mi_wy_weightOf) 5 [some (.ref 49), some (.int a1), some (.int a2), some (.long a3), none, some (.int a5)] [] w (ff_wy_weightOf_5_f  n a1 a2 a3 a5 w)
  | 0, _, _, _, _, _ => fun _ _ h => by cases h
  | n + 1, a1, a2, a3, a5, w => ss_wy_weightOf_5_b  _ (ss_wy_weightOf_5_f  n) a1 a2 a3 a5 w
set_option maxHeartbeats 4000000 in
set_option maxRecDepth 100000 in
theorem ss_wy_weightOf_5 {E : Nat × (Nat → Int32)}  (a1 : Int32) (a2 : Int32) (a3 : Int64) (a5 : Int32) (w : sm_Mem) : sm_Sim E (mi_wy_weightOf) 5 [some (.ref 49), some (.int a1), some (.int a2), some (.long a3), none, some (.int a5)] [] w (ff_wy_weightOf_5  a1 a2 a3 a5 w) := ss_wy_weightOf_5_f  sm_N a1 a2 a3 a5 w
noncomputable def ff_wy_weightOf  (a1 : Int32) (a2 : Int32) (w : sm_Mem) : sm_R := ff_wy_weightOf_5 (a1) (a2) ((1 : Int64)) ((0 : Int32)) w
set_option maxHeartbeats 4000000 in
set_option maxRecDepth 100000 in
theorem ss_wy_weightOf_0 {E : Nat × (Nat → Int32)}  (a1 : Int32) (a2 : Int32) (w : sm_Mem) : sm_Sim E (mi_wy_weightOf) 0 [some (.ref 49), some (.int a1), some (.int a2), none, none, none] [] w (ff_wy_weightOf  a1 a2 w) := by
  unfold ff_wy_weightOf
  refine sm_lconst (1 : Int64) ii_wy_weightOf_0 (by decide) ?_
  refine sm_lstore_n [some (.ref 49), some (.int a1), some (.int a2), some (.long (1 : Int64)), none, none] ii_wy_weightOf_1 rfl rfl ?_
  refine sm_iconst (0 : Int32) ii_wy_weightOf_2 (by decide) ?_
  refine sm_istore [some (.ref 49), some (.int a1), some (.int a2), some (.long (1 : Int64)), none, some (.int (0 : Int32))] ii_wy_weightOf_3 rfl rfl ?_
  exact ss_wy_weightOf_5 (a1) (a2) ((1 : Int64)) ((0 : Int32)) w
set_option maxHeartbeats 4000000 in
set_option maxRecDepth 100000 in
theorem mc_wy_weightOf {E : Nat × (Nat → Int32)} (a1 : Int32) (a2 : Int32) (w : sm_Mem) : sm_MC E mi_wy_weightOf [.ref 49, .int a1, .int a2] w (ff_wy_weightOf a1 a2 w) := sm_MC_of E (by decide +kernel) rfl (Nat.le_of_ble_eq_true rfl) (ss_wy_weightOf_0 a1 a2 w)
abbrev mi_wy_weightOfFull : sm_MI := (⟨"HerOrders$Ways", "weightOfFull", "(I)J"⟩, prog_7_method_13_code, 5, (some .long), 2)
set_option maxRecDepth 100000 in
theorem mf_wy_weightOfFull : sm_MF mi_wy_weightOfFull 1 := ⟨List.mem_of_getElem? (i := 705) (by decide +kernel), List.mem_of_getElem? (i := 74) (by decide +kernel), ⟨by decide, by decide⟩, by decide +kernel⟩
set_option maxRecDepth 100000 in
theorem mv_wy_weightOfFull : sm_MFV mi_wy_weightOfFull := ⟨List.mem_of_getElem? (i := 704) (by decide +kernel), List.mem_of_getElem? (i := 53) (by decide +kernel)⟩
set_option maxRecDepth 100000 in
theorem ii_wy_weightOfFull_0 : sm_D prog_7_method_13_code 0 1 1 (.aload_n 0) := ⟨by decide +kernel, rfl⟩
set_option maxRecDepth 100000 in
theorem ii_wy_weightOfFull_1 : sm_D prog_7_method_13_code 1 3 4 (.invokevirtual 120) := ⟨by decide +kernel, rfl⟩
set_option maxRecDepth 100000 in
theorem ii_wy_weightOfFull_4 : sm_D prog_7_method_13_code 4 1 5 (.lconst 0) := ⟨by decide +kernel, rfl⟩
set_option maxRecDepth 100000 in
theorem ii_wy_weightOfFull_5 : sm_D prog_7_method_13_code 5 1 6 (.lstore_n 2) := ⟨by decide +kernel, rfl⟩
set_option maxRecDepth 100000 in
theorem ii_wy_weightOfFull_6 : sm_D prog_7_method_13_code 6 1 7 (.iconst 0) := ⟨by decide +kernel, rfl⟩
set_option maxRecDepth 100000 in
theorem ii_wy_weightOfFull_7 : sm_D prog_7_method_13_code 7 2 9 (.istore 4) := ⟨by decide +kernel, rfl⟩
set_option maxRecDepth 100000 in
theorem ii_wy_weightOfFull_9 : sm_D prog_7_method_13_code 9 2 11 (.iload 4) := ⟨by decide +kernel, rfl⟩
set_option maxRecDepth 100000 in
theorem ii_wy_weightOfFull_11 : sm_D prog_7_method_13_code 11 1 12 (.aload_n 0) := ⟨by decide +kernel, rfl⟩
set_option maxRecDepth 100000 in
theorem ii_wy_weightOfFull_12 : sm_D prog_7_method_13_code 12 3 15 (.getfield 9) := ⟨by decide +kernel, rfl⟩
set_option maxRecDepth 100000 in
theorem ii_wy_weightOfFull_15 : sm_D prog_7_method_13_code 15 3 18 (.invokevirtual 123) := ⟨by decide +kernel, rfl⟩
set_option maxRecDepth 100000 in
theorem ii_wy_weightOfFull_18 : sm_D prog_7_method_13_code 18 3 21 (.if_icmp .gt 33) := ⟨by decide +kernel, rfl⟩
set_option maxRecDepth 100000 in
theorem ii_wy_weightOfFull_21 : sm_D prog_7_method_13_code 21 1 22 (.aload_n 0) := ⟨by decide +kernel, rfl⟩
set_option maxRecDepth 100000 in
theorem ii_wy_weightOfFull_22 : sm_D prog_7_method_13_code 22 3 25 (.getfield 28) := ⟨by decide +kernel, rfl⟩
set_option maxRecDepth 100000 in
theorem ii_wy_weightOfFull_25 : sm_D prog_7_method_13_code 25 2 27 (.iload 4) := ⟨by decide +kernel, rfl⟩
set_option maxRecDepth 100000 in
theorem ii_wy_weightOfFull_27 : sm_D prog_7_method_13_code 27 1 28 (.iaload) := ⟨by decide +kernel, rfl⟩
set_option maxRecDepth 100000 in
theorem ii_wy_weightOfFull_28 : sm_D prog_7_method_13_code 28 1 29 (.aload_n 0) := ⟨by decide +kernel, rfl⟩
set_option maxRecDepth 100000 in
theorem ii_wy_weightOfFull_29 : sm_D prog_7_method_13_code 29 3 32 (.getfield 49) := ⟨by decide +kernel, rfl⟩
set_option maxRecDepth 100000 in
theorem ii_wy_weightOfFull_32 : sm_D prog_7_method_13_code 32 3 35 (.if_icmp .ne 13) := ⟨by decide +kernel, rfl⟩
set_option maxRecDepth 100000 in
theorem ii_wy_weightOfFull_35 : sm_D prog_7_method_13_code 35 1 36 (.lload_n 2) := ⟨by decide +kernel, rfl⟩
set_option maxRecDepth 100000 in
theorem ii_wy_weightOfFull_36 : sm_D prog_7_method_13_code 36 1 37 (.aload_n 0) := ⟨by decide +kernel, rfl⟩
set_option maxRecDepth 100000 in
theorem ii_wy_weightOfFull_37 : sm_D prog_7_method_13_code 37 2 39 (.iload 4) := ⟨by decide +kernel, rfl⟩
set_option maxRecDepth 100000 in
theorem ii_wy_weightOfFull_39 : sm_D prog_7_method_13_code 39 1 40 (.iload_n 1) := ⟨by decide +kernel, rfl⟩
set_option maxRecDepth 100000 in
theorem ii_wy_weightOfFull_40 : sm_D prog_7_method_13_code 40 3 43 (.invokevirtual 126) := ⟨by decide +kernel, rfl⟩
set_option maxRecDepth 100000 in
theorem ii_wy_weightOfFull_43 : sm_D prog_7_method_13_code 43 1 44 (.ladd) := ⟨by decide +kernel, rfl⟩
set_option maxRecDepth 100000 in
theorem ii_wy_weightOfFull_44 : sm_D prog_7_method_13_code 44 1 45 (.lstore_n 2) := ⟨by decide +kernel, rfl⟩
set_option maxRecDepth 100000 in
theorem ii_wy_weightOfFull_45 : sm_D prog_7_method_13_code 45 3 48 (.iinc 4 1) := ⟨by decide +kernel, rfl⟩
set_option maxRecDepth 100000 in
theorem ii_wy_weightOfFull_48 : sm_D prog_7_method_13_code 48 3 51 (.goto (-39)) := ⟨by decide +kernel, rfl⟩
set_option maxRecDepth 100000 in
theorem ii_wy_weightOfFull_51 : sm_D prog_7_method_13_code 51 1 52 (.lload_n 2) := ⟨by decide +kernel, rfl⟩
set_option maxRecDepth 100000 in
theorem ii_wy_weightOfFull_52 : sm_D prog_7_method_13_code 52 1 53 (.lreturn) := ⟨by decide +kernel, rfl⟩
noncomputable def ff_wy_weightOfFull_9_b  (self9 : Int32 → Int64 → Int32 → sm_Mem → sm_R) (a1 : Int32) (a2 : Int64) (a4 : Int32) (w : sm_Mem) : sm_R := (sm_cI (ff_hs_allSpeakers  w) fun x1 w2 => (if x1 < a4 then (some (.long a2, w2)) else (Option.bind (sm_rd w2 54 64 a4) fun x3 => (if x3 = (w2.1 49 3) then (sm_cL (ff_wy_weightOf (a4) (a1) w2) fun x4 w5 => self9 (a1) ((a2 + x4)) ((a4 + (1 : Int32))) w5) else self9 (a1) (a2) ((a4 + (1 : Int32))) w2))))
noncomputable def ff_wy_weightOfFull_9_f  : Nat → Int32 → Int64 → Int32 → sm_Mem → sm_R
  | 0, _, _, _, _ => none
  | n + 1, a1, a2, a4, w => ff_wy_weightOfFull_9_b  (ff_wy_weightOfFull_9_f  n) a1 a2 a4 w
noncomputable def ff_wy_weightOfFull_9  (a1 : Int32) (a2 : Int64) (a4 : Int32) (w : sm_Mem) : sm_R := ff_wy_weightOfFull_9_f  sm_N a1 a2 a4 w
set_option maxHeartbeats 4000000 in
set_option maxRecDepth 100000 in
theorem ss_wy_weightOfFull_9_b {E : Nat × (Nat → Int32)}  (self9 : Int32 → Int64 → Int32 → sm_Mem → sm_R) (hself9 : ∀ (a1 : Int32) (a2 : Int64) (a4 : Int32) (w : sm_Mem), sm_Sim E (mi_wy_weightOfFull) 9 [some (.ref 49), some (.int a1), some (.long a2), none, some (.int a4)] [] w (self9 a1 a2 a4 w)) (a1 : Int32) (a2 : Int64) (a4 : Int32) (w : sm_Mem) : sm_Sim E (mi_wy_weightOfFull) 9 [some (.ref 49), some (.int a1), some (.long a2), none, some (.int a4)] [] w (ff_wy_weightOfFull_9_b  self9 a1 a2 a4 w) := by
  unfold ff_wy_weightOfFull_9_b
  refine sm_iload ii_wy_weightOfFull_9 rfl ?_
  refine sm_aload_n ii_wy_weightOfFull_11 rfl ?_
  refine sm_getR 36 ii_wy_weightOfFull_12 fl_wy_9 (k := 49) rfl ?_
  refine sm_cvI [] [.int a4] rfl ii_wy_weightOfFull_15 ml_wy_123 (mf_hs_allSpeakers) (mv_hs_allSpeakers) (Nat.le_of_ble_eq_true rfl) rfl 1 rfl rfl rfl rfl (mc_hs_allSpeakers  w) (fun x1 w2 => ?_)
  refine sm_icmp_gt 51 ii_wy_weightOfFull_18 (by decide) ?_ ?_
  · refine sm_lload_n ii_wy_weightOfFull_51 rfl ?_
    exact sm_lret ii_wy_weightOfFull_52 rfl
  · refine sm_aload_n ii_wy_weightOfFull_21 rfl ?_
    refine sm_getR 54 ii_wy_weightOfFull_22 fl_wy_28 (k := 49) rfl ?_
    refine sm_iload ii_wy_weightOfFull_25 rfl ?_
    refine sm_iald ii_wy_weightOfFull_27 (k := 54) rfl (fun x3 => ?_)
    refine sm_aload_n ii_wy_weightOfFull_28 rfl ?_
    refine sm_getI ii_wy_weightOfFull_29 fl_wy_49 (k := 49) rfl ?_
    refine sm_icmp_ne 45 ii_wy_weightOfFull_32 (by decide) ?_ ?_
    · refine sm_lload_n ii_wy_weightOfFull_35 rfl ?_
      refine sm_aload_n ii_wy_weightOfFull_36 rfl ?_
      refine sm_iload ii_wy_weightOfFull_37 rfl ?_
      refine sm_iload_n ii_wy_weightOfFull_39 rfl ?_
      refine sm_cvL [.int a4, .int a1] [.long a2] rfl ii_wy_weightOfFull_40 ml_wy_126 (mf_wy_weightOf) (mv_wy_weightOf) (Nat.le_of_ble_eq_true rfl) rfl 5 rfl rfl rfl rfl (mc_wy_weightOf (a4) (a1) w2) (fun x4 w5 => ?_)
      refine sm_ladd ii_wy_weightOfFull_43 ?_
      refine sm_lstore_n [some (.ref 49), some (.int a1), some (.long (a2 + x4)), none, some (.int a4)] ii_wy_weightOfFull_44 rfl rfl ?_
      refine sm_iinc (a4 + (1 : Int32)) [some (.ref 49), some (.int a1), some (.long (a2 + x4)), none, some (.int (a4 + (1 : Int32)))] ii_wy_weightOfFull_45 rfl rfl rfl rfl ?_
      refine sm_goto 9 ii_wy_weightOfFull_48 (by decide) ?_
      exact hself9 (a1) ((a2 + x4)) ((a4 + (1 : Int32))) w5
    · refine sm_iinc (a4 + (1 : Int32)) [some (.ref 49), some (.int a1), some (.long a2), none, some (.int (a4 + (1 : Int32)))] ii_wy_weightOfFull_45 rfl rfl rfl rfl ?_
      refine sm_goto 9 ii_wy_weightOfFull_48 (by decide) ?_
      exact hself9 (a1) (a2) ((a4 + (1 : Int32))) w2
set_option maxHeartbeats 4000000 in
set_option maxRecDepth 100000 in
theorem ss_wy_weightOfFull_9_f {E : Nat × (Nat → Int32)}  : ∀ (n : Nat) (a1 : Int32) (a2 : Int64) (a4 : Int32) (w : sm_Mem), sm_Sim E (mi_wy_weightOfFull) 9 [some (.ref 49), some (.int a1), some (.long a2), none, some (.int a4)] [] w (ff_wy_weightOfFull_9_f  n a1 a2 a4 w)
  | 0, _, _, _, _ => fun _ _ h => by cases h
  | n + 1, a1, a2, a4, w => ss_wy_weightOfFull_9_b  _ (ss_wy_weightOfFull_9_f  n) a1 a2 a4 w
set_option maxHeartbeats 4000000 in
set_option maxRecDepth 100000 in
theorem ss_wy_weightOfFull_9 {E : Nat × (Nat → Int32)}  (a1 : Int32) (a2 : Int64) (a4 : Int32) (w : sm_Mem) : sm_Sim E (mi_wy_weightOfFull) 9 [some (.ref 49), some (.int a1), some (.long a2), none, some (.int a4)] [] w (ff_wy_weightOfFull_9  a1 a2 a4 w) := ss_wy_weightOfFull_9_f  sm_N a1 a2 a4 w
noncomputable def ff_wy_weightOfFull  (a1 : Int32) (w : sm_Mem) : sm_R := (sm_cV (ff_wy_spreadReach  w) fun w7 => ff_wy_weightOfFull_9 (a1) ((0 : Int64)) ((0 : Int32)) w7)
set_option maxHeartbeats 4000000 in
set_option maxRecDepth 100000 in
theorem ss_wy_weightOfFull_0 {E : Nat × (Nat → Int32)}  (a1 : Int32) (w : sm_Mem) : sm_Sim E (mi_wy_weightOfFull) 0 [some (.ref 49), some (.int a1), none, none, none] [] w (ff_wy_weightOfFull  a1 w) := by
  unfold ff_wy_weightOfFull
  refine sm_aload_n ii_wy_weightOfFull_0 rfl ?_
  refine sm_cvV [] [] rfl ii_wy_weightOfFull_1 ml_wy_120 (mf_wy_spreadReach) (mv_wy_spreadReach) (Nat.le_of_ble_eq_true rfl) rfl 5 rfl rfl rfl rfl (mc_wy_spreadReach  w) (fun w7 => ?_)
  refine sm_lconst (0 : Int64) ii_wy_weightOfFull_4 (by decide) ?_
  refine sm_lstore_n [some (.ref 49), some (.int a1), some (.long (0 : Int64)), none, none] ii_wy_weightOfFull_5 rfl rfl ?_
  refine sm_iconst (0 : Int32) ii_wy_weightOfFull_6 (by decide) ?_
  refine sm_istore [some (.ref 49), some (.int a1), some (.long (0 : Int64)), none, some (.int (0 : Int32))] ii_wy_weightOfFull_7 rfl rfl ?_
  exact ss_wy_weightOfFull_9 (a1) ((0 : Int64)) ((0 : Int32)) w7
set_option maxHeartbeats 4000000 in
set_option maxRecDepth 100000 in
theorem mc_wy_weightOfFull {E : Nat × (Nat → Int32)} (a1 : Int32) (w : sm_Mem) : sm_MC E mi_wy_weightOfFull [.ref 49, .int a1] w (ff_wy_weightOfFull a1 w) := sm_MC_of E (by decide +kernel) rfl (Nat.le_of_ble_eq_true rfl) (ss_wy_weightOfFull_0 a1 w)
abbrev mi_wy_weightOfAny : sm_MI := (⟨"HerOrders$Ways", "weightOfAny", "()J"⟩, prog_7_method_12_code, 4, (some .long), 1)
set_option maxRecDepth 100000 in
theorem mf_wy_weightOfAny : sm_MF mi_wy_weightOfAny 0 := ⟨List.mem_of_getElem? (i := 718) (by decide +kernel), List.mem_of_getElem? (i := 74) (by decide +kernel), ⟨by decide, by decide⟩, by decide +kernel⟩
set_option maxRecDepth 100000 in
theorem mv_wy_weightOfAny : sm_MFV mi_wy_weightOfAny := ⟨List.mem_of_getElem? (i := 717) (by decide +kernel), List.mem_of_getElem? (i := 56) (by decide +kernel)⟩
set_option maxRecDepth 100000 in
theorem ii_wy_weightOfAny_0 : sm_D prog_7_method_12_code 0 1 1 (.lconst 1) := ⟨by decide +kernel, rfl⟩
set_option maxRecDepth 100000 in
theorem ii_wy_weightOfAny_1 : sm_D prog_7_method_12_code 1 1 2 (.lstore_n 1) := ⟨by decide +kernel, rfl⟩
set_option maxRecDepth 100000 in
theorem ii_wy_weightOfAny_2 : sm_D prog_7_method_12_code 2 1 3 (.iconst 0) := ⟨by decide +kernel, rfl⟩
set_option maxRecDepth 100000 in
theorem ii_wy_weightOfAny_3 : sm_D prog_7_method_12_code 3 1 4 (.istore_n 3) := ⟨by decide +kernel, rfl⟩
set_option maxRecDepth 100000 in
theorem ii_wy_weightOfAny_4 : sm_D prog_7_method_12_code 4 1 5 (.iload_n 3) := ⟨by decide +kernel, rfl⟩
set_option maxRecDepth 100000 in
theorem ii_wy_weightOfAny_5 : sm_D prog_7_method_12_code 5 1 6 (.aload_n 0) := ⟨by decide +kernel, rfl⟩
set_option maxRecDepth 100000 in
theorem ii_wy_weightOfAny_6 : sm_D prog_7_method_12_code 6 3 9 (.getfield 9) := ⟨by decide +kernel, rfl⟩
set_option maxRecDepth 100000 in
theorem ii_wy_weightOfAny_9 : sm_D prog_7_method_12_code 9 3 12 (.getfield 84) := ⟨by decide +kernel, rfl⟩
set_option maxRecDepth 100000 in
theorem ii_wy_weightOfAny_12 : sm_D prog_7_method_12_code 12 3 15 (.if_icmp .ge 15) := ⟨by decide +kernel, rfl⟩
set_option maxRecDepth 100000 in
theorem ii_wy_weightOfAny_15 : sm_D prog_7_method_12_code 15 1 16 (.lload_n 1) := ⟨by decide +kernel, rfl⟩
set_option maxRecDepth 100000 in
theorem ii_wy_weightOfAny_16 : sm_D prog_7_method_12_code 16 3 19 (.ldc2_w 118) := ⟨by decide +kernel, rfl⟩
set_option maxRecDepth 100000 in
theorem ii_wy_weightOfAny_19 : sm_D prog_7_method_12_code 19 1 20 (.lmul) := ⟨by decide +kernel, rfl⟩
set_option maxRecDepth 100000 in
theorem ii_wy_weightOfAny_20 : sm_D prog_7_method_12_code 20 1 21 (.lstore_n 1) := ⟨by decide +kernel, rfl⟩
set_option maxRecDepth 100000 in
theorem ii_wy_weightOfAny_21 : sm_D prog_7_method_12_code 21 3 24 (.iinc 3 1) := ⟨by decide +kernel, rfl⟩
set_option maxRecDepth 100000 in
theorem ii_wy_weightOfAny_24 : sm_D prog_7_method_12_code 24 3 27 (.goto (-20)) := ⟨by decide +kernel, rfl⟩
set_option maxRecDepth 100000 in
theorem ii_wy_weightOfAny_27 : sm_D prog_7_method_12_code 27 1 28 (.lload_n 1) := ⟨by decide +kernel, rfl⟩
set_option maxRecDepth 100000 in
theorem ii_wy_weightOfAny_28 : sm_D prog_7_method_12_code 28 1 29 (.lreturn) := ⟨by decide +kernel, rfl⟩
noncomputable def ff_wy_weightOfAny_4_b  (self4 : Int64 → Int32 → sm_Mem → sm_R) (a1 : Int64) (a3 : Int32) (w : sm_Mem) : sm_R := (if (w.1 36 0) ≤ a3 then (some (.long a1, w)) else self4 ((a1 * (12 : Int64))) ((a3 + (1 : Int32))) w)
noncomputable def ff_wy_weightOfAny_4_f  : Nat → Int64 → Int32 → sm_Mem → sm_R
  | 0, _, _, _ => none
  | n + 1, a1, a3, w => ff_wy_weightOfAny_4_b  (ff_wy_weightOfAny_4_f  n) a1 a3 w
noncomputable def ff_wy_weightOfAny_4  (a1 : Int64) (a3 : Int32) (w : sm_Mem) : sm_R := ff_wy_weightOfAny_4_f  sm_N a1 a3 w
set_option maxHeartbeats 4000000 in
set_option maxRecDepth 100000 in
theorem ss_wy_weightOfAny_4_b {E : Nat × (Nat → Int32)}  (self4 : Int64 → Int32 → sm_Mem → sm_R) (hself4 : ∀ (a1 : Int64) (a3 : Int32) (w : sm_Mem), sm_Sim E (mi_wy_weightOfAny) 4 [some (.ref 49), some (.long a1), none, some (.int a3)] [] w (self4 a1 a3 w)) (a1 : Int64) (a3 : Int32) (w : sm_Mem) : sm_Sim E (mi_wy_weightOfAny) 4 [some (.ref 49), some (.long a1), none, some (.int a3)] [] w (ff_wy_weightOfAny_4_b  self4 a1 a3 w) := by
  unfold ff_wy_weightOfAny_4_b
  refine sm_iload_n ii_wy_weightOfAny_4 rfl ?_
  refine sm_aload_n ii_wy_weightOfAny_5 rfl ?_
  refine sm_getR 36 ii_wy_weightOfAny_6 fl_wy_9 (k := 49) rfl ?_
  refine sm_getI ii_wy_weightOfAny_9 fl_wy_84 (k := 36) rfl ?_
  refine sm_icmp_ge 27 ii_wy_weightOfAny_12 (by decide) ?_ ?_
  · refine sm_lload_n ii_wy_weightOfAny_27 rfl ?_
    exact sm_lret ii_wy_weightOfAny_28 rfl
  · refine sm_lload_n ii_wy_weightOfAny_15 rfl ?_
    refine sm_ldc2 (12 : Int64) ii_wy_weightOfAny_16 (List.mem_of_getElem? (i := 719) (by decide +kernel)) ?_
    refine sm_lmul ii_wy_weightOfAny_19 ?_
    refine sm_lstore_n [some (.ref 49), some (.long (a1 * (12 : Int64))), none, some (.int a3)] ii_wy_weightOfAny_20 rfl rfl ?_
    refine sm_iinc (a3 + (1 : Int32)) [some (.ref 49), some (.long (a1 * (12 : Int64))), none, some (.int (a3 + (1 : Int32)))] ii_wy_weightOfAny_21 rfl rfl rfl rfl ?_
    refine sm_goto 4 ii_wy_weightOfAny_24 (by decide) ?_
    exact hself4 ((a1 * (12 : Int64))) ((a3 + (1 : Int32))) w
set_option maxHeartbeats 4000000 in
set_option maxRecDepth 100000 in
theorem ss_wy_weightOfAny_4_f {E : Nat × (Nat → Int32)}  : ∀ (n : Nat) (a1 : Int64) (a3 : Int32) (w : sm_Mem), sm_Sim E (mi_wy_weightOfAny) 4 [some (.ref 49), some (.long a1), none, some (.int a3)] [] w (ff_wy_weightOfAny_4_f  n a1 a3 w)
  | 0, _, _, _ => fun _ _ h => by cases h
  | n + 1, a1, a3, w => ss_wy_weightOfAny_4_b  _ (ss_wy_weightOfAny_4_f  n) a1 a3 w
set_option maxHeartbeats 4000000 in
set_option maxRecDepth 100000 in
theorem ss_wy_weightOfAny_4 {E : Nat × (Nat → Int32)}  (a1 : Int64) (a3 : Int32) (w : sm_Mem) : sm_Sim E (mi_wy_weightOfAny) 4 [some (.ref 49), some (.long a1), none, some (.int a3)] [] w (ff_wy_weightOfAny_4  a1 a3 w) := ss_wy_weightOfAny_4_f  sm_N a1 a3 w
noncomputable def ff_wy_weightOfAny   (w : sm_Mem) : sm_R := ff_wy_weightOfAny_4 ((1 : Int64)) ((0 : Int32)) w
set_option maxHeartbeats 4000000 in
set_option maxRecDepth 100000 in
theorem ss_wy_weightOfAny_0 {E : Nat × (Nat → Int32)}   (w : sm_Mem) : sm_Sim E (mi_wy_weightOfAny) 0 [some (.ref 49), none, none, none] [] w (ff_wy_weightOfAny   w) := by
  unfold ff_wy_weightOfAny
  refine sm_lconst (1 : Int64) ii_wy_weightOfAny_0 (by decide) ?_
  refine sm_lstore_n [some (.ref 49), some (.long (1 : Int64)), none, none] ii_wy_weightOfAny_1 rfl rfl ?_
  refine sm_iconst (0 : Int32) ii_wy_weightOfAny_2 (by decide) ?_
  refine sm_istore_n [some (.ref 49), some (.long (1 : Int64)), none, some (.int (0 : Int32))] ii_wy_weightOfAny_3 rfl rfl ?_
  exact ss_wy_weightOfAny_4 ((1 : Int64)) ((0 : Int32)) w
set_option maxHeartbeats 4000000 in
set_option maxRecDepth 100000 in
theorem mc_wy_weightOfAny {E : Nat × (Nat → Int32)}  (w : sm_Mem) : sm_MC E mi_wy_weightOfAny [.ref 49] w (ff_wy_weightOfAny  w) := sm_MC_of E (by decide +kernel) rfl (Nat.le_of_ble_eq_true rfl) (ss_wy_weightOfAny_0  w)
abbrev mi_ho_odds : sm_MI := (⟨"HerOrders", "odds", "(II)I"⟩, prog_1_method_36_code, 4, (some .int), 15)
set_option maxRecDepth 100000 in
theorem mf_ho_odds : sm_MF mi_ho_odds 2 := ⟨List.mem_of_getElem? (i := 701) (by decide +kernel), List.mem_of_getElem? (i := 69) (by decide +kernel), ⟨by decide, by decide⟩, by decide +kernel⟩
set_option maxRecDepth 100000 in
theorem mv_ho_odds : sm_MFV mi_ho_odds := ⟨List.mem_of_getElem? (i := 699) (by decide +kernel), List.mem_of_getElem? (i := 700) (by decide +kernel)⟩
set_option maxRecDepth 100000 in
theorem ii_ho_odds_0 : sm_D prog_1_method_36_code 0 1 1 (.iload_n 2) := ⟨by decide +kernel, rfl⟩
set_option maxRecDepth 100000 in
theorem ii_ho_odds_1 : sm_D prog_1_method_36_code 1 3 4 (.ifCond .lt 9) := ⟨by decide +kernel, rfl⟩
set_option maxRecDepth 100000 in
theorem ii_ho_odds_4 : sm_D prog_1_method_36_code 4 1 5 (.iload_n 2) := ⟨by decide +kernel, rfl⟩
set_option maxRecDepth 100000 in
theorem ii_ho_odds_5 : sm_D prog_1_method_36_code 5 2 7 (.bipush 12) := ⟨by decide +kernel, rfl⟩
set_option maxRecDepth 100000 in
theorem ii_ho_odds_7 : sm_D prog_1_method_36_code 7 3 10 (.if_icmp .le 5) := ⟨by decide +kernel, rfl⟩
set_option maxRecDepth 100000 in
theorem ii_ho_odds_10 : sm_D prog_1_method_36_code 10 1 11 (.iconst (-1)) := ⟨by decide +kernel, rfl⟩
set_option maxRecDepth 100000 in
theorem ii_ho_odds_11 : sm_D prog_1_method_36_code 11 1 12 (.ireturn) := ⟨by decide +kernel, rfl⟩
set_option maxRecDepth 100000 in
theorem ii_ho_odds_12 : sm_D prog_1_method_36_code 12 1 13 (.aload_n 0) := ⟨by decide +kernel, rfl⟩
set_option maxRecDepth 100000 in
theorem ii_ho_odds_13 : sm_D prog_1_method_36_code 13 1 14 (.iload_n 1) := ⟨by decide +kernel, rfl⟩
set_option maxRecDepth 100000 in
theorem ii_ho_odds_14 : sm_D prog_1_method_36_code 14 1 15 (.iconst 5) := ⟨by decide +kernel, rfl⟩
set_option maxRecDepth 100000 in
theorem ii_ho_odds_15 : sm_D prog_1_method_36_code 15 3 18 (.invokevirtual 192) := ⟨by decide +kernel, rfl⟩
set_option maxRecDepth 100000 in
theorem ii_ho_odds_18 : sm_D prog_1_method_36_code 18 1 19 (.istore_n 3) := ⟨by decide +kernel, rfl⟩
set_option maxRecDepth 100000 in
theorem ii_ho_odds_19 : sm_D prog_1_method_36_code 19 1 20 (.iload_n 3) := ⟨by decide +kernel, rfl⟩
set_option maxRecDepth 100000 in
theorem ii_ho_odds_20 : sm_D prog_1_method_36_code 20 3 23 (.ifCond .eq 5) := ⟨by decide +kernel, rfl⟩
set_option maxRecDepth 100000 in
theorem ii_ho_odds_23 : sm_D prog_1_method_36_code 23 1 24 (.iload_n 3) := ⟨by decide +kernel, rfl⟩
set_option maxRecDepth 100000 in
theorem ii_ho_odds_24 : sm_D prog_1_method_36_code 24 1 25 (.ireturn) := ⟨by decide +kernel, rfl⟩
set_option maxRecDepth 100000 in
theorem ii_ho_odds_25 : sm_D prog_1_method_36_code 25 1 26 (.aload_n 0) := ⟨by decide +kernel, rfl⟩
set_option maxRecDepth 100000 in
theorem ii_ho_odds_26 : sm_D prog_1_method_36_code 26 3 29 (.getfield 40) := ⟨by decide +kernel, rfl⟩
set_option maxRecDepth 100000 in
theorem ii_ho_odds_29 : sm_D prog_1_method_36_code 29 1 30 (.aload_n 0) := ⟨by decide +kernel, rfl⟩
set_option maxRecDepth 100000 in
theorem ii_ho_odds_30 : sm_D prog_1_method_36_code 30 3 33 (.getfield 11) := ⟨by decide +kernel, rfl⟩
set_option maxRecDepth 100000 in
theorem ii_ho_odds_33 : sm_D prog_1_method_36_code 33 1 34 (.iload_n 1) := ⟨by decide +kernel, rfl⟩
set_option maxRecDepth 100000 in
theorem ii_ho_odds_34 : sm_D prog_1_method_36_code 34 1 35 (.aaload) := ⟨by decide +kernel, rfl⟩
set_option maxRecDepth 100000 in
theorem ii_ho_odds_35 : sm_D prog_1_method_36_code 35 2 37 (.bipush (-9)) := ⟨by decide +kernel, rfl⟩
set_option maxRecDepth 100000 in
theorem ii_ho_odds_37 : sm_D prog_1_method_36_code 37 3 40 (.invokevirtual 195) := ⟨by decide +kernel, rfl⟩
set_option maxRecDepth 100000 in
theorem ii_ho_odds_40 : sm_D prog_1_method_36_code 40 1 41 (.aload_n 0) := ⟨by decide +kernel, rfl⟩
set_option maxRecDepth 100000 in
theorem ii_ho_odds_41 : sm_D prog_1_method_36_code 41 3 44 (.getfield 54) := ⟨by decide +kernel, rfl⟩
set_option maxRecDepth 100000 in
theorem ii_ho_odds_44 : sm_D prog_1_method_36_code 44 1 45 (.aload_n 0) := ⟨by decide +kernel, rfl⟩
set_option maxRecDepth 100000 in
theorem ii_ho_odds_45 : sm_D prog_1_method_36_code 45 3 48 (.getfield 40) := ⟨by decide +kernel, rfl⟩
set_option maxRecDepth 100000 in
theorem ii_ho_odds_48 : sm_D prog_1_method_36_code 48 1 49 (.iload_n 2) := ⟨by decide +kernel, rfl⟩
set_option maxRecDepth 100000 in
theorem ii_ho_odds_49 : sm_D prog_1_method_36_code 49 3 52 (.invokevirtual 282) := ⟨by decide +kernel, rfl⟩
set_option maxRecDepth 100000 in
theorem ii_ho_odds_52 : sm_D prog_1_method_36_code 52 1 53 (.aload_n 0) := ⟨by decide +kernel, rfl⟩
set_option maxRecDepth 100000 in
theorem ii_ho_odds_53 : sm_D prog_1_method_36_code 53 3 56 (.getfield 40) := ⟨by decide +kernel, rfl⟩
set_option maxRecDepth 100000 in
theorem ii_ho_odds_56 : sm_D prog_1_method_36_code 56 3 59 (.invokevirtual 286) := ⟨by decide +kernel, rfl⟩
set_option maxRecDepth 100000 in
theorem ii_ho_odds_59 : sm_D prog_1_method_36_code 59 3 62 (.invokevirtual 203) := ⟨by decide +kernel, rfl⟩
set_option maxRecDepth 100000 in
theorem ii_ho_odds_62 : sm_D prog_1_method_36_code 62 1 63 (.iconst 1) := ⟨by decide +kernel, rfl⟩
set_option maxRecDepth 100000 in
theorem ii_ho_odds_63 : sm_D prog_1_method_36_code 63 1 64 (.ireturn) := ⟨by decide +kernel, rfl⟩
noncomputable def ff_ho_odds  (a1 : Int32) (a2 : Int32) (w : sm_Mem) : sm_R := (if a2 < (0 : Int32) then (some (.int (-1 : Int32), w)) else (if a2 ≤ (12 : Int32) then (sm_cI (ff_ho_refusalOfWords (a1) ((5 : Int32)) w) fun x1 w2 => (if x1 = (0 : Int32) then (Option.bind (sm_rr 1 a1) fun r3 => (sm_cV (ff_wy_runWords (r3) ((-9 : Int32)) w2) fun w5 => (sm_cL (ff_wy_weightOfFull (a2) w5) fun x6 w7 => (sm_cL (ff_wy_weightOfAny  w7) fun x8 w9 => (sm_cV (ff_td_share (x6) (x8) w9) fun w11 => (some (.int (1 : Int32), w11))))))) else (some (.int x1, w2)))) else (some (.int (-1 : Int32), w))))
set_option maxHeartbeats 4000000 in
set_option maxRecDepth 100000 in
theorem ss_ho_odds_0 {E : Nat × (Nat → Int32)}  (a1 : Int32) (a2 : Int32) (w : sm_Mem) : sm_Sim E (mi_ho_odds) 0 [some (.ref 0), some (.int a1), some (.int a2), none] [] w (ff_ho_odds  a1 a2 w) := by
  unfold ff_ho_odds
  refine sm_iload_n ii_ho_odds_0 rfl ?_
  refine sm_if_lt 10 ii_ho_odds_1 (by decide) ?_ ?_
  · refine sm_iconst (-1 : Int32) ii_ho_odds_10 (by decide) ?_
    exact sm_iret ii_ho_odds_11 rfl
  · refine sm_iload_n ii_ho_odds_4 rfl ?_
    refine sm_bipush (12 : Int32) ii_ho_odds_5 (by decide) ?_
    refine sm_icmp_le 12 ii_ho_odds_7 (by decide) ?_ ?_
    · refine sm_aload_n ii_ho_odds_12 rfl ?_
      refine sm_iload_n ii_ho_odds_13 rfl ?_
      refine sm_iconst (5 : Int32) ii_ho_odds_14 (by decide) ?_
      refine sm_cvI [.int a1, .int (5 : Int32)] [] rfl ii_ho_odds_15 ml_ho_192 (mf_ho_refusalOfWords) (mv_ho_refusalOfWords) (Nat.le_of_ble_eq_true rfl) rfl 6 rfl rfl rfl rfl (mc_ho_refusalOfWords (a1) ((5 : Int32)) w) (fun x1 w2 => ?_)
      refine sm_istore_n [some (.ref 0), some (.int a1), some (.int a2), some (.int x1)] ii_ho_odds_18 rfl rfl ?_
      refine sm_iload_n ii_ho_odds_19 rfl ?_
      refine sm_if_eq 25 ii_ho_odds_20 (by decide) ?_ ?_
      · refine sm_aload_n ii_ho_odds_25 rfl ?_
        refine sm_getR 49 ii_ho_odds_26 fl_ho_40 (k := 0) rfl ?_
        refine sm_aload_n ii_ho_odds_29 rfl ?_
        refine sm_getR 1 ii_ho_odds_30 fl_ho_11 (k := 0) rfl ?_
        refine sm_iload_n ii_ho_odds_33 rfl ?_
        refine sm_aald ii_ho_odds_34 (fun r3 => ?_)
        refine sm_bipush (-9 : Int32) ii_ho_odds_35 (by decide) ?_
        refine sm_cvV [.ref r3, .int (-9 : Int32)] [] rfl ii_ho_odds_37 ml_ho_195 (mf_wy_runWords) (mv_wy_runWords) (Nat.le_of_ble_eq_true rfl) rfl 5 rfl rfl rfl rfl (mc_wy_runWords (r3) ((-9 : Int32)) w2) (fun w5 => ?_)
        refine sm_aload_n ii_ho_odds_40 rfl ?_
        refine sm_getR 60 ii_ho_odds_41 fl_ho_54 (k := 0) rfl ?_
        refine sm_aload_n ii_ho_odds_44 rfl ?_
        refine sm_getR 49 ii_ho_odds_45 fl_ho_40 (k := 0) rfl ?_
        refine sm_iload_n ii_ho_odds_48 rfl ?_
        refine sm_cvL [.int a2] [.ref 60] rfl ii_ho_odds_49 ml_ho_282 (mf_wy_weightOfFull) (mv_wy_weightOfFull) (Nat.le_of_ble_eq_true rfl) rfl 5 rfl rfl rfl rfl (mc_wy_weightOfFull (a2) w5) (fun x6 w7 => ?_)
        refine sm_aload_n ii_ho_odds_52 rfl ?_
        refine sm_getR 49 ii_ho_odds_53 fl_ho_40 (k := 0) rfl ?_
        refine sm_cvL [] [.long x6, .ref 60] rfl ii_ho_odds_56 ml_ho_286 (mf_wy_weightOfAny) (mv_wy_weightOfAny) (Nat.le_of_ble_eq_true rfl) rfl 5 rfl rfl rfl rfl (mc_wy_weightOfAny  w7) (fun x8 w9 => ?_)
        refine sm_cvV [.long x6, .long x8] [] rfl ii_ho_odds_59 ml_ho_203 (mf_td_share) (mv_td_share) (Nat.le_of_ble_eq_true rfl) rfl 3 rfl rfl rfl rfl (mc_td_share (x6) (x8) w9) (fun w11 => ?_)
        refine sm_iconst (1 : Int32) ii_ho_odds_62 (by decide) ?_
        exact sm_iret ii_ho_odds_63 rfl
      · refine sm_iload_n ii_ho_odds_23 rfl ?_
        exact sm_iret ii_ho_odds_24 rfl
    · refine sm_iconst (-1 : Int32) ii_ho_odds_10 (by decide) ?_
      exact sm_iret ii_ho_odds_11 rfl
set_option maxHeartbeats 4000000 in
set_option maxRecDepth 100000 in
theorem mc_ho_odds {E : Nat × (Nat → Int32)} (a1 : Int32) (a2 : Int32) (w : sm_Mem) : sm_MC E mi_ho_odds [.ref 0, .int a1, .int a2] w (ff_ho_odds a1 a2 w) := sm_MC_of E (by decide +kernel) rfl (Nat.le_of_ble_eq_true rfl) (ss_ho_odds_0 a1 a2 w)
abbrev mi_ho_lower : sm_MI := (⟨"HerOrders", "lower", "()J"⟩, prog_1_method_41_code, 1, (some .long), 1)
set_option maxRecDepth 100000 in
theorem mf_ho_lower : sm_MF mi_ho_lower 0 := ⟨List.mem_of_getElem? (i := 753) (by decide +kernel), List.mem_of_getElem? (i := 69) (by decide +kernel), ⟨by decide, by decide⟩, by decide +kernel⟩
set_option maxRecDepth 100000 in
theorem mv_ho_lower : sm_MFV mi_ho_lower := ⟨List.mem_of_getElem? (i := 751) (by decide +kernel), List.mem_of_getElem? (i := 752) (by decide +kernel)⟩
set_option maxRecDepth 100000 in
theorem ii_ho_lower_0 : sm_D prog_1_method_41_code 0 1 1 (.aload_n 0) := ⟨by decide +kernel, rfl⟩
set_option maxRecDepth 100000 in
theorem ii_ho_lower_1 : sm_D prog_1_method_41_code 1 3 4 (.getfield 54) := ⟨by decide +kernel, rfl⟩
set_option maxRecDepth 100000 in
theorem ii_ho_lower_4 : sm_D prog_1_method_41_code 4 3 7 (.getfield 304) := ⟨by decide +kernel, rfl⟩
set_option maxRecDepth 100000 in
theorem ii_ho_lower_7 : sm_D prog_1_method_41_code 7 1 8 (.lreturn) := ⟨by decide +kernel, rfl⟩
noncomputable def ff_ho_lower   (w : sm_Mem) : sm_R := (some (.long (w.2 60 2), w))
set_option maxHeartbeats 4000000 in
set_option maxRecDepth 100000 in
theorem ss_ho_lower_0 {E : Nat × (Nat → Int32)}   (w : sm_Mem) : sm_Sim E (mi_ho_lower) 0 [some (.ref 0)] [] w (ff_ho_lower   w) := by
  unfold ff_ho_lower
  refine sm_aload_n ii_ho_lower_0 rfl ?_
  refine sm_getR 60 ii_ho_lower_1 fl_ho_54 (k := 0) rfl ?_
  refine sm_getL ii_ho_lower_4 fl_ho_304 (k := 60) rfl ?_
  exact sm_lret ii_ho_lower_7 rfl
set_option maxHeartbeats 4000000 in
set_option maxRecDepth 100000 in
theorem mc_ho_lower {E : Nat × (Nat → Int32)}  (w : sm_Mem) : sm_MC E mi_ho_lower [.ref 0] w (ff_ho_lower  w) := sm_MC_of E (by decide +kernel) rfl (Nat.le_of_ble_eq_true rfl) (ss_ho_lower_0  w)
abbrev mi_wy_weightOfWords : sm_MI := (⟨"HerOrders$Ways", "weightOfWords", "(I)J"⟩, prog_7_method_14_code, 5, (some .long), 2)
set_option maxRecDepth 100000 in
theorem mf_wy_weightOfWords : sm_MF mi_wy_weightOfWords 1 := ⟨List.mem_of_getElem? (i := 727) (by decide +kernel), List.mem_of_getElem? (i := 74) (by decide +kernel), ⟨by decide, by decide⟩, by decide +kernel⟩
set_option maxRecDepth 100000 in
theorem mv_wy_weightOfWords : sm_MFV mi_wy_weightOfWords := ⟨List.mem_of_getElem? (i := 726) (by decide +kernel), List.mem_of_getElem? (i := 57) (by decide +kernel)⟩
set_option maxRecDepth 100000 in
theorem ii_wy_weightOfWords_0 : sm_D prog_7_method_14_code 0 1 1 (.aload_n 0) := ⟨by decide +kernel, rfl⟩
set_option maxRecDepth 100000 in
theorem ii_wy_weightOfWords_1 : sm_D prog_7_method_14_code 1 3 4 (.invokevirtual 120) := ⟨by decide +kernel, rfl⟩
set_option maxRecDepth 100000 in
theorem ii_wy_weightOfWords_4 : sm_D prog_7_method_14_code 4 1 5 (.lconst 0) := ⟨by decide +kernel, rfl⟩
set_option maxRecDepth 100000 in
theorem ii_wy_weightOfWords_5 : sm_D prog_7_method_14_code 5 1 6 (.lstore_n 2) := ⟨by decide +kernel, rfl⟩
set_option maxRecDepth 100000 in
theorem ii_wy_weightOfWords_6 : sm_D prog_7_method_14_code 6 1 7 (.iconst 0) := ⟨by decide +kernel, rfl⟩
set_option maxRecDepth 100000 in
theorem ii_wy_weightOfWords_7 : sm_D prog_7_method_14_code 7 2 9 (.istore 4) := ⟨by decide +kernel, rfl⟩
set_option maxRecDepth 100000 in
theorem ii_wy_weightOfWords_9 : sm_D prog_7_method_14_code 9 2 11 (.iload 4) := ⟨by decide +kernel, rfl⟩
set_option maxRecDepth 100000 in
theorem ii_wy_weightOfWords_11 : sm_D prog_7_method_14_code 11 1 12 (.aload_n 0) := ⟨by decide +kernel, rfl⟩
set_option maxRecDepth 100000 in
theorem ii_wy_weightOfWords_12 : sm_D prog_7_method_14_code 12 3 15 (.getfield 9) := ⟨by decide +kernel, rfl⟩
set_option maxRecDepth 100000 in
theorem ii_wy_weightOfWords_15 : sm_D prog_7_method_14_code 15 3 18 (.invokevirtual 123) := ⟨by decide +kernel, rfl⟩
set_option maxRecDepth 100000 in
theorem ii_wy_weightOfWords_18 : sm_D prog_7_method_14_code 18 3 21 (.if_icmp .gt 28) := ⟨by decide +kernel, rfl⟩
set_option maxRecDepth 100000 in
theorem ii_wy_weightOfWords_21 : sm_D prog_7_method_14_code 21 1 22 (.lload_n 2) := ⟨by decide +kernel, rfl⟩
set_option maxRecDepth 100000 in
theorem ii_wy_weightOfWords_22 : sm_D prog_7_method_14_code 22 1 23 (.aload_n 0) := ⟨by decide +kernel, rfl⟩
set_option maxRecDepth 100000 in
theorem ii_wy_weightOfWords_23 : sm_D prog_7_method_14_code 23 3 26 (.getfield 28) := ⟨by decide +kernel, rfl⟩
set_option maxRecDepth 100000 in
theorem ii_wy_weightOfWords_26 : sm_D prog_7_method_14_code 26 2 28 (.iload 4) := ⟨by decide +kernel, rfl⟩
set_option maxRecDepth 100000 in
theorem ii_wy_weightOfWords_28 : sm_D prog_7_method_14_code 28 1 29 (.iaload) := ⟨by decide +kernel, rfl⟩
set_option maxRecDepth 100000 in
theorem ii_wy_weightOfWords_29 : sm_D prog_7_method_14_code 29 1 30 (.i2l) := ⟨by decide +kernel, rfl⟩
set_option maxRecDepth 100000 in
theorem ii_wy_weightOfWords_30 : sm_D prog_7_method_14_code 30 1 31 (.aload_n 0) := ⟨by decide +kernel, rfl⟩
set_option maxRecDepth 100000 in
theorem ii_wy_weightOfWords_31 : sm_D prog_7_method_14_code 31 2 33 (.iload 4) := ⟨by decide +kernel, rfl⟩
set_option maxRecDepth 100000 in
theorem ii_wy_weightOfWords_33 : sm_D prog_7_method_14_code 33 1 34 (.iload_n 1) := ⟨by decide +kernel, rfl⟩
set_option maxRecDepth 100000 in
theorem ii_wy_weightOfWords_34 : sm_D prog_7_method_14_code 34 3 37 (.invokevirtual 126) := ⟨by decide +kernel, rfl⟩
set_option maxRecDepth 100000 in
theorem ii_wy_weightOfWords_37 : sm_D prog_7_method_14_code 37 1 38 (.lmul) := ⟨by decide +kernel, rfl⟩
set_option maxRecDepth 100000 in
theorem ii_wy_weightOfWords_38 : sm_D prog_7_method_14_code 38 1 39 (.ladd) := ⟨by decide +kernel, rfl⟩
set_option maxRecDepth 100000 in
theorem ii_wy_weightOfWords_39 : sm_D prog_7_method_14_code 39 1 40 (.lstore_n 2) := ⟨by decide +kernel, rfl⟩
set_option maxRecDepth 100000 in
theorem ii_wy_weightOfWords_40 : sm_D prog_7_method_14_code 40 3 43 (.iinc 4 1) := ⟨by decide +kernel, rfl⟩
set_option maxRecDepth 100000 in
theorem ii_wy_weightOfWords_43 : sm_D prog_7_method_14_code 43 3 46 (.goto (-34)) := ⟨by decide +kernel, rfl⟩
set_option maxRecDepth 100000 in
theorem ii_wy_weightOfWords_46 : sm_D prog_7_method_14_code 46 1 47 (.lload_n 2) := ⟨by decide +kernel, rfl⟩
set_option maxRecDepth 100000 in
theorem ii_wy_weightOfWords_47 : sm_D prog_7_method_14_code 47 1 48 (.lreturn) := ⟨by decide +kernel, rfl⟩
noncomputable def ff_wy_weightOfWords_9_b  (self9 : Int32 → Int64 → Int32 → sm_Mem → sm_R) (a1 : Int32) (a2 : Int64) (a4 : Int32) (w : sm_Mem) : sm_R := (sm_cI (ff_hs_allSpeakers  w) fun x1 w2 => (if x1 < a4 then (some (.long a2, w2)) else (Option.bind (sm_rd w2 54 64 a4) fun x3 => (sm_cL (ff_wy_weightOf (a4) (a1) w2) fun x4 w5 => self9 (a1) ((a2 + ((Int32.toInt64 x3) * x4))) ((a4 + (1 : Int32))) w5))))
noncomputable def ff_wy_weightOfWords_9_f  : Nat → Int32 → Int64 → Int32 → sm_Mem → sm_R
  | 0, _, _, _, _ => none
  | n + 1, a1, a2, a4, w => ff_wy_weightOfWords_9_b  (ff_wy_weightOfWords_9_f  n) a1 a2 a4 w
noncomputable def ff_wy_weightOfWords_9  (a1 : Int32) (a2 : Int64) (a4 : Int32) (w : sm_Mem) : sm_R := ff_wy_weightOfWords_9_f  sm_N a1 a2 a4 w
set_option maxHeartbeats 4000000 in
set_option maxRecDepth 100000 in
theorem ss_wy_weightOfWords_9_b {E : Nat × (Nat → Int32)}  (self9 : Int32 → Int64 → Int32 → sm_Mem → sm_R) (hself9 : ∀ (a1 : Int32) (a2 : Int64) (a4 : Int32) (w : sm_Mem), sm_Sim E (mi_wy_weightOfWords) 9 [some (.ref 49), some (.int a1), some (.long a2), none, some (.int a4)] [] w (self9 a1 a2 a4 w)) (a1 : Int32) (a2 : Int64) (a4 : Int32) (w : sm_Mem) : sm_Sim E (mi_wy_weightOfWords) 9 [some (.ref 49), some (.int a1), some (.long a2), none, some (.int a4)] [] w (ff_wy_weightOfWords_9_b  self9 a1 a2 a4 w) := by
  unfold ff_wy_weightOfWords_9_b
  refine sm_iload ii_wy_weightOfWords_9 rfl ?_
  refine sm_aload_n ii_wy_weightOfWords_11 rfl ?_
  refine sm_getR 36 ii_wy_weightOfWords_12 fl_wy_9 (k := 49) rfl ?_
  refine sm_cvI [] [.int a4] rfl ii_wy_weightOfWords_15 ml_wy_123 (mf_hs_allSpeakers) (mv_hs_allSpeakers) (Nat.le_of_ble_eq_true rfl) rfl 1 rfl rfl rfl rfl (mc_hs_allSpeakers  w) (fun x1 w2 => ?_)
  refine sm_icmp_gt 46 ii_wy_weightOfWords_18 (by decide) ?_ ?_
  · refine sm_lload_n ii_wy_weightOfWords_46 rfl ?_
    exact sm_lret ii_wy_weightOfWords_47 rfl
  · refine sm_lload_n ii_wy_weightOfWords_21 rfl ?_
    refine sm_aload_n ii_wy_weightOfWords_22 rfl ?_
    refine sm_getR 54 ii_wy_weightOfWords_23 fl_wy_28 (k := 49) rfl ?_
    refine sm_iload ii_wy_weightOfWords_26 rfl ?_
    refine sm_iald ii_wy_weightOfWords_28 (k := 54) rfl (fun x3 => ?_)
    refine sm_i2l ii_wy_weightOfWords_29 ?_
    refine sm_aload_n ii_wy_weightOfWords_30 rfl ?_
    refine sm_iload ii_wy_weightOfWords_31 rfl ?_
    refine sm_iload_n ii_wy_weightOfWords_33 rfl ?_
    refine sm_cvL [.int a4, .int a1] [.long (Int32.toInt64 x3), .long a2] rfl ii_wy_weightOfWords_34 ml_wy_126 (mf_wy_weightOf) (mv_wy_weightOf) (Nat.le_of_ble_eq_true rfl) rfl 5 rfl rfl rfl rfl (mc_wy_weightOf (a4) (a1) w2) (fun x4 w5 => ?_)
    refine sm_lmul ii_wy_weightOfWords_37 ?_
    refine sm_ladd ii_wy_weightOfWords_38 ?_
    refine sm_lstore_n [some (.ref 49), some (.int a1), some (.long (a2 + ((Int32.toInt64 x3) * x4))), none, some (.int a4)] ii_wy_weightOfWords_39 rfl rfl ?_
    refine sm_iinc (a4 + (1 : Int32)) [some (.ref 49), some (.int a1), some (.long (a2 + ((Int32.toInt64 x3) * x4))), none, some (.int (a4 + (1 : Int32)))] ii_wy_weightOfWords_40 rfl rfl rfl rfl ?_
    refine sm_goto 9 ii_wy_weightOfWords_43 (by decide) ?_
    exact hself9 (a1) ((a2 + ((Int32.toInt64 x3) * x4))) ((a4 + (1 : Int32))) w5
set_option maxHeartbeats 4000000 in
set_option maxRecDepth 100000 in
theorem ss_wy_weightOfWords_9_f {E : Nat × (Nat → Int32)}  : ∀ (n : Nat) (a1 : Int32) (a2 : Int64) (a4 : Int32) (w : sm_Mem), sm_Sim E (mi_wy_weightOfWords) 9 [some (.ref 49), some (.int a1), some (.long a2), none, some (.int a4)] [] w (ff_wy_weightOfWords_9_f  n a1 a2 a4 w)
  | 0, _, _, _, _ => fun _ _ h => by cases h
  | n + 1, a1, a2, a4, w => ss_wy_weightOfWords_9_b  _ (ss_wy_weightOfWords_9_f  n) a1 a2 a4 w
set_option maxHeartbeats 4000000 in
set_option maxRecDepth 100000 in
theorem ss_wy_weightOfWords_9 {E : Nat × (Nat → Int32)}  (a1 : Int32) (a2 : Int64) (a4 : Int32) (w : sm_Mem) : sm_Sim E (mi_wy_weightOfWords) 9 [some (.ref 49), some (.int a1), some (.long a2), none, some (.int a4)] [] w (ff_wy_weightOfWords_9  a1 a2 a4 w) := ss_wy_weightOfWords_9_f  sm_N a1 a2 a4 w
noncomputable def ff_wy_weightOfWords  (a1 : Int32) (w : sm_Mem) : sm_R := (sm_cV (ff_wy_spreadReach  w) fun w7 => ff_wy_weightOfWords_9 (a1) ((0 : Int64)) ((0 : Int32)) w7)
set_option maxHeartbeats 4000000 in
set_option maxRecDepth 100000 in
theorem ss_wy_weightOfWords_0 {E : Nat × (Nat → Int32)}  (a1 : Int32) (w : sm_Mem) : sm_Sim E (mi_wy_weightOfWords) 0 [some (.ref 49), some (.int a1), none, none, none] [] w (ff_wy_weightOfWords  a1 w) := by
  unfold ff_wy_weightOfWords
  refine sm_aload_n ii_wy_weightOfWords_0 rfl ?_
  refine sm_cvV [] [] rfl ii_wy_weightOfWords_1 ml_wy_120 (mf_wy_spreadReach) (mv_wy_spreadReach) (Nat.le_of_ble_eq_true rfl) rfl 5 rfl rfl rfl rfl (mc_wy_spreadReach  w) (fun w7 => ?_)
  refine sm_lconst (0 : Int64) ii_wy_weightOfWords_4 (by decide) ?_
  refine sm_lstore_n [some (.ref 49), some (.int a1), some (.long (0 : Int64)), none, none] ii_wy_weightOfWords_5 rfl rfl ?_
  refine sm_iconst (0 : Int32) ii_wy_weightOfWords_6 (by decide) ?_
  refine sm_istore [some (.ref 49), some (.int a1), some (.long (0 : Int64)), none, some (.int (0 : Int32))] ii_wy_weightOfWords_7 rfl rfl ?_
  exact ss_wy_weightOfWords_9 (a1) ((0 : Int64)) ((0 : Int32)) w7
set_option maxHeartbeats 4000000 in
set_option maxRecDepth 100000 in
theorem mc_wy_weightOfWords {E : Nat × (Nat → Int32)} (a1 : Int32) (w : sm_Mem) : sm_MC E mi_wy_weightOfWords [.ref 49, .int a1] w (ff_wy_weightOfWords a1 w) := sm_MC_of E (by decide +kernel) rfl (Nat.le_of_ble_eq_true rfl) (ss_wy_weightOfWords_0 a1 w)
abbrev mi_ho_mid : sm_MI := (⟨"HerOrders", "mid", "(II)I"⟩, prog_1_method_37_code, 4, (some .int), 15)
set_option maxRecDepth 100000 in
theorem mf_ho_mid : sm_MF mi_ho_mid 2 := ⟨List.mem_of_getElem? (i := 723) (by decide +kernel), List.mem_of_getElem? (i := 69) (by decide +kernel), ⟨by decide, by decide⟩, by decide +kernel⟩
set_option maxRecDepth 100000 in
theorem mv_ho_mid : sm_MFV mi_ho_mid := ⟨List.mem_of_getElem? (i := 721) (by decide +kernel), List.mem_of_getElem? (i := 722) (by decide +kernel)⟩
set_option maxRecDepth 100000 in
theorem ii_ho_mid_0 : sm_D prog_1_method_37_code 0 1 1 (.iload_n 2) := ⟨by decide +kernel, rfl⟩
set_option maxRecDepth 100000 in
theorem ii_ho_mid_1 : sm_D prog_1_method_37_code 1 3 4 (.ifCond .lt 9) := ⟨by decide +kernel, rfl⟩
set_option maxRecDepth 100000 in
theorem ii_ho_mid_4 : sm_D prog_1_method_37_code 4 1 5 (.iload_n 2) := ⟨by decide +kernel, rfl⟩
set_option maxRecDepth 100000 in
theorem ii_ho_mid_5 : sm_D prog_1_method_37_code 5 2 7 (.bipush 12) := ⟨by decide +kernel, rfl⟩
set_option maxRecDepth 100000 in
theorem ii_ho_mid_7 : sm_D prog_1_method_37_code 7 3 10 (.if_icmp .le 5) := ⟨by decide +kernel, rfl⟩
set_option maxRecDepth 100000 in
theorem ii_ho_mid_10 : sm_D prog_1_method_37_code 10 1 11 (.iconst (-1)) := ⟨by decide +kernel, rfl⟩
set_option maxRecDepth 100000 in
theorem ii_ho_mid_11 : sm_D prog_1_method_37_code 11 1 12 (.ireturn) := ⟨by decide +kernel, rfl⟩
set_option maxRecDepth 100000 in
theorem ii_ho_mid_12 : sm_D prog_1_method_37_code 12 1 13 (.aload_n 0) := ⟨by decide +kernel, rfl⟩
set_option maxRecDepth 100000 in
theorem ii_ho_mid_13 : sm_D prog_1_method_37_code 13 1 14 (.iload_n 1) := ⟨by decide +kernel, rfl⟩
set_option maxRecDepth 100000 in
theorem ii_ho_mid_14 : sm_D prog_1_method_37_code 14 1 15 (.iconst 5) := ⟨by decide +kernel, rfl⟩
set_option maxRecDepth 100000 in
theorem ii_ho_mid_15 : sm_D prog_1_method_37_code 15 3 18 (.invokevirtual 192) := ⟨by decide +kernel, rfl⟩
set_option maxRecDepth 100000 in
theorem ii_ho_mid_18 : sm_D prog_1_method_37_code 18 1 19 (.istore_n 3) := ⟨by decide +kernel, rfl⟩
set_option maxRecDepth 100000 in
theorem ii_ho_mid_19 : sm_D prog_1_method_37_code 19 1 20 (.iload_n 3) := ⟨by decide +kernel, rfl⟩
set_option maxRecDepth 100000 in
theorem ii_ho_mid_20 : sm_D prog_1_method_37_code 20 3 23 (.ifCond .eq 5) := ⟨by decide +kernel, rfl⟩
set_option maxRecDepth 100000 in
theorem ii_ho_mid_23 : sm_D prog_1_method_37_code 23 1 24 (.iload_n 3) := ⟨by decide +kernel, rfl⟩
set_option maxRecDepth 100000 in
theorem ii_ho_mid_24 : sm_D prog_1_method_37_code 24 1 25 (.ireturn) := ⟨by decide +kernel, rfl⟩
set_option maxRecDepth 100000 in
theorem ii_ho_mid_25 : sm_D prog_1_method_37_code 25 1 26 (.aload_n 0) := ⟨by decide +kernel, rfl⟩
set_option maxRecDepth 100000 in
theorem ii_ho_mid_26 : sm_D prog_1_method_37_code 26 3 29 (.getfield 40) := ⟨by decide +kernel, rfl⟩
set_option maxRecDepth 100000 in
theorem ii_ho_mid_29 : sm_D prog_1_method_37_code 29 1 30 (.aload_n 0) := ⟨by decide +kernel, rfl⟩
set_option maxRecDepth 100000 in
theorem ii_ho_mid_30 : sm_D prog_1_method_37_code 30 3 33 (.getfield 11) := ⟨by decide +kernel, rfl⟩
set_option maxRecDepth 100000 in
theorem ii_ho_mid_33 : sm_D prog_1_method_37_code 33 1 34 (.iload_n 1) := ⟨by decide +kernel, rfl⟩
set_option maxRecDepth 100000 in
theorem ii_ho_mid_34 : sm_D prog_1_method_37_code 34 1 35 (.aaload) := ⟨by decide +kernel, rfl⟩
set_option maxRecDepth 100000 in
theorem ii_ho_mid_35 : sm_D prog_1_method_37_code 35 2 37 (.bipush (-9)) := ⟨by decide +kernel, rfl⟩
set_option maxRecDepth 100000 in
theorem ii_ho_mid_37 : sm_D prog_1_method_37_code 37 3 40 (.invokevirtual 195) := ⟨by decide +kernel, rfl⟩
set_option maxRecDepth 100000 in
theorem ii_ho_mid_40 : sm_D prog_1_method_37_code 40 1 41 (.aload_n 0) := ⟨by decide +kernel, rfl⟩
set_option maxRecDepth 100000 in
theorem ii_ho_mid_41 : sm_D prog_1_method_37_code 41 3 44 (.getfield 54) := ⟨by decide +kernel, rfl⟩
set_option maxRecDepth 100000 in
theorem ii_ho_mid_44 : sm_D prog_1_method_37_code 44 1 45 (.aload_n 0) := ⟨by decide +kernel, rfl⟩
set_option maxRecDepth 100000 in
theorem ii_ho_mid_45 : sm_D prog_1_method_37_code 45 3 48 (.getfield 40) := ⟨by decide +kernel, rfl⟩
set_option maxRecDepth 100000 in
theorem ii_ho_mid_48 : sm_D prog_1_method_37_code 48 1 49 (.iload_n 2) := ⟨by decide +kernel, rfl⟩
set_option maxRecDepth 100000 in
theorem ii_ho_mid_49 : sm_D prog_1_method_37_code 49 3 52 (.invokevirtual 289) := ⟨by decide +kernel, rfl⟩
set_option maxRecDepth 100000 in
theorem ii_ho_mid_52 : sm_D prog_1_method_37_code 52 1 53 (.aload_n 0) := ⟨by decide +kernel, rfl⟩
set_option maxRecDepth 100000 in
theorem ii_ho_mid_53 : sm_D prog_1_method_37_code 53 3 56 (.getfield 40) := ⟨by decide +kernel, rfl⟩
set_option maxRecDepth 100000 in
theorem ii_ho_mid_56 : sm_D prog_1_method_37_code 56 3 59 (.invokevirtual 286) := ⟨by decide +kernel, rfl⟩
set_option maxRecDepth 100000 in
theorem ii_ho_mid_59 : sm_D prog_1_method_37_code 59 3 62 (.invokevirtual 203) := ⟨by decide +kernel, rfl⟩
set_option maxRecDepth 100000 in
theorem ii_ho_mid_62 : sm_D prog_1_method_37_code 62 1 63 (.iconst 1) := ⟨by decide +kernel, rfl⟩
set_option maxRecDepth 100000 in
theorem ii_ho_mid_63 : sm_D prog_1_method_37_code 63 1 64 (.ireturn) := ⟨by decide +kernel, rfl⟩
noncomputable def ff_ho_mid  (a1 : Int32) (a2 : Int32) (w : sm_Mem) : sm_R := (if a2 < (0 : Int32) then (some (.int (-1 : Int32), w)) else (if a2 ≤ (12 : Int32) then (sm_cI (ff_ho_refusalOfWords (a1) ((5 : Int32)) w) fun x1 w2 => (if x1 = (0 : Int32) then (Option.bind (sm_rr 1 a1) fun r3 => (sm_cV (ff_wy_runWords (r3) ((-9 : Int32)) w2) fun w5 => (sm_cL (ff_wy_weightOfWords (a2) w5) fun x6 w7 => (sm_cL (ff_wy_weightOfAny  w7) fun x8 w9 => (sm_cV (ff_td_share (x6) (x8) w9) fun w11 => (some (.int (1 : Int32), w11))))))) else (some (.int x1, w2)))) else (some (.int (-1 : Int32), w))))
set_option maxHeartbeats 4000000 in
set_option maxRecDepth 100000 in
theorem ss_ho_mid_0 {E : Nat × (Nat → Int32)}  (a1 : Int32) (a2 : Int32) (w : sm_Mem) : sm_Sim E (mi_ho_mid) 0 [some (.ref 0), some (.int a1), some (.int a2), none] [] w (ff_ho_mid  a1 a2 w) := by
  unfold ff_ho_mid
  refine sm_iload_n ii_ho_mid_0 rfl ?_
  refine sm_if_lt 10 ii_ho_mid_1 (by decide) ?_ ?_
  · refine sm_iconst (-1 : Int32) ii_ho_mid_10 (by decide) ?_
    exact sm_iret ii_ho_mid_11 rfl
  · refine sm_iload_n ii_ho_mid_4 rfl ?_
    refine sm_bipush (12 : Int32) ii_ho_mid_5 (by decide) ?_
    refine sm_icmp_le 12 ii_ho_mid_7 (by decide) ?_ ?_
    · refine sm_aload_n ii_ho_mid_12 rfl ?_
      refine sm_iload_n ii_ho_mid_13 rfl ?_
      refine sm_iconst (5 : Int32) ii_ho_mid_14 (by decide) ?_
      refine sm_cvI [.int a1, .int (5 : Int32)] [] rfl ii_ho_mid_15 ml_ho_192 (mf_ho_refusalOfWords) (mv_ho_refusalOfWords) (Nat.le_of_ble_eq_true rfl) rfl 6 rfl rfl rfl rfl (mc_ho_refusalOfWords (a1) ((5 : Int32)) w) (fun x1 w2 => ?_)
      refine sm_istore_n [some (.ref 0), some (.int a1), some (.int a2), some (.int x1)] ii_ho_mid_18 rfl rfl ?_
      refine sm_iload_n ii_ho_mid_19 rfl ?_
      refine sm_if_eq 25 ii_ho_mid_20 (by decide) ?_ ?_
      · refine sm_aload_n ii_ho_mid_25 rfl ?_
        refine sm_getR 49 ii_ho_mid_26 fl_ho_40 (k := 0) rfl ?_
        refine sm_aload_n ii_ho_mid_29 rfl ?_
        refine sm_getR 1 ii_ho_mid_30 fl_ho_11 (k := 0) rfl ?_
        refine sm_iload_n ii_ho_mid_33 rfl ?_
        refine sm_aald ii_ho_mid_34 (fun r3 => ?_)
        refine sm_bipush (-9 : Int32) ii_ho_mid_35 (by decide) ?_
        refine sm_cvV [.ref r3, .int (-9 : Int32)] [] rfl ii_ho_mid_37 ml_ho_195 (mf_wy_runWords) (mv_wy_runWords) (Nat.le_of_ble_eq_true rfl) rfl 5 rfl rfl rfl rfl (mc_wy_runWords (r3) ((-9 : Int32)) w2) (fun w5 => ?_)
        refine sm_aload_n ii_ho_mid_40 rfl ?_
        refine sm_getR 60 ii_ho_mid_41 fl_ho_54 (k := 0) rfl ?_
        refine sm_aload_n ii_ho_mid_44 rfl ?_
        refine sm_getR 49 ii_ho_mid_45 fl_ho_40 (k := 0) rfl ?_
        refine sm_iload_n ii_ho_mid_48 rfl ?_
        refine sm_cvL [.int a2] [.ref 60] rfl ii_ho_mid_49 ml_ho_289 (mf_wy_weightOfWords) (mv_wy_weightOfWords) (Nat.le_of_ble_eq_true rfl) rfl 5 rfl rfl rfl rfl (mc_wy_weightOfWords (a2) w5) (fun x6 w7 => ?_)
        refine sm_aload_n ii_ho_mid_52 rfl ?_
        refine sm_getR 49 ii_ho_mid_53 fl_ho_40 (k := 0) rfl ?_
        refine sm_cvL [] [.long x6, .ref 60] rfl ii_ho_mid_56 ml_ho_286 (mf_wy_weightOfAny) (mv_wy_weightOfAny) (Nat.le_of_ble_eq_true rfl) rfl 5 rfl rfl rfl rfl (mc_wy_weightOfAny  w7) (fun x8 w9 => ?_)
        refine sm_cvV [.long x6, .long x8] [] rfl ii_ho_mid_59 ml_ho_203 (mf_td_share) (mv_td_share) (Nat.le_of_ble_eq_true rfl) rfl 3 rfl rfl rfl rfl (mc_td_share (x6) (x8) w9) (fun w11 => ?_)
        refine sm_iconst (1 : Int32) ii_ho_mid_62 (by decide) ?_
        exact sm_iret ii_ho_mid_63 rfl
      · refine sm_iload_n ii_ho_mid_23 rfl ?_
        exact sm_iret ii_ho_mid_24 rfl
    · refine sm_iconst (-1 : Int32) ii_ho_mid_10 (by decide) ?_
      exact sm_iret ii_ho_mid_11 rfl
set_option maxHeartbeats 4000000 in
set_option maxRecDepth 100000 in
theorem mc_ho_mid {E : Nat × (Nat → Int32)} (a1 : Int32) (a2 : Int32) (w : sm_Mem) : sm_MC E mi_ho_mid [.ref 0, .int a1, .int a2] w (ff_ho_mid a1 a2 w) := sm_MC_of E (by decide +kernel) rfl (Nat.le_of_ble_eq_true rfl) (ss_ho_mid_0 a1 a2 w)
abbrev mi_hs_enactLot : sm_MI := (⟨"HerOrders$House", "enactLot", "(J)V"⟩, prog_3_method_6_code, 5, none, 4)
set_option maxRecDepth 100000 in
theorem mf_hs_enactLot : sm_MF mi_hs_enactLot 1 := ⟨List.mem_of_getElem? (i := 737) (by decide +kernel), List.mem_of_getElem? (i := 73) (by decide +kernel), ⟨by decide, by decide⟩, by decide +kernel⟩
set_option maxRecDepth 100000 in
theorem mv_hs_enactLot : sm_MFV mi_hs_enactLot := ⟨List.mem_of_getElem? (i := 736) (by decide +kernel), List.mem_of_getElem? (i := 58) (by decide +kernel)⟩
set_option maxRecDepth 100000 in
theorem ii_hs_enactLot_0 : sm_D prog_3_method_6_code 0 1 1 (.aload_n 0) := ⟨by decide +kernel, rfl⟩
set_option maxRecDepth 100000 in
theorem ii_hs_enactLot_1 : sm_D prog_3_method_6_code 1 3 4 (.getfield 45) := ⟨by decide +kernel, rfl⟩
set_option maxRecDepth 100000 in
theorem ii_hs_enactLot_4 : sm_D prog_3_method_6_code 4 3 7 (.ifCond .gt 4) := ⟨by decide +kernel, rfl⟩
set_option maxRecDepth 100000 in
theorem ii_hs_enactLot_7 : sm_D prog_3_method_6_code 7 1 8 (.return_) := ⟨by decide +kernel, rfl⟩
set_option maxRecDepth 100000 in
theorem ii_hs_enactLot_8 : sm_D prog_3_method_6_code 8 1 9 (.lload_n 1) := ⟨by decide +kernel, rfl⟩
set_option maxRecDepth 100000 in
theorem ii_hs_enactLot_9 : sm_D prog_3_method_6_code 9 3 12 (.ldc2_w 76) := ⟨by decide +kernel, rfl⟩
set_option maxRecDepth 100000 in
theorem ii_hs_enactLot_12 : sm_D prog_3_method_6_code 12 1 13 (.ldiv) := ⟨by decide +kernel, rfl⟩
set_option maxRecDepth 100000 in
theorem ii_hs_enactLot_13 : sm_D prog_3_method_6_code 13 1 14 (.aload_n 0) := ⟨by decide +kernel, rfl⟩
set_option maxRecDepth 100000 in
theorem ii_hs_enactLot_14 : sm_D prog_3_method_6_code 14 3 17 (.getfield 45) := ⟨by decide +kernel, rfl⟩
set_option maxRecDepth 100000 in
theorem ii_hs_enactLot_17 : sm_D prog_3_method_6_code 17 1 18 (.i2l) := ⟨by decide +kernel, rfl⟩
set_option maxRecDepth 100000 in
theorem ii_hs_enactLot_18 : sm_D prog_3_method_6_code 18 1 19 (.lrem) := ⟨by decide +kernel, rfl⟩
set_option maxRecDepth 100000 in
theorem ii_hs_enactLot_19 : sm_D prog_3_method_6_code 19 1 20 (.l2i) := ⟨by decide +kernel, rfl⟩
set_option maxRecDepth 100000 in
theorem ii_hs_enactLot_20 : sm_D prog_3_method_6_code 20 1 21 (.istore_n 3) := ⟨by decide +kernel, rfl⟩
set_option maxRecDepth 100000 in
theorem ii_hs_enactLot_21 : sm_D prog_3_method_6_code 21 1 22 (.lload_n 1) := ⟨by decide +kernel, rfl⟩
set_option maxRecDepth 100000 in
theorem ii_hs_enactLot_22 : sm_D prog_3_method_6_code 22 3 25 (.ldc2_w 78) := ⟨by decide +kernel, rfl⟩
set_option maxRecDepth 100000 in
theorem ii_hs_enactLot_25 : sm_D prog_3_method_6_code 25 1 26 (.ldiv) := ⟨by decide +kernel, rfl⟩
set_option maxRecDepth 100000 in
theorem ii_hs_enactLot_26 : sm_D prog_3_method_6_code 26 3 29 (.ldc2_w 80) := ⟨by decide +kernel, rfl⟩
set_option maxRecDepth 100000 in
theorem ii_hs_enactLot_29 : sm_D prog_3_method_6_code 29 1 30 (.lrem) := ⟨by decide +kernel, rfl⟩
set_option maxRecDepth 100000 in
theorem ii_hs_enactLot_30 : sm_D prog_3_method_6_code 30 1 31 (.l2i) := ⟨by decide +kernel, rfl⟩
set_option maxRecDepth 100000 in
theorem ii_hs_enactLot_31 : sm_D prog_3_method_6_code 31 2 33 (.istore 4) := ⟨by decide +kernel, rfl⟩
set_option maxRecDepth 100000 in
theorem ii_hs_enactLot_33 : sm_D prog_3_method_6_code 33 1 34 (.aload_n 0) := ⟨by decide +kernel, rfl⟩
set_option maxRecDepth 100000 in
theorem ii_hs_enactLot_34 : sm_D prog_3_method_6_code 34 1 35 (.iload_n 3) := ⟨by decide +kernel, rfl⟩
set_option maxRecDepth 100000 in
theorem ii_hs_enactLot_35 : sm_D prog_3_method_6_code 35 2 37 (.iload 4) := ⟨by decide +kernel, rfl⟩
set_option maxRecDepth 100000 in
theorem ii_hs_enactLot_37 : sm_D prog_3_method_6_code 37 3 40 (.invokevirtual 82) := ⟨by decide +kernel, rfl⟩
set_option maxRecDepth 100000 in
theorem ii_hs_enactLot_40 : sm_D prog_3_method_6_code 40 3 43 (.ifCond .eq 14) := ⟨by decide +kernel, rfl⟩
set_option maxRecDepth 100000 in
theorem ii_hs_enactLot_43 : sm_D prog_3_method_6_code 43 1 44 (.aload_n 0) := ⟨by decide +kernel, rfl⟩
set_option maxRecDepth 100000 in
theorem ii_hs_enactLot_44 : sm_D prog_3_method_6_code 44 1 45 (.iconst 0) := ⟨by decide +kernel, rfl⟩
set_option maxRecDepth 100000 in
theorem ii_hs_enactLot_45 : sm_D prog_3_method_6_code 45 1 46 (.iload_n 3) := ⟨by decide +kernel, rfl⟩
set_option maxRecDepth 100000 in
theorem ii_hs_enactLot_46 : sm_D prog_3_method_6_code 46 2 48 (.iload 4) := ⟨by decide +kernel, rfl⟩
set_option maxRecDepth 100000 in
theorem ii_hs_enactLot_48 : sm_D prog_3_method_6_code 48 3 51 (.invokevirtual 86) := ⟨by decide +kernel, rfl⟩
set_option maxRecDepth 100000 in
theorem ii_hs_enactLot_51 : sm_D prog_3_method_6_code 51 3 54 (.goto 28) := ⟨by decide +kernel, rfl⟩
set_option maxRecDepth 100000 in
theorem ii_hs_enactLot_54 : sm_D prog_3_method_6_code 54 1 55 (.aload_n 0) := ⟨by decide +kernel, rfl⟩
set_option maxRecDepth 100000 in
theorem ii_hs_enactLot_55 : sm_D prog_3_method_6_code 55 3 58 (.getfield 89) := ⟨by decide +kernel, rfl⟩
set_option maxRecDepth 100000 in
theorem ii_hs_enactLot_58 : sm_D prog_3_method_6_code 58 1 59 (.iconst 4) := ⟨by decide +kernel, rfl⟩
set_option maxRecDepth 100000 in
theorem ii_hs_enactLot_59 : sm_D prog_3_method_6_code 59 3 62 (.if_icmp .lt 13) := ⟨by decide +kernel, rfl⟩
set_option maxRecDepth 100000 in
theorem ii_hs_enactLot_62 : sm_D prog_3_method_6_code 62 1 63 (.aload_n 0) := ⟨by decide +kernel, rfl⟩
set_option maxRecDepth 100000 in
theorem ii_hs_enactLot_63 : sm_D prog_3_method_6_code 63 1 64 (.iconst 1) := ⟨by decide +kernel, rfl⟩
set_option maxRecDepth 100000 in
theorem ii_hs_enactLot_64 : sm_D prog_3_method_6_code 64 1 65 (.iconst 0) := ⟨by decide +kernel, rfl⟩
set_option maxRecDepth 100000 in
theorem ii_hs_enactLot_65 : sm_D prog_3_method_6_code 65 1 66 (.iconst 0) := ⟨by decide +kernel, rfl⟩
set_option maxRecDepth 100000 in
theorem ii_hs_enactLot_66 : sm_D prog_3_method_6_code 66 3 69 (.invokevirtual 86) := ⟨by decide +kernel, rfl⟩
set_option maxRecDepth 100000 in
theorem ii_hs_enactLot_69 : sm_D prog_3_method_6_code 69 3 72 (.goto 10) := ⟨by decide +kernel, rfl⟩
set_option maxRecDepth 100000 in
theorem ii_hs_enactLot_72 : sm_D prog_3_method_6_code 72 1 73 (.aload_n 0) := ⟨by decide +kernel, rfl⟩
set_option maxRecDepth 100000 in
theorem ii_hs_enactLot_73 : sm_D prog_3_method_6_code 73 1 74 (.iconst 2) := ⟨by decide +kernel, rfl⟩
set_option maxRecDepth 100000 in
theorem ii_hs_enactLot_74 : sm_D prog_3_method_6_code 74 1 75 (.iconst 0) := ⟨by decide +kernel, rfl⟩
set_option maxRecDepth 100000 in
theorem ii_hs_enactLot_75 : sm_D prog_3_method_6_code 75 1 76 (.iconst 0) := ⟨by decide +kernel, rfl⟩
set_option maxRecDepth 100000 in
theorem ii_hs_enactLot_76 : sm_D prog_3_method_6_code 76 3 79 (.invokevirtual 86) := ⟨by decide +kernel, rfl⟩
set_option maxRecDepth 100000 in
theorem ii_hs_enactLot_79 : sm_D prog_3_method_6_code 79 1 80 (.return_) := ⟨by decide +kernel, rfl⟩
noncomputable def ff_hs_enactLot  (a1 : Int64) (w : sm_Mem) : sm_R := (if (0 : Int32) < (w.1 36 0) then (if (8 : Int64) = (0 : Int64) then none else (if (Int32.toInt64 (w.1 36 0)) = (0 : Int64) then none else (if (64 : Int64) = (0 : Int64) then none else (if (6 : Int64) = (0 : Int64) then none else (sm_cI (ff_hs_can ((Int64.toInt32 ((a1 / (8 : Int64)) - (a1 / (8 : Int64)) / (Int32.toInt64 (w.1 36 0)) * (Int32.toInt64 (w.1 36 0))))) ((Int64.toInt32 ((a1 / (64 : Int64)) - (a1 / (64 : Int64)) / (6 : Int64) * (6 : Int64)))) w) fun x5 w6 => (if x5 = (0 : Int32) then (if (w6.1 36 11) < (4 : Int32) then (sm_cV (ff_hs_enact ((2 : Int32)) ((0 : Int32)) ((0 : Int32)) w6) fun w8 => (some (.null, w8))) else (sm_cV (ff_hs_enact ((1 : Int32)) ((0 : Int32)) ((0 : Int32)) w6) fun w10 => (some (.null, w10)))) else (sm_cV (ff_hs_enact ((0 : Int32)) ((Int64.toInt32 ((a1 / (8 : Int64)) - (a1 / (8 : Int64)) / (Int32.toInt64 (w.1 36 0)) * (Int32.toInt64 (w.1 36 0))))) ((Int64.toInt32 ((a1 / (64 : Int64)) - (a1 / (64 : Int64)) / (6 : Int64) * (6 : Int64)))) w6) fun w12 => (some (.null, w12))))))))) else (some (.null, w)))
set_option maxHeartbeats 4000000 in
set_option maxRecDepth 100000 in
theorem ss_hs_enactLot_0 {E : Nat × (Nat → Int32)}  (a1 : Int64) (w : sm_Mem) : sm_Sim E (mi_hs_enactLot) 0 [some (.ref 36), some (.long a1), none, none, none] [] w (ff_hs_enactLot  a1 w) := by
  unfold ff_hs_enactLot
  refine sm_aload_n ii_hs_enactLot_0 rfl ?_
  refine sm_getI ii_hs_enactLot_1 fl_hs_45 (k := 36) rfl ?_
  refine sm_if_gt 8 ii_hs_enactLot_4 (by decide) ?_ ?_
  · refine sm_lload_n ii_hs_enactLot_8 rfl ?_
    refine sm_ldc2 (8 : Int64) ii_hs_enactLot_9 (List.mem_of_getElem? (i := 738) (by decide +kernel)) ?_
    refine sm_ldiv ii_hs_enactLot_12 ?_
    refine sm_aload_n ii_hs_enactLot_13 rfl ?_
    refine sm_getI ii_hs_enactLot_14 fl_hs_45 (k := 36) rfl ?_
    refine sm_i2l ii_hs_enactLot_17 ?_
    refine sm_lrem ii_hs_enactLot_18 ?_
    refine sm_l2i ii_hs_enactLot_19 ?_
    refine sm_istore_n [some (.ref 36), some (.long a1), none, some (.int (Int64.toInt32 ((a1 / (8 : Int64)) - (a1 / (8 : Int64)) / (Int32.toInt64 (w.1 36 0)) * (Int32.toInt64 (w.1 36 0))))), none] ii_hs_enactLot_20 rfl rfl ?_
    refine sm_lload_n ii_hs_enactLot_21 rfl ?_
    refine sm_ldc2 (64 : Int64) ii_hs_enactLot_22 (List.mem_of_getElem? (i := 739) (by decide +kernel)) ?_
    refine sm_ldiv ii_hs_enactLot_25 ?_
    refine sm_ldc2 (6 : Int64) ii_hs_enactLot_26 (List.mem_of_getElem? (i := 740) (by decide +kernel)) ?_
    refine sm_lrem ii_hs_enactLot_29 ?_
    refine sm_l2i ii_hs_enactLot_30 ?_
    refine sm_istore [some (.ref 36), some (.long a1), none, some (.int (Int64.toInt32 ((a1 / (8 : Int64)) - (a1 / (8 : Int64)) / (Int32.toInt64 (w.1 36 0)) * (Int32.toInt64 (w.1 36 0))))), some (.int (Int64.toInt32 ((a1 / (64 : Int64)) - (a1 / (64 : Int64)) / (6 : Int64) * (6 : Int64))))] ii_hs_enactLot_31 rfl rfl ?_
    refine sm_aload_n ii_hs_enactLot_33 rfl ?_
    refine sm_iload_n ii_hs_enactLot_34 rfl ?_
    refine sm_iload ii_hs_enactLot_35 rfl ?_
    refine sm_cvI [.int (Int64.toInt32 ((a1 / (8 : Int64)) - (a1 / (8 : Int64)) / (Int32.toInt64 (w.1 36 0)) * (Int32.toInt64 (w.1 36 0)))), .int (Int64.toInt32 ((a1 / (64 : Int64)) - (a1 / (64 : Int64)) / (6 : Int64) * (6 : Int64)))] [] rfl ii_hs_enactLot_37 ml_hs_82 (mf_hs_can) (mv_hs_can) (Nat.le_of_ble_eq_true rfl) rfl 1 rfl rfl rfl rfl (mc_hs_can ((Int64.toInt32 ((a1 / (8 : Int64)) - (a1 / (8 : Int64)) / (Int32.toInt64 (w.1 36 0)) * (Int32.toInt64 (w.1 36 0))))) ((Int64.toInt32 ((a1 / (64 : Int64)) - (a1 / (64 : Int64)) / (6 : Int64) * (6 : Int64)))) w) (fun x5 w6 => ?_)
    refine sm_if_eq 54 ii_hs_enactLot_40 (by decide) ?_ ?_
    · refine sm_aload_n ii_hs_enactLot_54 rfl ?_
      refine sm_getI ii_hs_enactLot_55 fl_hs_89 (k := 36) rfl ?_
      refine sm_iconst (4 : Int32) ii_hs_enactLot_58 (by decide) ?_
      refine sm_icmp_lt 72 ii_hs_enactLot_59 (by decide) ?_ ?_
      · refine sm_aload_n ii_hs_enactLot_72 rfl ?_
        refine sm_iconst (2 : Int32) ii_hs_enactLot_73 (by decide) ?_
        refine sm_iconst (0 : Int32) ii_hs_enactLot_74 (by decide) ?_
        refine sm_iconst (0 : Int32) ii_hs_enactLot_75 (by decide) ?_
        refine sm_cvV [.int (2 : Int32), .int (0 : Int32), .int (0 : Int32)] [] rfl ii_hs_enactLot_76 ml_hs_86 (mf_hs_enact) (mv_hs_enact) (Nat.le_of_ble_eq_true rfl) rfl 1 rfl rfl rfl rfl (mc_hs_enact ((2 : Int32)) ((0 : Int32)) ((0 : Int32)) w6) (fun w8 => ?_)
        exact sm_vret ii_hs_enactLot_79 rfl
      · refine sm_aload_n ii_hs_enactLot_62 rfl ?_
        refine sm_iconst (1 : Int32) ii_hs_enactLot_63 (by decide) ?_
        refine sm_iconst (0 : Int32) ii_hs_enactLot_64 (by decide) ?_
        refine sm_iconst (0 : Int32) ii_hs_enactLot_65 (by decide) ?_
        refine sm_cvV [.int (1 : Int32), .int (0 : Int32), .int (0 : Int32)] [] rfl ii_hs_enactLot_66 ml_hs_86 (mf_hs_enact) (mv_hs_enact) (Nat.le_of_ble_eq_true rfl) rfl 1 rfl rfl rfl rfl (mc_hs_enact ((1 : Int32)) ((0 : Int32)) ((0 : Int32)) w6) (fun w10 => ?_)
        refine sm_goto 79 ii_hs_enactLot_69 (by decide) ?_
        exact sm_vret ii_hs_enactLot_79 rfl
    · refine sm_aload_n ii_hs_enactLot_43 rfl ?_
      refine sm_iconst (0 : Int32) ii_hs_enactLot_44 (by decide) ?_
      refine sm_iload_n ii_hs_enactLot_45 rfl ?_
      refine sm_iload ii_hs_enactLot_46 rfl ?_
      refine sm_cvV [.int (0 : Int32), .int (Int64.toInt32 ((a1 / (8 : Int64)) - (a1 / (8 : Int64)) / (Int32.toInt64 (w.1 36 0)) * (Int32.toInt64 (w.1 36 0)))), .int (Int64.toInt32 ((a1 / (64 : Int64)) - (a1 / (64 : Int64)) / (6 : Int64) * (6 : Int64)))] [] rfl ii_hs_enactLot_48 ml_hs_86 (mf_hs_enact) (mv_hs_enact) (Nat.le_of_ble_eq_true rfl) rfl 1 rfl rfl rfl rfl (mc_hs_enact ((0 : Int32)) ((Int64.toInt32 ((a1 / (8 : Int64)) - (a1 / (8 : Int64)) / (Int32.toInt64 (w.1 36 0)) * (Int32.toInt64 (w.1 36 0))))) ((Int64.toInt32 ((a1 / (64 : Int64)) - (a1 / (64 : Int64)) / (6 : Int64) * (6 : Int64)))) w6) (fun w12 => ?_)
      refine sm_goto 79 ii_hs_enactLot_51 (by decide) ?_
      exact sm_vret ii_hs_enactLot_79 rfl
  · exact sm_vret ii_hs_enactLot_7 rfl
set_option maxHeartbeats 4000000 in
set_option maxRecDepth 100000 in
theorem mc_hs_enactLot {E : Nat × (Nat → Int32)} (a1 : Int64) (w : sm_Mem) : sm_MC E mi_hs_enactLot [.ref 36, .long a1] w (ff_hs_enactLot a1 w) := sm_MC_of E (by decide +kernel) rfl (Nat.le_of_ble_eq_true rfl) (ss_hs_enactLot_0 a1 w)
abbrev mi_ho_lots : sm_MI := (⟨"HerOrders", "lots", "(II)I"⟩, prog_1_method_38_code, 6, (some .int), 5)
set_option maxRecDepth 100000 in
theorem mf_ho_lots : sm_MF mi_ho_lots 2 := ⟨List.mem_of_getElem? (i := 731) (by decide +kernel), List.mem_of_getElem? (i := 69) (by decide +kernel), ⟨by decide, by decide⟩, by decide +kernel⟩
set_option maxRecDepth 100000 in
theorem mv_ho_lots : sm_MFV mi_ho_lots := ⟨List.mem_of_getElem? (i := 729) (by decide +kernel), List.mem_of_getElem? (i := 730) (by decide +kernel)⟩
set_option maxRecDepth 100000 in
theorem ii_ho_lots_0 : sm_D prog_1_method_38_code 0 1 1 (.iload_n 1) := ⟨by decide +kernel, rfl⟩
set_option maxRecDepth 100000 in
theorem ii_ho_lots_1 : sm_D prog_1_method_38_code 1 1 2 (.iconst 1) := ⟨by decide +kernel, rfl⟩
set_option maxRecDepth 100000 in
theorem ii_ho_lots_2 : sm_D prog_1_method_38_code 2 3 5 (.if_icmp .lt 23) := ⟨by decide +kernel, rfl⟩
set_option maxRecDepth 100000 in
theorem ii_ho_lots_5 : sm_D prog_1_method_38_code 5 1 6 (.iload_n 1) := ⟨by decide +kernel, rfl⟩
set_option maxRecDepth 100000 in
theorem ii_ho_lots_6 : sm_D prog_1_method_38_code 6 2 8 (.bipush 20) := ⟨by decide +kernel, rfl⟩
set_option maxRecDepth 100000 in
theorem ii_ho_lots_8 : sm_D prog_1_method_38_code 8 3 11 (.if_icmp .gt 17) := ⟨by decide +kernel, rfl⟩
set_option maxRecDepth 100000 in
theorem ii_ho_lots_11 : sm_D prog_1_method_38_code 11 1 12 (.iload_n 2) := ⟨by decide +kernel, rfl⟩
set_option maxRecDepth 100000 in
theorem ii_ho_lots_12 : sm_D prog_1_method_38_code 12 1 13 (.iconst 1) := ⟨by decide +kernel, rfl⟩
set_option maxRecDepth 100000 in
theorem ii_ho_lots_13 : sm_D prog_1_method_38_code 13 3 16 (.if_icmp .lt 12) := ⟨by decide +kernel, rfl⟩
set_option maxRecDepth 100000 in
theorem ii_ho_lots_16 : sm_D prog_1_method_38_code 16 1 17 (.iload_n 2) := ⟨by decide +kernel, rfl⟩
set_option maxRecDepth 100000 in
theorem ii_ho_lots_17 : sm_D prog_1_method_38_code 17 1 18 (.i2l) := ⟨by decide +kernel, rfl⟩
set_option maxRecDepth 100000 in
theorem ii_ho_lots_18 : sm_D prog_1_method_38_code 18 3 21 (.ldc2_w 292) := ⟨by decide +kernel, rfl⟩
set_option maxRecDepth 100000 in
theorem ii_ho_lots_21 : sm_D prog_1_method_38_code 21 1 22 (.lcmp) := ⟨by decide +kernel, rfl⟩
set_option maxRecDepth 100000 in
theorem ii_ho_lots_22 : sm_D prog_1_method_38_code 22 3 25 (.ifCond .lt 5) := ⟨by decide +kernel, rfl⟩
set_option maxRecDepth 100000 in
theorem ii_ho_lots_25 : sm_D prog_1_method_38_code 25 1 26 (.iconst (-1)) := ⟨by decide +kernel, rfl⟩
set_option maxRecDepth 100000 in
theorem ii_ho_lots_26 : sm_D prog_1_method_38_code 26 1 27 (.ireturn) := ⟨by decide +kernel, rfl⟩
set_option maxRecDepth 100000 in
theorem ii_ho_lots_27 : sm_D prog_1_method_38_code 27 1 28 (.aload_n 0) := ⟨by decide +kernel, rfl⟩
set_option maxRecDepth 100000 in
theorem ii_ho_lots_28 : sm_D prog_1_method_38_code 28 3 31 (.getfield 31) := ⟨by decide +kernel, rfl⟩
set_option maxRecDepth 100000 in
theorem ii_ho_lots_31 : sm_D prog_1_method_38_code 31 3 34 (.getfield 115) := ⟨by decide +kernel, rfl⟩
set_option maxRecDepth 100000 in
theorem ii_ho_lots_34 : sm_D prog_1_method_38_code 34 3 37 (.ifCond .ne 6) := ⟨by decide +kernel, rfl⟩
set_option maxRecDepth 100000 in
theorem ii_ho_lots_37 : sm_D prog_1_method_38_code 37 2 39 (.bipush (-4)) := ⟨by decide +kernel, rfl⟩
set_option maxRecDepth 100000 in
theorem ii_ho_lots_39 : sm_D prog_1_method_38_code 39 1 40 (.ireturn) := ⟨by decide +kernel, rfl⟩
set_option maxRecDepth 100000 in
theorem ii_ho_lots_40 : sm_D prog_1_method_38_code 40 1 41 (.aload_n 0) := ⟨by decide +kernel, rfl⟩
set_option maxRecDepth 100000 in
theorem ii_ho_lots_41 : sm_D prog_1_method_38_code 41 3 44 (.getfield 31) := ⟨by decide +kernel, rfl⟩
set_option maxRecDepth 100000 in
theorem ii_ho_lots_44 : sm_D prog_1_method_38_code 44 3 47 (.getfield 171) := ⟨by decide +kernel, rfl⟩
set_option maxRecDepth 100000 in
theorem ii_ho_lots_47 : sm_D prog_1_method_38_code 47 3 50 (.getfield 114) := ⟨by decide +kernel, rfl⟩
set_option maxRecDepth 100000 in
theorem ii_ho_lots_50 : sm_D prog_1_method_38_code 50 1 51 (.iload_n 1) := ⟨by decide +kernel, rfl⟩
set_option maxRecDepth 100000 in
theorem ii_ho_lots_51 : sm_D prog_1_method_38_code 51 1 52 (.iadd) := ⟨by decide +kernel, rfl⟩
set_option maxRecDepth 100000 in
theorem ii_ho_lots_52 : sm_D prog_1_method_38_code 52 2 54 (.bipush 40) := ⟨by decide +kernel, rfl⟩
set_option maxRecDepth 100000 in
theorem ii_ho_lots_54 : sm_D prog_1_method_38_code 54 3 57 (.if_icmp .le 6) := ⟨by decide +kernel, rfl⟩
set_option maxRecDepth 100000 in
theorem ii_ho_lots_57 : sm_D prog_1_method_38_code 57 2 59 (.bipush (-2)) := ⟨by decide +kernel, rfl⟩
set_option maxRecDepth 100000 in
theorem ii_ho_lots_59 : sm_D prog_1_method_38_code 59 1 60 (.ireturn) := ⟨by decide +kernel, rfl⟩
set_option maxRecDepth 100000 in
theorem ii_ho_lots_60 : sm_D prog_1_method_38_code 60 1 61 (.iload_n 2) := ⟨by decide +kernel, rfl⟩
set_option maxRecDepth 100000 in
theorem ii_ho_lots_61 : sm_D prog_1_method_38_code 61 1 62 (.i2l) := ⟨by decide +kernel, rfl⟩
set_option maxRecDepth 100000 in
theorem ii_ho_lots_62 : sm_D prog_1_method_38_code 62 1 63 (.lstore_n 3) := ⟨by decide +kernel, rfl⟩
set_option maxRecDepth 100000 in
theorem ii_ho_lots_63 : sm_D prog_1_method_38_code 63 1 64 (.iconst 0) := ⟨by decide +kernel, rfl⟩
set_option maxRecDepth 100000 in
theorem ii_ho_lots_64 : sm_D prog_1_method_38_code 64 2 66 (.istore 5) := ⟨by decide +kernel, rfl⟩
set_option maxRecDepth 100000 in
theorem ii_ho_lots_66 : sm_D prog_1_method_38_code 66 2 68 (.iload 5) := ⟨by decide +kernel, rfl⟩
set_option maxRecDepth 100000 in
theorem ii_ho_lots_68 : sm_D prog_1_method_38_code 68 1 69 (.iload_n 1) := ⟨by decide +kernel, rfl⟩
set_option maxRecDepth 100000 in
theorem ii_ho_lots_69 : sm_D prog_1_method_38_code 69 3 72 (.if_icmp .ge 27) := ⟨by decide +kernel, rfl⟩
set_option maxRecDepth 100000 in
theorem ii_ho_lots_72 : sm_D prog_1_method_38_code 72 1 73 (.lload_n 3) := ⟨by decide +kernel, rfl⟩
set_option maxRecDepth 100000 in
theorem ii_ho_lots_73 : sm_D prog_1_method_38_code 73 3 76 (.ldc2_w 294) := ⟨by decide +kernel, rfl⟩
set_option maxRecDepth 100000 in
theorem ii_ho_lots_76 : sm_D prog_1_method_38_code 76 1 77 (.lmul) := ⟨by decide +kernel, rfl⟩
set_option maxRecDepth 100000 in
theorem ii_ho_lots_77 : sm_D prog_1_method_38_code 77 3 80 (.ldc2_w 292) := ⟨by decide +kernel, rfl⟩
set_option maxRecDepth 100000 in
theorem ii_ho_lots_80 : sm_D prog_1_method_38_code 80 1 81 (.lrem) := ⟨by decide +kernel, rfl⟩
set_option maxRecDepth 100000 in
theorem ii_ho_lots_81 : sm_D prog_1_method_38_code 81 1 82 (.lstore_n 3) := ⟨by decide +kernel, rfl⟩
set_option maxRecDepth 100000 in
theorem ii_ho_lots_82 : sm_D prog_1_method_38_code 82 1 83 (.aload_n 0) := ⟨by decide +kernel, rfl⟩
set_option maxRecDepth 100000 in
theorem ii_ho_lots_83 : sm_D prog_1_method_38_code 83 3 86 (.getfield 31) := ⟨by decide +kernel, rfl⟩
set_option maxRecDepth 100000 in
theorem ii_ho_lots_86 : sm_D prog_1_method_38_code 86 1 87 (.lload_n 3) := ⟨by decide +kernel, rfl⟩
set_option maxRecDepth 100000 in
theorem ii_ho_lots_87 : sm_D prog_1_method_38_code 87 3 90 (.invokevirtual 296) := ⟨by decide +kernel, rfl⟩
set_option maxRecDepth 100000 in
theorem ii_ho_lots_90 : sm_D prog_1_method_38_code 90 3 93 (.iinc 5 1) := ⟨by decide +kernel, rfl⟩
set_option maxRecDepth 100000 in
theorem ii_ho_lots_93 : sm_D prog_1_method_38_code 93 3 96 (.goto (-27)) := ⟨by decide +kernel, rfl⟩
set_option maxRecDepth 100000 in
theorem ii_ho_lots_96 : sm_D prog_1_method_38_code 96 1 97 (.aload_n 0) := ⟨by decide +kernel, rfl⟩
set_option maxRecDepth 100000 in
theorem ii_ho_lots_97 : sm_D prog_1_method_38_code 97 3 100 (.getfield 31) := ⟨by decide +kernel, rfl⟩
set_option maxRecDepth 100000 in
theorem ii_ho_lots_100 : sm_D prog_1_method_38_code 100 3 103 (.getfield 162) := ⟨by decide +kernel, rfl⟩
set_option maxRecDepth 100000 in
theorem ii_ho_lots_103 : sm_D prog_1_method_38_code 103 1 104 (.ireturn) := ⟨by decide +kernel, rfl⟩
noncomputable def ff_ho_lots_66_b  (self66 : Int32 → Int64 → Int32 → sm_Mem → sm_R) (a1 : Int32) (a3 : Int64) (a5 : Int32) (w : sm_Mem) : sm_R := (if a1 ≤ a5 then (some (.int (w.1 36 11), w)) else (if (2147483647 : Int64) = (0 : Int64) then none else (sm_cV (ff_hs_enactLot (((a3 * (48271 : Int64)) - (a3 * (48271 : Int64)) / (2147483647 : Int64) * (2147483647 : Int64))) w) fun w3 => self66 (a1) (((a3 * (48271 : Int64)) - (a3 * (48271 : Int64)) / (2147483647 : Int64) * (2147483647 : Int64))) ((a5 + (1 : Int32))) w3)))
noncomputable def ff_ho_lots_66_f  : Nat → Int32 → Int64 → Int32 → sm_Mem → sm_R
  | 0, _, _, _, _ => none
  | n + 1, a1, a3, a5, w => ff_ho_lots_66_b  (ff_ho_lots_66_f  n) a1 a3 a5 w
noncomputable def ff_ho_lots_66  (a1 : Int32) (a3 : Int64) (a5 : Int32) (w : sm_Mem) : sm_R := ff_ho_lots_66_f  sm_N a1 a3 a5 w
set_option maxHeartbeats 4000000 in
set_option maxRecDepth 100000 in
theorem ss_ho_lots_66_b {E : Nat × (Nat → Int32)}  (self66 : Int32 → Int64 → Int32 → sm_Mem → sm_R) (hself66 : ∀ (a1 : Int32) (a3 : Int64) (a5 : Int32) (w : sm_Mem), sm_Sim E (mi_ho_lots) 66 [some (.ref 0), some (.int a1), none, some (.long a3), none, some (.int a5)] [] w (self66 a1 a3 a5 w)) (a1 : Int32) (a3 : Int64) (a5 : Int32) (w : sm_Mem) : sm_Sim E (mi_ho_lots) 66 [some (.ref 0), some (.int a1), none, some (.long a3), none, some (.int a5)] [] w (ff_ho_lots_66_b  self66 a1 a3 a5 w) := by
  unfold ff_ho_lots_66_b
  refine sm_iload ii_ho_lots_66 rfl ?_
  refine sm_iload_n ii_ho_lots_68 rfl ?_
  refine sm_icmp_ge 96 ii_ho_lots_69 (by decide) ?_ ?_
  · refine sm_aload_n ii_ho_lots_96 rfl ?_
    refine sm_getR 36 ii_ho_lots_97 fl_ho_31 (k := 0) rfl ?_
    refine sm_getI ii_ho_lots_100 fl_ho_162 (k := 36) rfl ?_
    exact sm_iret ii_ho_lots_103 rfl
  · refine sm_lload_n ii_ho_lots_72 rfl ?_
    refine sm_ldc2 (48271 : Int64) ii_ho_lots_73 (List.mem_of_getElem? (i := 733) (by decide +kernel)) ?_
    refine sm_lmul ii_ho_lots_76 ?_
    refine sm_ldc2 (2147483647 : Int64) ii_ho_lots_77 (List.mem_of_getElem? (i := 732) (by decide +kernel)) ?_
    refine sm_lrem ii_ho_lots_80 ?_
    refine sm_lstore_n [some (.ref 0), some (.int a1), none, some (.long ((a3 * (48271 : Int64)) - (a3 * (48271 : Int64)) / (2147483647 : Int64) * (2147483647 : Int64))), none, some (.int a5)] ii_ho_lots_81 rfl rfl ?_
    refine sm_aload_n ii_ho_lots_82 rfl ?_
    refine sm_getR 36 ii_ho_lots_83 fl_ho_31 (k := 0) rfl ?_
    refine sm_lload_n ii_ho_lots_86 rfl ?_
    refine sm_cvV [.long ((a3 * (48271 : Int64)) - (a3 * (48271 : Int64)) / (2147483647 : Int64) * (2147483647 : Int64))] [] rfl ii_ho_lots_87 ml_ho_296 (mf_hs_enactLot) (mv_hs_enactLot) (Nat.le_of_ble_eq_true rfl) rfl 1 rfl rfl rfl rfl (mc_hs_enactLot (((a3 * (48271 : Int64)) - (a3 * (48271 : Int64)) / (2147483647 : Int64) * (2147483647 : Int64))) w) (fun w3 => ?_)
    refine sm_iinc (a5 + (1 : Int32)) [some (.ref 0), some (.int a1), none, some (.long ((a3 * (48271 : Int64)) - (a3 * (48271 : Int64)) / (2147483647 : Int64) * (2147483647 : Int64))), none, some (.int (a5 + (1 : Int32)))] ii_ho_lots_90 rfl rfl rfl rfl ?_
    refine sm_goto 66 ii_ho_lots_93 (by decide) ?_
    exact hself66 (a1) (((a3 * (48271 : Int64)) - (a3 * (48271 : Int64)) / (2147483647 : Int64) * (2147483647 : Int64))) ((a5 + (1 : Int32))) w3
set_option maxHeartbeats 4000000 in
set_option maxRecDepth 100000 in
theorem ss_ho_lots_66_f {E : Nat × (Nat → Int32)}  : ∀ (n : Nat) (a1 : Int32) (a3 : Int64) (a5 : Int32) (w : sm_Mem), sm_Sim E (mi_ho_lots) 66 [some (.ref 0), some (.int a1), none, some (.long a3), none, some (.int a5)] [] w (ff_ho_lots_66_f  n a1 a3 a5 w)
  | 0, _, _, _, _ => fun _ _ h => by cases h
  | n + 1, a1, a3, a5, w => ss_ho_lots_66_b  _ (ss_ho_lots_66_f  n) a1 a3 a5 w
set_option maxHeartbeats 4000000 in
set_option maxRecDepth 100000 in
theorem ss_ho_lots_66 {E : Nat × (Nat → Int32)}  (a1 : Int32) (a3 : Int64) (a5 : Int32) (w : sm_Mem) : sm_Sim E (mi_ho_lots) 66 [some (.ref 0), some (.int a1), none, some (.long a3), none, some (.int a5)] [] w (ff_ho_lots_66  a1 a3 a5 w) := ss_ho_lots_66_f  sm_N a1 a3 a5 w
noncomputable def ff_ho_lots  (a1 : Int32) (a2 : Int32) (w : sm_Mem) : sm_R := (if a1 < (1 : Int32) then (some (.int (-1 : Int32), w)) else (if (20 : Int32) < a1 then (some (.int (-1 : Int32), w)) else (if a2 < (1 : Int32) then (some (.int (-1 : Int32), w)) else (if (lg_cmp (Int32.toInt64 a2) (2147483647 : Int64)) < (0 : Int32) then (if (w.1 36 0) = (0 : Int32) then (some (.int (-4 : Int32), w)) else (if ((w.1 45 3) + a1) ≤ (40 : Int32) then ff_ho_lots_66 (a1) ((Int32.toInt64 a2)) ((0 : Int32)) w else (some (.int (-2 : Int32), w)))) else (some (.int (-1 : Int32), w))))))
set_option maxHeartbeats 4000000 in
set_option maxRecDepth 100000 in
theorem ss_ho_lots_0 {E : Nat × (Nat → Int32)}  (a1 : Int32) (a2 : Int32) (w : sm_Mem) : sm_Sim E (mi_ho_lots) 0 [some (.ref 0), some (.int a1), some (.int a2), none, none, none] [] w (ff_ho_lots  a1 a2 w) := by
  unfold ff_ho_lots
  refine sm_iload_n ii_ho_lots_0 rfl ?_
  refine sm_iconst (1 : Int32) ii_ho_lots_1 (by decide) ?_
  refine sm_icmp_lt 25 ii_ho_lots_2 (by decide) ?_ ?_
  · refine sm_iconst (-1 : Int32) ii_ho_lots_25 (by decide) ?_
    exact sm_iret ii_ho_lots_26 rfl
  · refine sm_iload_n ii_ho_lots_5 rfl ?_
    refine sm_bipush (20 : Int32) ii_ho_lots_6 (by decide) ?_
    refine sm_icmp_gt 25 ii_ho_lots_8 (by decide) ?_ ?_
    · refine sm_iconst (-1 : Int32) ii_ho_lots_25 (by decide) ?_
      exact sm_iret ii_ho_lots_26 rfl
    · refine sm_iload_n ii_ho_lots_11 rfl ?_
      refine sm_iconst (1 : Int32) ii_ho_lots_12 (by decide) ?_
      refine sm_icmp_lt 25 ii_ho_lots_13 (by decide) ?_ ?_
      · refine sm_iconst (-1 : Int32) ii_ho_lots_25 (by decide) ?_
        exact sm_iret ii_ho_lots_26 rfl
      · refine sm_iload_n ii_ho_lots_16 rfl ?_
        refine sm_i2l ii_ho_lots_17 ?_
        refine sm_ldc2 (2147483647 : Int64) ii_ho_lots_18 (List.mem_of_getElem? (i := 732) (by decide +kernel)) ?_
        refine sm_lcmp ii_ho_lots_21 ?_
        refine sm_if_lt 27 ii_ho_lots_22 (by decide) ?_ ?_
        · refine sm_aload_n ii_ho_lots_27 rfl ?_
          refine sm_getR 36 ii_ho_lots_28 fl_ho_31 (k := 0) rfl ?_
          refine sm_getI ii_ho_lots_31 fl_ho_115 (k := 36) rfl ?_
          refine sm_if_ne 40 ii_ho_lots_34 (by decide) ?_ ?_
          · refine sm_bipush (-4 : Int32) ii_ho_lots_37 (by decide) ?_
            exact sm_iret ii_ho_lots_39 rfl
          · refine sm_aload_n ii_ho_lots_40 rfl ?_
            refine sm_getR 36 ii_ho_lots_41 fl_ho_31 (k := 0) rfl ?_
            refine sm_getR 45 ii_ho_lots_44 fl_ho_171 (k := 36) rfl ?_
            refine sm_getI ii_ho_lots_47 fl_ho_114 (k := 45) rfl ?_
            refine sm_iload_n ii_ho_lots_50 rfl ?_
            refine sm_iadd ii_ho_lots_51 ?_
            refine sm_bipush (40 : Int32) ii_ho_lots_52 (by decide) ?_
            refine sm_icmp_le 60 ii_ho_lots_54 (by decide) ?_ ?_
            · refine sm_iload_n ii_ho_lots_60 rfl ?_
              refine sm_i2l ii_ho_lots_61 ?_
              refine sm_lstore_n [some (.ref 0), some (.int a1), some (.int a2), some (.long (Int32.toInt64 a2)), none, none] ii_ho_lots_62 rfl rfl ?_
              refine sm_iconst (0 : Int32) ii_ho_lots_63 (by decide) ?_
              refine sm_istore [some (.ref 0), some (.int a1), some (.int a2), some (.long (Int32.toInt64 a2)), none, some (.int (0 : Int32))] ii_ho_lots_64 rfl rfl ?_
              refine sm_msk [true, true, false, true, false, true] [some (.ref 0), some (.int a1), none, some (.long (Int32.toInt64 a2)), none, some (.int (0 : Int32))] rfl ?_
              exact ss_ho_lots_66 (a1) ((Int32.toInt64 a2)) ((0 : Int32)) w
            · refine sm_bipush (-2 : Int32) ii_ho_lots_57 (by decide) ?_
              exact sm_iret ii_ho_lots_59 rfl
        · refine sm_iconst (-1 : Int32) ii_ho_lots_25 (by decide) ?_
          exact sm_iret ii_ho_lots_26 rfl
set_option maxHeartbeats 4000000 in
set_option maxRecDepth 100000 in
theorem mc_ho_lots {E : Nat × (Nat → Int32)} (a1 : Int32) (a2 : Int32) (w : sm_Mem) : sm_MC E mi_ho_lots [.ref 0, .int a1, .int a2] w (ff_ho_lots a1 a2 w) := sm_MC_of E (by decide +kernel) rfl (Nat.le_of_ble_eq_true rfl) (ss_ho_lots_0 a1 a2 w)
abbrev mi_ho_on : sm_MI := (⟨"HerOrders", "on", "(I)I"⟩, prog_1_method_20_code, 2, (some .int), 4)
set_option maxRecDepth 100000 in
theorem mf_ho_on : sm_MF mi_ho_on 1 := ⟨List.mem_of_getElem? (i := 469) (by decide +kernel), List.mem_of_getElem? (i := 69) (by decide +kernel), ⟨by decide, by decide⟩, by decide +kernel⟩
set_option maxRecDepth 100000 in
theorem mv_ho_on : sm_MFV mi_ho_on := ⟨List.mem_of_getElem? (i := 467) (by decide +kernel), List.mem_of_getElem? (i := 468) (by decide +kernel)⟩
set_option maxRecDepth 100000 in
theorem ii_ho_on_0 : sm_D prog_1_method_20_code 0 1 1 (.iload_n 1) := ⟨by decide +kernel, rfl⟩
set_option maxRecDepth 100000 in
theorem ii_ho_on_1 : sm_D prog_1_method_20_code 1 1 2 (.iconst 3) := ⟨by decide +kernel, rfl⟩
set_option maxRecDepth 100000 in
theorem ii_ho_on_2 : sm_D prog_1_method_20_code 2 3 5 (.invokestatic 81) := ⟨by decide +kernel, rfl⟩
set_option maxRecDepth 100000 in
theorem ii_ho_on_5 : sm_D prog_1_method_20_code 5 3 8 (.ifCond .ne 5) := ⟨by decide +kernel, rfl⟩
set_option maxRecDepth 100000 in
theorem ii_ho_on_8 : sm_D prog_1_method_20_code 8 1 9 (.iconst (-1)) := ⟨by decide +kernel, rfl⟩
set_option maxRecDepth 100000 in
theorem ii_ho_on_9 : sm_D prog_1_method_20_code 9 1 10 (.ireturn) := ⟨by decide +kernel, rfl⟩
set_option maxRecDepth 100000 in
theorem ii_ho_on_10 : sm_D prog_1_method_20_code 10 1 11 (.aload_n 0) := ⟨by decide +kernel, rfl⟩
set_option maxRecDepth 100000 in
theorem ii_ho_on_11 : sm_D prog_1_method_20_code 11 3 14 (.getfield 23) := ⟨by decide +kernel, rfl⟩
set_option maxRecDepth 100000 in
theorem ii_ho_on_14 : sm_D prog_1_method_20_code 14 1 15 (.iload_n 1) := ⟨by decide +kernel, rfl⟩
set_option maxRecDepth 100000 in
theorem ii_ho_on_15 : sm_D prog_1_method_20_code 15 1 16 (.aaload) := ⟨by decide +kernel, rfl⟩
set_option maxRecDepth 100000 in
theorem ii_ho_on_16 : sm_D prog_1_method_20_code 16 3 19 (.invokevirtual 182) := ⟨by decide +kernel, rfl⟩
set_option maxRecDepth 100000 in
theorem ii_ho_on_19 : sm_D prog_1_method_20_code 19 3 22 (.ifCond .eq 12) := ⟨by decide +kernel, rfl⟩
set_option maxRecDepth 100000 in
theorem ii_ho_on_22 : sm_D prog_1_method_20_code 22 1 23 (.aload_n 0) := ⟨by decide +kernel, rfl⟩
set_option maxRecDepth 100000 in
theorem ii_ho_on_23 : sm_D prog_1_method_20_code 23 3 26 (.getfield 54) := ⟨by decide +kernel, rfl⟩
set_option maxRecDepth 100000 in
theorem ii_ho_on_26 : sm_D prog_1_method_20_code 26 1 27 (.iconst 1) := ⟨by decide +kernel, rfl⟩
set_option maxRecDepth 100000 in
theorem ii_ho_on_27 : sm_D prog_1_method_20_code 27 3 30 (.invokevirtual 85) := ⟨by decide +kernel, rfl⟩
set_option maxRecDepth 100000 in
theorem ii_ho_on_30 : sm_D prog_1_method_20_code 30 1 31 (.ireturn) := ⟨by decide +kernel, rfl⟩
set_option maxRecDepth 100000 in
theorem ii_ho_on_31 : sm_D prog_1_method_20_code 31 1 32 (.aload_n 0) := ⟨by decide +kernel, rfl⟩
set_option maxRecDepth 100000 in
theorem ii_ho_on_32 : sm_D prog_1_method_20_code 32 3 35 (.getfield 31) := ⟨by decide +kernel, rfl⟩
set_option maxRecDepth 100000 in
theorem ii_ho_on_35 : sm_D prog_1_method_20_code 35 3 38 (.getfield 171) := ⟨by decide +kernel, rfl⟩
set_option maxRecDepth 100000 in
theorem ii_ho_on_38 : sm_D prog_1_method_20_code 38 1 39 (.aload_n 0) := ⟨by decide +kernel, rfl⟩
set_option maxRecDepth 100000 in
theorem ii_ho_on_39 : sm_D prog_1_method_20_code 39 3 42 (.getfield 23) := ⟨by decide +kernel, rfl⟩
set_option maxRecDepth 100000 in
theorem ii_ho_on_42 : sm_D prog_1_method_20_code 42 1 43 (.iload_n 1) := ⟨by decide +kernel, rfl⟩
set_option maxRecDepth 100000 in
theorem ii_ho_on_43 : sm_D prog_1_method_20_code 43 1 44 (.aaload) := ⟨by decide +kernel, rfl⟩
set_option maxRecDepth 100000 in
theorem ii_ho_on_44 : sm_D prog_1_method_20_code 44 3 47 (.invokevirtual 178) := ⟨by decide +kernel, rfl⟩
set_option maxRecDepth 100000 in
theorem ii_ho_on_47 : sm_D prog_1_method_20_code 47 1 48 (.aload_n 0) := ⟨by decide +kernel, rfl⟩
set_option maxRecDepth 100000 in
theorem ii_ho_on_48 : sm_D prog_1_method_20_code 48 3 51 (.getfield 31) := ⟨by decide +kernel, rfl⟩
set_option maxRecDepth 100000 in
theorem ii_ho_on_51 : sm_D prog_1_method_20_code 51 1 52 (.aload_n 0) := ⟨by decide +kernel, rfl⟩
set_option maxRecDepth 100000 in
theorem ii_ho_on_52 : sm_D prog_1_method_20_code 52 3 55 (.getfield 31) := ⟨by decide +kernel, rfl⟩
set_option maxRecDepth 100000 in
theorem ii_ho_on_55 : sm_D prog_1_method_20_code 55 3 58 (.getfield 171) := ⟨by decide +kernel, rfl⟩
set_option maxRecDepth 100000 in
theorem ii_ho_on_58 : sm_D prog_1_method_20_code 58 3 61 (.getfield 114) := ⟨by decide +kernel, rfl⟩
set_option maxRecDepth 100000 in
theorem ii_ho_on_61 : sm_D prog_1_method_20_code 61 3 64 (.invokevirtual 175) := ⟨by decide +kernel, rfl⟩
set_option maxRecDepth 100000 in
theorem ii_ho_on_64 : sm_D prog_1_method_20_code 64 1 65 (.aload_n 0) := ⟨by decide +kernel, rfl⟩
set_option maxRecDepth 100000 in
theorem ii_ho_on_65 : sm_D prog_1_method_20_code 65 3 68 (.getfield 31) := ⟨by decide +kernel, rfl⟩
set_option maxRecDepth 100000 in
theorem ii_ho_on_68 : sm_D prog_1_method_20_code 68 3 71 (.getfield 171) := ⟨by decide +kernel, rfl⟩
set_option maxRecDepth 100000 in
theorem ii_ho_on_71 : sm_D prog_1_method_20_code 71 3 74 (.getfield 114) := ⟨by decide +kernel, rfl⟩
set_option maxRecDepth 100000 in
theorem ii_ho_on_74 : sm_D prog_1_method_20_code 74 1 75 (.ireturn) := ⟨by decide +kernel, rfl⟩
noncomputable def ff_ho_on  (a1 : Int32) (w : sm_Mem) : sm_R := (sm_cI (ff_ho_isWithin (a1) ((3 : Int32)) w) fun x1 w2 => (if x1 = (0 : Int32) then (some (.int (-1 : Int32), w2)) else (Option.bind (sm_rr 23 a1) fun r3 => (sm_cI (sm_rc r3 0 (ff_de_isMissing (r3) w2)) fun x4 w5 => (if x4 = (0 : Int32) then (Option.bind (sm_rr 23 a1) fun r6 => (sm_cV (ff_de_become (45) (r6) w5) fun w8 => (sm_cV (ff_hs_goBackTo ((w8.1 45 3)) w8) fun w10 => (some (.int (w10.1 45 3), w10))))) else (sm_cI (ff_td_refuse ((1 : Int32)) w5) fun x11 w12 => (some (.int x11, w12))))))))
set_option maxHeartbeats 4000000 in
set_option maxRecDepth 100000 in
theorem ss_ho_on_0 {E : Nat × (Nat → Int32)}  (a1 : Int32) (w : sm_Mem) : sm_Sim E (mi_ho_on) 0 [some (.ref 0), some (.int a1)] [] w (ff_ho_on  a1 w) := by
  unfold ff_ho_on
  refine sm_iload_n ii_ho_on_0 rfl ?_
  refine sm_iconst (3 : Int32) ii_ho_on_1 (by decide) ?_
  refine sm_csI [.int a1, .int (3 : Int32)] [] rfl ii_ho_on_2 ml_ho_81 (mf_ho_isWithin) (mv_ho_isWithin) (Nat.le_of_ble_eq_true rfl) rfl rfl rfl (mc_ho_isWithin (a1) ((3 : Int32)) w) (fun x1 w2 => ?_)
  refine sm_if_ne 10 ii_ho_on_5 (by decide) ?_ ?_
  · refine sm_iconst (-1 : Int32) ii_ho_on_8 (by decide) ?_
    exact sm_iret ii_ho_on_9 rfl
  · refine sm_aload_n ii_ho_on_10 rfl ?_
    refine sm_getR 23 ii_ho_on_11 fl_ho_23 (k := 0) rfl ?_
    refine sm_iload_n ii_ho_on_14 rfl ?_
    refine sm_aald ii_ho_on_15 (fun r3 => ?_)
    refine sm_dvI [] [] rfl ii_ho_on_16 ml_ho_182 (mf_de_isMissing) (mv_de_isMissing) (Nat.le_of_ble_eq_true rfl) rfl 0 rfl rfl rfl (mc_de_isMissing (r3) w2) (fun x4 w5 => ?_)
    refine sm_if_eq 31 ii_ho_on_19 (by decide) ?_ ?_
    · refine sm_aload_n ii_ho_on_31 rfl ?_
      refine sm_getR 36 ii_ho_on_32 fl_ho_31 (k := 0) rfl ?_
      refine sm_getR 45 ii_ho_on_35 fl_ho_171 (k := 36) rfl ?_
      refine sm_aload_n ii_ho_on_38 rfl ?_
      refine sm_getR 23 ii_ho_on_39 fl_ho_23 (k := 0) rfl ?_
      refine sm_iload_n ii_ho_on_42 rfl ?_
      refine sm_aald ii_ho_on_43 (fun r6 => ?_)
      refine sm_cvV [.ref r6] [] rfl ii_ho_on_44 ml_ho_178 (mf_de_become) (mv_de_become) (Nat.le_of_ble_eq_true rfl) rfl 0 rfl rfl rfl rfl (mc_de_become (45) (r6) w5) (fun w8 => ?_)
      refine sm_aload_n ii_ho_on_47 rfl ?_
      refine sm_getR 36 ii_ho_on_48 fl_ho_31 (k := 0) rfl ?_
      refine sm_aload_n ii_ho_on_51 rfl ?_
      refine sm_getR 36 ii_ho_on_52 fl_ho_31 (k := 0) rfl ?_
      refine sm_getR 45 ii_ho_on_55 fl_ho_171 (k := 36) rfl ?_
      refine sm_getI ii_ho_on_58 fl_ho_114 (k := 45) rfl ?_
      refine sm_cvV [.int (w8.1 45 3)] [] rfl ii_ho_on_61 ml_ho_175 (mf_hs_goBackTo) (mv_hs_goBackTo) (Nat.le_of_ble_eq_true rfl) rfl 1 rfl rfl rfl rfl (mc_hs_goBackTo ((w8.1 45 3)) w8) (fun w10 => ?_)
      refine sm_aload_n ii_ho_on_64 rfl ?_
      refine sm_getR 36 ii_ho_on_65 fl_ho_31 (k := 0) rfl ?_
      refine sm_getR 45 ii_ho_on_68 fl_ho_171 (k := 36) rfl ?_
      refine sm_getI ii_ho_on_71 fl_ho_114 (k := 45) rfl ?_
      exact sm_iret ii_ho_on_74 rfl
    · refine sm_aload_n ii_ho_on_22 rfl ?_
      refine sm_getR 60 ii_ho_on_23 fl_ho_54 (k := 0) rfl ?_
      refine sm_iconst (1 : Int32) ii_ho_on_26 (by decide) ?_
      refine sm_cvI [.int (1 : Int32)] [] rfl ii_ho_on_27 ml_ho_85 (mf_td_refuse) (mv_td_refuse) (Nat.le_of_ble_eq_true rfl) rfl 3 rfl rfl rfl rfl (mc_td_refuse ((1 : Int32)) w5) (fun x11 w12 => ?_)
      exact sm_iret ii_ho_on_30 rfl
set_option maxHeartbeats 4000000 in
set_option maxRecDepth 100000 in
theorem mc_ho_on {E : Nat × (Nat → Int32)} (a1 : Int32) (w : sm_Mem) : sm_MC E mi_ho_on [.ref 0, .int a1] w (ff_ho_on a1 w) := sm_MC_of E (by decide +kernel) rfl (Nat.le_of_ble_eq_true rfl) (ss_ho_on_0 a1 w)
abbrev mi_ho_tear : sm_MI := (⟨"HerOrders", "tear", "(I)I"⟩, prog_1_method_5_code, 3, (some .int), 3)
set_option maxRecDepth 100000 in
theorem mf_ho_tear : sm_MF mi_ho_tear 1 := ⟨List.mem_of_getElem? (i := 369) (by decide +kernel), List.mem_of_getElem? (i := 69) (by decide +kernel), ⟨by decide, by decide⟩, by decide +kernel⟩
set_option maxRecDepth 100000 in
theorem mv_ho_tear : sm_MFV mi_ho_tear := ⟨List.mem_of_getElem? (i := 367) (by decide +kernel), List.mem_of_getElem? (i := 368) (by decide +kernel)⟩
set_option maxRecDepth 100000 in
theorem ii_ho_tear_0 : sm_D prog_1_method_5_code 0 1 1 (.aload_n 0) := ⟨by decide +kernel, rfl⟩
set_option maxRecDepth 100000 in
theorem ii_ho_tear_1 : sm_D prog_1_method_5_code 1 1 2 (.aload_n 0) := ⟨by decide +kernel, rfl⟩
set_option maxRecDepth 100000 in
theorem ii_ho_tear_2 : sm_D prog_1_method_5_code 2 3 5 (.getfield 11) := ⟨by decide +kernel, rfl⟩
set_option maxRecDepth 100000 in
theorem ii_ho_tear_5 : sm_D prog_1_method_5_code 5 1 6 (.iload_n 1) := ⟨by decide +kernel, rfl⟩
set_option maxRecDepth 100000 in
theorem ii_ho_tear_6 : sm_D prog_1_method_5_code 6 3 9 (.invokevirtual 74) := ⟨by decide +kernel, rfl⟩
set_option maxRecDepth 100000 in
theorem ii_ho_tear_9 : sm_D prog_1_method_5_code 9 1 10 (.istore_n 2) := ⟨by decide +kernel, rfl⟩
set_option maxRecDepth 100000 in
theorem ii_ho_tear_10 : sm_D prog_1_method_5_code 10 1 11 (.iload_n 2) := ⟨by decide +kernel, rfl⟩
set_option maxRecDepth 100000 in
theorem ii_ho_tear_11 : sm_D prog_1_method_5_code 11 3 14 (.ifCond .eq 5) := ⟨by decide +kernel, rfl⟩
set_option maxRecDepth 100000 in
theorem ii_ho_tear_14 : sm_D prog_1_method_5_code 14 1 15 (.iload_n 2) := ⟨by decide +kernel, rfl⟩
set_option maxRecDepth 100000 in
theorem ii_ho_tear_15 : sm_D prog_1_method_5_code 15 1 16 (.ireturn) := ⟨by decide +kernel, rfl⟩
set_option maxRecDepth 100000 in
theorem ii_ho_tear_16 : sm_D prog_1_method_5_code 16 1 17 (.aload_n 0) := ⟨by decide +kernel, rfl⟩
set_option maxRecDepth 100000 in
theorem ii_ho_tear_17 : sm_D prog_1_method_5_code 17 3 20 (.getfield 11) := ⟨by decide +kernel, rfl⟩
set_option maxRecDepth 100000 in
theorem ii_ho_tear_20 : sm_D prog_1_method_5_code 20 1 21 (.iload_n 1) := ⟨by decide +kernel, rfl⟩
set_option maxRecDepth 100000 in
theorem ii_ho_tear_21 : sm_D prog_1_method_5_code 21 1 22 (.aaload) := ⟨by decide +kernel, rfl⟩
set_option maxRecDepth 100000 in
theorem ii_ho_tear_22 : sm_D prog_1_method_5_code 22 2 24 (.bipush (-9)) := ⟨by decide +kernel, rfl⟩
set_option maxRecDepth 100000 in
theorem ii_ho_tear_24 : sm_D prog_1_method_5_code 24 3 27 (.putfield 78) := ⟨by decide +kernel, rfl⟩
set_option maxRecDepth 100000 in
theorem ii_ho_tear_27 : sm_D prog_1_method_5_code 27 1 28 (.iconst 1) := ⟨by decide +kernel, rfl⟩
set_option maxRecDepth 100000 in
theorem ii_ho_tear_28 : sm_D prog_1_method_5_code 28 1 29 (.ireturn) := ⟨by decide +kernel, rfl⟩
noncomputable def ff_ho_tear  (a1 : Int32) (w : sm_Mem) : sm_R := (sm_cI (ff_ho_refusalOfMissing (1) (a1) w) fun x1 w2 => (if x1 = (0 : Int32) then (Option.bind (sm_rr 1 a1) fun r3 => (Option.bind (sm_pI w2 r3 2 1 (-9 : Int32)) fun w4 => (some (.int (1 : Int32), w4)))) else (some (.int x1, w2))))
set_option maxHeartbeats 4000000 in
set_option maxRecDepth 100000 in
theorem ss_ho_tear_0 {E : Nat × (Nat → Int32)}  (a1 : Int32) (w : sm_Mem) : sm_Sim E (mi_ho_tear) 0 [some (.ref 0), some (.int a1), none] [] w (ff_ho_tear  a1 w) := by
  unfold ff_ho_tear
  refine sm_aload_n ii_ho_tear_0 rfl ?_
  refine sm_aload_n ii_ho_tear_1 rfl ?_
  refine sm_getR 1 ii_ho_tear_2 fl_ho_11 (k := 0) rfl ?_
  refine sm_iload_n ii_ho_tear_5 rfl ?_
  refine sm_cvI [.ref 1, .int a1] [] rfl ii_ho_tear_6 ml_ho_74 (mf_ho_refusalOfMissing) (mv_ho_refusalOfMissing) (Nat.le_of_ble_eq_true rfl) rfl 6 rfl rfl rfl rfl (mc_ho_refusalOfMissing (1) (a1) w) (fun x1 w2 => ?_)
  refine sm_istore_n [some (.ref 0), some (.int a1), some (.int x1)] ii_ho_tear_9 rfl rfl ?_
  refine sm_iload_n ii_ho_tear_10 rfl ?_
  refine sm_if_eq 16 ii_ho_tear_11 (by decide) ?_ ?_
  · refine sm_aload_n ii_ho_tear_16 rfl ?_
    refine sm_getR 1 ii_ho_tear_17 fl_ho_11 (k := 0) rfl ?_
    refine sm_iload_n ii_ho_tear_20 rfl ?_
    refine sm_aald ii_ho_tear_21 (fun r3 => ?_)
    refine sm_bipush (-9 : Int32) ii_ho_tear_22 (by decide) ?_
    refine sm_putIs ii_ho_tear_24 fp_ho_78 (fun w4 => ?_)
    refine sm_iconst (1 : Int32) ii_ho_tear_27 (by decide) ?_
    exact sm_iret ii_ho_tear_28 rfl
  · refine sm_iload_n ii_ho_tear_14 rfl ?_
    exact sm_iret ii_ho_tear_15 rfl
set_option maxHeartbeats 4000000 in
set_option maxRecDepth 100000 in
theorem mc_ho_tear {E : Nat × (Nat → Int32)} (a1 : Int32) (w : sm_Mem) : sm_MC E mi_ho_tear [.ref 0, .int a1] w (ff_ho_tear a1 w) := sm_MC_of E (by decide +kernel) rfl (Nat.le_of_ble_eq_true rfl) (ss_ho_tear_0 a1 w)
