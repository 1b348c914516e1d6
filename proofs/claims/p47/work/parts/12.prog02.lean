/-! the program, by a program: functions of its methods and that the methods do them -/
set_option maxRecDepth 100000 in
theorem ml_la_38 : sm_ML "HerOrdersLaw" 38 ⟨"HerOrdersLaw", "lastWord", "([I)I"⟩ := Or.inl (List.mem_of_getElem? (i := 847) (by decide +kernel))
set_option maxRecDepth 100000 in
theorem ml_la_42 : sm_ML "HerOrdersLaw" 42 ⟨"HerOrdersLaw", "able", "(IIIII)Z"⟩ := Or.inl (List.mem_of_getElem? (i := 838) (by decide +kernel))
set_option maxRecDepth 100000 in
theorem fl_hs_68 : sm_FL "HerOrders$House" 68 0 3 := ⟨RX0, TX0, 4, rfl, by decide, rfl, sm_inX0, Or.inr ⟨"HerOrders", List.mem_of_getElem? (i := 126) (by decide +kernel)⟩⟩
set_option maxRecDepth 100000 in
theorem ml_de_25 : sm_ML "HerOrders$Deeds" 25 ⟨"HerOrders", "isWithin", "(II)Z"⟩ := Or.inr ⟨"HerOrders", List.mem_of_getElem? (i := 444) (by decide +kernel)⟩
set_option maxRecDepth 100000 in
theorem ml_hs_69 : sm_ML "HerOrders$House" 69 ⟨"HerOrders$Deeds", "add", "(III)V"⟩ := Or.inr ⟨"HerOrders", List.mem_of_getElem? (i := 440) (by decide +kernel)⟩
set_option maxRecDepth 100000 in
theorem ml_ho_118 : sm_ML "HerOrders" 118 ⟨"HerOrders", "isSpeaker", "(I)Z"⟩ := Or.inl (List.mem_of_getElem? (i := 409) (by decide +kernel))
set_option maxRecDepth 100000 in
theorem ml_ho_152 : sm_ML "HerOrders" 152 ⟨"HerOrders$House", "can", "(II)Z"⟩ := Or.inr ⟨"HerOrders", List.mem_of_getElem? (i := 413) (by decide +kernel)⟩
set_option maxRecDepth 100000 in
theorem ml_ho_155 : sm_ML "HerOrders" 155 ⟨"HerOrders$House", "isFull", "()Z"⟩ := Or.inr ⟨"HerOrders", List.mem_of_getElem? (i := 432) (by decide +kernel)⟩
set_option maxRecDepth 100000 in
theorem ml_ho_158 : sm_ML "HerOrders" 158 ⟨"HerOrders$House", "enact", "(III)V"⟩ := Or.inr ⟨"HerOrders", List.mem_of_getElem? (i := 436) (by decide +kernel)⟩
set_option maxRecDepth 100000 in
theorem fl_ho_163 : sm_FL "HerOrders" 163 1 5 := ⟨RX1, TX1, 13, rfl, by decide, rfl, sm_inX1, Or.inr ⟨"HerOrders", List.mem_of_getElem? (i := 155) (by decide +kernel)⟩⟩
set_option maxRecDepth 100000 in
theorem mq_ho_166 : Cond.methodLink "HerOrders" 166 Lib.Math.abs.name ∈ lw_tbl := List.mem_of_getElem? (i := 863) (by decide +kernel)
set_option maxRecDepth 100000 in
theorem ml_la_72 : sm_ML "HerOrdersLaw" 72 ⟨"HerOrders", "walk", "(II)I"⟩ := Or.inl (List.mem_of_getElem? (i := 859) (by decide +kernel))
set_option maxRecDepth 100000 in
theorem ml_la_46 : sm_ML "HerOrdersLaw" 46 ⟨"HerOrdersLaw", "can", "([I[III)Z"⟩ := Or.inl (List.mem_of_getElem? (i := 844) (by decide +kernel))
set_option maxRecDepth 100000 in
theorem ml_la_67 : sm_ML "HerOrdersLaw" 67 ⟨"HerOrdersLaw", "end", "([I)I"⟩ := Or.inl (List.mem_of_getElem? (i := 856) (by decide +kernel))
set_option maxRecDepth 100000 in
theorem ml_la_70 : sm_ML "HerOrdersLaw" 70 ⟨"HerOrders", "end", "()I"⟩ := Or.inl (List.mem_of_getElem? (i := 445) (by decide +kernel))
set_option maxRecDepth 100000 in
theorem ml_la_60 : sm_ML "HerOrdersLaw" 60 ⟨"HerOrdersLaw", "hour", "([I[I)I"⟩ := Or.inl (List.mem_of_getElem? (i := 853) (by decide +kernel))
set_option maxRecDepth 100000 in
theorem ml_la_64 : sm_ML "HerOrdersLaw" 64 ⟨"HerOrders", "hour", "()I"⟩ := Or.inl (List.mem_of_getElem? (i := 449) (by decide +kernel))
set_option maxRecDepth 100000 in
theorem ml_la_54 : sm_ML "HerOrdersLaw" 54 ⟨"HerOrdersLaw", "say", "([III)I"⟩ := Or.inl (List.mem_of_getElem? (i := 850) (by decide +kernel))
set_option maxRecDepth 100000 in
theorem ml_la_58 : sm_ML "HerOrdersLaw" 58 ⟨"HerOrders", "say", "(II)I"⟩ := Or.inl (List.mem_of_getElem? (i := 405) (by decide +kernel))
set_option maxRecDepth 100000 in
theorem fl_ho_186 : sm_FL "HerOrders" 186 1 10 := ⟨RX1, TX1, 13, rfl, by decide, rfl, sm_inX1, Or.inr ⟨"HerOrders", List.mem_of_getElem? (i := 165) (by decide +kernel)⟩⟩
set_option maxRecDepth 100000 in
theorem fp_ho_70 : sm_FP "HerOrders" 70 3 0 .int := ⟨RX3, TX3, 5, tyX3, rfl, by decide, rfl, sm_inX3, tyX3_ok, nmX3, rfl, by decide +kernel, Or.inr ⟨"HerOrders", List.mem_of_getElem? (i := 284) (by decide +kernel)⟩⟩
set_option maxRecDepth 100000 in
theorem fl_ho_189 : sm_FL "HerOrders" 189 1 9 := ⟨RX1, TX1, 13, rfl, by decide, rfl, sm_inX1, Or.inr ⟨"HerOrders", List.mem_of_getElem? (i := 163) (by decide +kernel)⟩⟩
set_option maxRecDepth 100000 in
theorem fl_ho_70 : sm_FL "HerOrders" 70 3 0 := ⟨RX3, TX3, 5, rfl, by decide, rfl, sm_inX3, Or.inr ⟨"HerOrders", List.mem_of_getElem? (i := 284) (by decide +kernel)⟩⟩
set_option maxRecDepth 100000 in
theorem ml_ho_122 : sm_ML "HerOrders" 122 ⟨"HerOrders$House", "factOf", "(II)I"⟩ := Or.inr ⟨"HerOrders", List.mem_of_getElem? (i := 871) (by decide +kernel)⟩
set_option maxRecDepth 100000 in
theorem ml_la_75 : sm_ML "HerOrdersLaw" 75 ⟨"HerOrders", "speaker", "(II)I"⟩ := Or.inl (List.mem_of_getElem? (i := 867) (by decide +kernel))
set_option maxRecDepth 100000 in
theorem ml_la_78 : sm_ML "HerOrdersLaw" 78 ⟨"HerOrders", "asked", "()I"⟩ := Or.inl (List.mem_of_getElem? (i := 742) (by decide +kernel))
set_option maxRecDepth 100000 in
theorem ml_ho_183 : sm_ML "HerOrders" 183 ⟨"HerOrders$House", "sayable", "(I)I"⟩ := Or.inr ⟨"HerOrders", List.mem_of_getElem? (i := 482) (by decide +kernel)⟩
set_option maxRecDepth 100000 in
theorem ml_ho_175 : sm_ML "HerOrders" 175 ⟨"HerOrders$House", "goBackTo", "(I)V"⟩ := Or.inr ⟨"HerOrders", List.mem_of_getElem? (i := 457) (by decide +kernel)⟩
set_option maxRecDepth 100000 in
theorem ml_rw_32 : sm_ML "HerOrders$Row" 32 ⟨"HerOrders", "isWithin", "(II)Z"⟩ := Or.inr ⟨"HerOrders", List.mem_of_getElem? (i := 503) (by decide +kernel)⟩
set_option maxRecDepth 100000 in
theorem ml_ho_325 : sm_ML "HerOrders" 325 ⟨"HerOrders$Row", "isOfWords", "()Z"⟩ := Or.inr ⟨"HerOrders", List.mem_of_getElem? (i := 499) (by decide +kernel)⟩
set_option maxRecDepth 100000 in
theorem fl_wy_28 : sm_FL "HerOrders$Ways" 28 5 6 := ⟨RX5, TX5, 14, rfl, by decide, rfl, sm_inX5, Or.inl (List.mem_of_getElem? (i := 212) (by decide +kernel))⟩
set_option maxRecDepth 100000 in
theorem fp_wy_66 : sm_FP "HerOrders$Ways" 66 5 8 .int := ⟨RX5, TX5, 14, tyX5, rfl, by decide, rfl, sm_inX5, tyX5_ok, nmX5, rfl, by decide +kernel, Or.inl (List.mem_of_getElem? (i := 215) (by decide +kernel))⟩
set_option maxRecDepth 100000 in
theorem fp_wy_69 : sm_FP "HerOrders$Ways" 69 5 9 .int := ⟨RX5, TX5, 14, tyX5, rfl, by decide, rfl, sm_inX5, tyX5_ok, nmX5, rfl, by decide +kernel, Or.inl (List.mem_of_getElem? (i := 217) (by decide +kernel))⟩
set_option maxRecDepth 100000 in
theorem fp_wy_72 : sm_FP "HerOrders$Ways" 72 5 10 .int := ⟨RX5, TX5, 14, tyX5, rfl, by decide, rfl, sm_inX5, tyX5_ok, nmX5, rfl, by decide +kernel, Or.inl (List.mem_of_getElem? (i := 219) (by decide +kernel))⟩
set_option maxRecDepth 100000 in
theorem fp_wy_75 : sm_FP "HerOrders$Ways" 75 5 11 .int := ⟨RX5, TX5, 14, tyX5, rfl, by decide, rfl, sm_inX5, tyX5_ok, nmX5, rfl, by decide +kernel, Or.inl (List.mem_of_getElem? (i := 220) (by decide +kernel))⟩
set_option maxRecDepth 100000 in
theorem fp_wy_78 : sm_FP "HerOrders$Ways" 78 5 13 .int := ⟨RX5, TX5, 14, tyX5, rfl, by decide, rfl, sm_inX5, tyX5_ok, nmX5, rfl, by decide +kernel, Or.inl (List.mem_of_getElem? (i := 223) (by decide +kernel))⟩
set_option maxRecDepth 100000 in
theorem fl_wy_25 : sm_FL "HerOrders$Ways" 25 5 5 := ⟨RX5, TX5, 14, rfl, by decide, rfl, sm_inX5, Or.inl (List.mem_of_getElem? (i := 210) (by decide +kernel))⟩
set_option maxRecDepth 100000 in
theorem fp_wy_63 : sm_FP "HerOrders$Ways" 63 5 12 .int := ⟨RX5, TX5, 14, tyX5, rfl, by decide, rfl, sm_inX5, tyX5_ok, nmX5, rfl, by decide +kernel, Or.inl (List.mem_of_getElem? (i := 222) (by decide +kernel))⟩
abbrev mi_la_can : sm_MI := (⟨"HerOrdersLaw", "can", "([I[III)Z"⟩, method_9_code, 6, (some .boolean), 2)
set_option maxRecDepth 100000 in
theorem mf_la_can : sm_MF mi_la_can 4 := ⟨List.mem_of_getElem? (i := 846) (by decide +kernel), List.mem_of_getElem? (i := 68) (by decide +kernel), ⟨by decide, by decide⟩, by decide +kernel⟩
set_option maxRecDepth 100000 in
theorem mv_la_can : sm_MFS mi_la_can := List.mem_of_getElem? (i := 845) (by decide +kernel)
set_option maxRecDepth 100000 in
theorem ii_la_can_0 : sm_D method_9_code 0 1 1 (.aload_n 1) := ⟨by decide +kernel, rfl⟩
set_option maxRecDepth 100000 in
theorem ii_la_can_1 : sm_D method_9_code 1 1 2 (.iconst 1) := ⟨by decide +kernel, rfl⟩
set_option maxRecDepth 100000 in
theorem ii_la_can_2 : sm_D method_9_code 2 1 3 (.iaload) := ⟨by decide +kernel, rfl⟩
set_option maxRecDepth 100000 in
theorem ii_la_can_3 : sm_D method_9_code 3 2 5 (.bipush 8) := ⟨by decide +kernel, rfl⟩
set_option maxRecDepth 100000 in
theorem ii_la_can_5 : sm_D method_9_code 5 3 8 (.if_icmp .eq 12) := ⟨by decide +kernel, rfl⟩
set_option maxRecDepth 100000 in
theorem ii_la_can_8 : sm_D method_9_code 8 1 9 (.aload_n 1) := ⟨by decide +kernel, rfl⟩
set_option maxRecDepth 100000 in
theorem ii_la_can_9 : sm_D method_9_code 9 2 11 (.bipush 25) := ⟨by decide +kernel, rfl⟩
set_option maxRecDepth 100000 in
theorem ii_la_can_11 : sm_D method_9_code 11 1 12 (.iload_n 2) := ⟨by decide +kernel, rfl⟩
set_option maxRecDepth 100000 in
theorem ii_la_can_12 : sm_D method_9_code 12 1 13 (.iadd) := ⟨by decide +kernel, rfl⟩
set_option maxRecDepth 100000 in
theorem ii_la_can_13 : sm_D method_9_code 13 1 14 (.iaload) := ⟨by decide +kernel, rfl⟩
set_option maxRecDepth 100000 in
theorem ii_la_can_14 : sm_D method_9_code 14 3 17 (.ifCond .ne 5) := ⟨by decide +kernel, rfl⟩
set_option maxRecDepth 100000 in
theorem ii_la_can_17 : sm_D method_9_code 17 1 18 (.iconst 0) := ⟨by decide +kernel, rfl⟩
set_option maxRecDepth 100000 in
theorem ii_la_can_18 : sm_D method_9_code 18 1 19 (.ireturn) := ⟨by decide +kernel, rfl⟩
set_option maxRecDepth 100000 in
theorem ii_la_can_19 : sm_D method_9_code 19 1 20 (.aload_n 1) := ⟨by decide +kernel, rfl⟩
set_option maxRecDepth 100000 in
theorem ii_la_can_20 : sm_D method_9_code 20 1 21 (.iconst 1) := ⟨by decide +kernel, rfl⟩
set_option maxRecDepth 100000 in
theorem ii_la_can_21 : sm_D method_9_code 21 1 22 (.iaload) := ⟨by decide +kernel, rfl⟩
set_option maxRecDepth 100000 in
theorem ii_la_can_22 : sm_D method_9_code 22 3 25 (.ifCond .le 49) := ⟨by decide +kernel, rfl⟩
set_option maxRecDepth 100000 in
theorem ii_la_can_25 : sm_D method_9_code 25 1 26 (.aload_n 1) := ⟨by decide +kernel, rfl⟩
set_option maxRecDepth 100000 in
theorem ii_la_can_26 : sm_D method_9_code 26 2 28 (.bipush 10) := ⟨by decide +kernel, rfl⟩
set_option maxRecDepth 100000 in
theorem ii_la_can_28 : sm_D method_9_code 28 1 29 (.aload_n 1) := ⟨by decide +kernel, rfl⟩
set_option maxRecDepth 100000 in
theorem ii_la_can_29 : sm_D method_9_code 29 1 30 (.iconst 1) := ⟨by decide +kernel, rfl⟩
set_option maxRecDepth 100000 in
theorem ii_la_can_30 : sm_D method_9_code 30 1 31 (.iaload) := ⟨by decide +kernel, rfl⟩
set_option maxRecDepth 100000 in
theorem ii_la_can_31 : sm_D method_9_code 31 1 32 (.iadd) := ⟨by decide +kernel, rfl⟩
set_option maxRecDepth 100000 in
theorem ii_la_can_32 : sm_D method_9_code 32 1 33 (.iaload) := ⟨by decide +kernel, rfl⟩
set_option maxRecDepth 100000 in
theorem ii_la_can_33 : sm_D method_9_code 33 2 35 (.istore 4) := ⟨by decide +kernel, rfl⟩
set_option maxRecDepth 100000 in
theorem ii_la_can_35 : sm_D method_9_code 35 1 36 (.aload_n 1) := ⟨by decide +kernel, rfl⟩
set_option maxRecDepth 100000 in
theorem ii_la_can_36 : sm_D method_9_code 36 2 38 (.bipush 19) := ⟨by decide +kernel, rfl⟩
set_option maxRecDepth 100000 in
theorem ii_la_can_38 : sm_D method_9_code 38 1 39 (.iload_n 2) := ⟨by decide +kernel, rfl⟩
set_option maxRecDepth 100000 in
theorem ii_la_can_39 : sm_D method_9_code 39 1 40 (.iadd) := ⟨by decide +kernel, rfl⟩
set_option maxRecDepth 100000 in
theorem ii_la_can_40 : sm_D method_9_code 40 1 41 (.iaload) := ⟨by decide +kernel, rfl⟩
set_option maxRecDepth 100000 in
theorem ii_la_can_41 : sm_D method_9_code 41 1 42 (.aload_n 1) := ⟨by decide +kernel, rfl⟩
set_option maxRecDepth 100000 in
theorem ii_la_can_42 : sm_D method_9_code 42 2 44 (.bipush 19) := ⟨by decide +kernel, rfl⟩
set_option maxRecDepth 100000 in
theorem ii_la_can_44 : sm_D method_9_code 44 2 46 (.iload 4) := ⟨by decide +kernel, rfl⟩
set_option maxRecDepth 100000 in
theorem ii_la_can_46 : sm_D method_9_code 46 1 47 (.iadd) := ⟨by decide +kernel, rfl⟩
set_option maxRecDepth 100000 in
theorem ii_la_can_47 : sm_D method_9_code 47 1 48 (.iaload) := ⟨by decide +kernel, rfl⟩
set_option maxRecDepth 100000 in
theorem ii_la_can_48 : sm_D method_9_code 48 1 49 (.isub) := ⟨by decide +kernel, rfl⟩
set_option maxRecDepth 100000 in
theorem ii_la_can_49 : sm_D method_9_code 49 2 51 (.istore 5) := ⟨by decide +kernel, rfl⟩
set_option maxRecDepth 100000 in
theorem ii_la_can_51 : sm_D method_9_code 51 2 53 (.iload 4) := ⟨by decide +kernel, rfl⟩
set_option maxRecDepth 100000 in
theorem ii_la_can_53 : sm_D method_9_code 53 1 54 (.iload_n 2) := ⟨by decide +kernel, rfl⟩
set_option maxRecDepth 100000 in
theorem ii_la_can_54 : sm_D method_9_code 54 3 57 (.if_icmp .eq 15) := ⟨by decide +kernel, rfl⟩
set_option maxRecDepth 100000 in
theorem ii_la_can_57 : sm_D method_9_code 57 2 59 (.iload 5) := ⟨by decide +kernel, rfl⟩
set_option maxRecDepth 100000 in
theorem ii_la_can_59 : sm_D method_9_code 59 1 60 (.iconst 1) := ⟨by decide +kernel, rfl⟩
set_option maxRecDepth 100000 in
theorem ii_la_can_60 : sm_D method_9_code 60 3 63 (.if_icmp .gt 9) := ⟨by decide +kernel, rfl⟩
set_option maxRecDepth 100000 in
theorem ii_la_can_63 : sm_D method_9_code 63 2 65 (.iload 5) := ⟨by decide +kernel, rfl⟩
set_option maxRecDepth 100000 in
theorem ii_la_can_65 : sm_D method_9_code 65 1 66 (.iconst (-1)) := ⟨by decide +kernel, rfl⟩
set_option maxRecDepth 100000 in
theorem ii_la_can_66 : sm_D method_9_code 66 3 69 (.if_icmp .ge 5) := ⟨by decide +kernel, rfl⟩
set_option maxRecDepth 100000 in
theorem ii_la_can_69 : sm_D method_9_code 69 1 70 (.iconst 0) := ⟨by decide +kernel, rfl⟩
set_option maxRecDepth 100000 in
theorem ii_la_can_70 : sm_D method_9_code 70 1 71 (.ireturn) := ⟨by decide +kernel, rfl⟩
set_option maxRecDepth 100000 in
theorem ii_la_can_71 : sm_D method_9_code 71 1 72 (.aload_n 0) := ⟨by decide +kernel, rfl⟩
set_option maxRecDepth 100000 in
theorem ii_la_can_72 : sm_D method_9_code 72 1 73 (.iconst 1) := ⟨by decide +kernel, rfl⟩
set_option maxRecDepth 100000 in
theorem ii_la_can_73 : sm_D method_9_code 73 1 74 (.iload_n 2) := ⟨by decide +kernel, rfl⟩
set_option maxRecDepth 100000 in
theorem ii_la_can_74 : sm_D method_9_code 74 1 75 (.iadd) := ⟨by decide +kernel, rfl⟩
set_option maxRecDepth 100000 in
theorem ii_la_can_75 : sm_D method_9_code 75 1 76 (.iaload) := ⟨by decide +kernel, rfl⟩
set_option maxRecDepth 100000 in
theorem ii_la_can_76 : sm_D method_9_code 76 1 77 (.aload_n 0) := ⟨by decide +kernel, rfl⟩
set_option maxRecDepth 100000 in
theorem ii_la_can_77 : sm_D method_9_code 77 2 79 (.bipush 7) := ⟨by decide +kernel, rfl⟩
set_option maxRecDepth 100000 in
theorem ii_la_can_79 : sm_D method_9_code 79 1 80 (.iload_n 2) := ⟨by decide +kernel, rfl⟩
set_option maxRecDepth 100000 in
theorem ii_la_can_80 : sm_D method_9_code 80 1 81 (.iadd) := ⟨by decide +kernel, rfl⟩
set_option maxRecDepth 100000 in
theorem ii_la_can_81 : sm_D method_9_code 81 1 82 (.iaload) := ⟨by decide +kernel, rfl⟩
set_option maxRecDepth 100000 in
theorem ii_la_can_82 : sm_D method_9_code 82 1 83 (.aload_n 1) := ⟨by decide +kernel, rfl⟩
set_option maxRecDepth 100000 in
theorem ii_la_can_83 : sm_D method_9_code 83 3 86 (.invokestatic 38) := ⟨by decide +kernel, rfl⟩
set_option maxRecDepth 100000 in
theorem ii_la_can_86 : sm_D method_9_code 86 1 87 (.iload_n 3) := ⟨by decide +kernel, rfl⟩
set_option maxRecDepth 100000 in
theorem ii_la_can_87 : sm_D method_9_code 87 1 88 (.aload_n 1) := ⟨by decide +kernel, rfl⟩
set_option maxRecDepth 100000 in
theorem ii_la_can_88 : sm_D method_9_code 88 1 89 (.iconst 0) := ⟨by decide +kernel, rfl⟩
set_option maxRecDepth 100000 in
theorem ii_la_can_89 : sm_D method_9_code 89 1 90 (.iaload) := ⟨by decide +kernel, rfl⟩
set_option maxRecDepth 100000 in
theorem ii_la_can_90 : sm_D method_9_code 90 3 93 (.invokestatic 42) := ⟨by decide +kernel, rfl⟩
set_option maxRecDepth 100000 in
theorem ii_la_can_93 : sm_D method_9_code 93 1 94 (.ireturn) := ⟨by decide +kernel, rfl⟩
noncomputable def ff_la_can_71  (a2 : Int32) (a3 : Int32) (w : sm_Mem) : sm_R := (Option.bind (sm_rd w 62 19 ((1 : Int32) + a2)) fun x1 => (Option.bind (sm_rd w 62 19 ((7 : Int32) + a2)) fun x2 => (sm_cI (ff_la_lastWord  w) fun x3 w4 => (Option.bind (sm_rd w4 63 31 (0 : Int32)) fun x5 => (sm_cI (ff_la_able (x1) (x2) (x3) (a3) (x5) w4) fun x6 w7 => (sm_rz x6 w7))))))
set_option maxHeartbeats 4000000 in
set_option maxRecDepth 100000 in
theorem ss_la_can_71 {E : Nat × (Nat → Int32)}  (a2 : Int32) (a3 : Int32) (w : sm_Mem) : sm_Sim E (mi_la_can) 71 [some (.ref 62), some (.ref 63), some (.int a2), some (.int a3), none, none] [] w (ff_la_can_71  a2 a3 w) := by
  unfold ff_la_can_71
  refine sm_aload_n ii_la_can_71 rfl ?_
  refine sm_iconst (1 : Int32) ii_la_can_72 (by decide) ?_
  refine sm_iload_n ii_la_can_73 rfl ?_
  refine sm_iadd ii_la_can_74 ?_
  refine sm_iald ii_la_can_75 (k := 62) rfl (fun x1 => ?_)
  refine sm_aload_n ii_la_can_76 rfl ?_
  refine sm_bipush (7 : Int32) ii_la_can_77 (by decide) ?_
  refine sm_iload_n ii_la_can_79 rfl ?_
  refine sm_iadd ii_la_can_80 ?_
  refine sm_iald ii_la_can_81 (k := 62) rfl (fun x2 => ?_)
  refine sm_aload_n ii_la_can_82 rfl ?_
  refine sm_csI [.ref 63] [.int x2, .int x1] rfl ii_la_can_83 ml_la_38 (mf_la_lastWord) (mv_la_lastWord) (Nat.le_of_ble_eq_true rfl) rfl rfl rfl (mc_la_lastWord  w) (fun x3 w4 => ?_)
  refine sm_iload_n ii_la_can_86 rfl ?_
  refine sm_aload_n ii_la_can_87 rfl ?_
  refine sm_iconst (0 : Int32) ii_la_can_88 (by decide) ?_
  refine sm_iald ii_la_can_89 (k := 63) rfl (fun x5 => ?_)
  refine sm_csI [.int x1, .int x2, .int x3, .int a3, .int x5] [] rfl ii_la_can_90 ml_la_42 (mf_la_able) (mv_la_able) (Nat.le_of_ble_eq_true rfl) rfl rfl rfl (mc_la_able (x1) (x2) (x3) (a3) (x5) w4) (fun x6 w7 => ?_)
  exact sm_zret ii_la_can_93 rfl
noncomputable def ff_la_can  (a2 : Int32) (a3 : Int32) (w : sm_Mem) : sm_R := (Option.bind (sm_rd w 63 31 (1 : Int32)) fun x8 => (if x8 = (8 : Int32) then (some (.int (0 : Int32), w)) else (Option.bind (sm_rd w 63 31 ((25 : Int32) + a2)) fun x9 => (if x9 = (0 : Int32) then (some (.int (0 : Int32), w)) else (Option.bind (sm_rd w 63 31 (1 : Int32)) fun x10 => (if x10 ≤ (0 : Int32) then ff_la_can_71 (a2) (a3) w else (Option.bind (sm_rd w 63 31 (1 : Int32)) fun x11 => (Option.bind (sm_rd w 63 31 ((10 : Int32) + x11)) fun x12 => (Option.bind (sm_rd w 63 31 ((19 : Int32) + a2)) fun x13 => (Option.bind (sm_rd w 63 31 ((19 : Int32) + x12)) fun x14 => (if x12 = a2 then (some (.int (0 : Int32), w)) else (if (1 : Int32) < (x13 - x14) then (some (.int (0 : Int32), w)) else (if (-1 : Int32) ≤ (x13 - x14) then ff_la_can_71 (a2) (a3) w else (some (.int (0 : Int32), w)))))))))))))))
set_option maxHeartbeats 4000000 in
set_option maxRecDepth 100000 in
theorem ss_la_can_0 {E : Nat × (Nat → Int32)}  (a2 : Int32) (a3 : Int32) (w : sm_Mem) : sm_Sim E (mi_la_can) 0 [some (.ref 62), some (.ref 63), some (.int a2), some (.int a3), none, none] [] w (ff_la_can  a2 a3 w) := by
  unfold ff_la_can
  refine sm_aload_n ii_la_can_0 rfl ?_
  refine sm_iconst (1 : Int32) ii_la_can_1 (by decide) ?_
  refine sm_iald ii_la_can_2 (k := 63) rfl (fun x8 => ?_)
  refine sm_bipush (8 : Int32) ii_la_can_3 (by decide) ?_
  refine sm_icmp_eq 17 ii_la_can_5 (by decide) ?_ ?_
  · refine sm_iconst (0 : Int32) ii_la_can_17 (by decide) ?_
    exact sm_zret1 ii_la_can_18 rfl (by decide)
  · refine sm_aload_n ii_la_can_8 rfl ?_
    refine sm_bipush (25 : Int32) ii_la_can_9 (by decide) ?_
    refine sm_iload_n ii_la_can_11 rfl ?_
    refine sm_iadd ii_la_can_12 ?_
    refine sm_iald ii_la_can_13 (k := 63) rfl (fun x9 => ?_)
    refine sm_if_ne 19 ii_la_can_14 (by decide) ?_ ?_
    · refine sm_iconst (0 : Int32) ii_la_can_17 (by decide) ?_
      exact sm_zret1 ii_la_can_18 rfl (by decide)
    · refine sm_aload_n ii_la_can_19 rfl ?_
      refine sm_iconst (1 : Int32) ii_la_can_20 (by decide) ?_
      refine sm_iald ii_la_can_21 (k := 63) rfl (fun x10 => ?_)
      refine sm_if_le 71 ii_la_can_22 (by decide) ?_ ?_
      · exact ss_la_can_71 (a2) (a3) w
      · refine sm_aload_n ii_la_can_25 rfl ?_
        refine sm_bipush (10 : Int32) ii_la_can_26 (by decide) ?_
        refine sm_aload_n ii_la_can_28 rfl ?_
        refine sm_iconst (1 : Int32) ii_la_can_29 (by decide) ?_
        refine sm_iald ii_la_can_30 (k := 63) rfl (fun x11 => ?_)
        refine sm_iadd ii_la_can_31 ?_
        refine sm_iald ii_la_can_32 (k := 63) rfl (fun x12 => ?_)
        refine sm_istore [some (.ref 62), some (.ref 63), some (.int a2), some (.int a3), some (.int x12), none] ii_la_can_33 rfl rfl ?_
        refine sm_aload_n ii_la_can_35 rfl ?_
        refine sm_bipush (19 : Int32) ii_la_can_36 (by decide) ?_
        refine sm_iload_n ii_la_can_38 rfl ?_
        refine sm_iadd ii_la_can_39 ?_
        refine sm_iald ii_la_can_40 (k := 63) rfl (fun x13 => ?_)
        refine sm_aload_n ii_la_can_41 rfl ?_
        refine sm_bipush (19 : Int32) ii_la_can_42 (by decide) ?_
        refine sm_iload ii_la_can_44 rfl ?_
        refine sm_iadd ii_la_can_46 ?_
        refine sm_iald ii_la_can_47 (k := 63) rfl (fun x14 => ?_)
        refine sm_isub ii_la_can_48 ?_
        refine sm_istore [some (.ref 62), some (.ref 63), some (.int a2), some (.int a3), some (.int x12), some (.int (x13 - x14))] ii_la_can_49 rfl rfl ?_
        refine sm_iload ii_la_can_51 rfl ?_
        refine sm_iload_n ii_la_can_53 rfl ?_
        refine sm_icmp_eq 69 ii_la_can_54 (by decide) ?_ ?_
        · refine sm_iconst (0 : Int32) ii_la_can_69 (by decide) ?_
          exact sm_zret1 ii_la_can_70 rfl (by decide)
        · refine sm_iload ii_la_can_57 rfl ?_
          refine sm_iconst (1 : Int32) ii_la_can_59 (by decide) ?_
          refine sm_icmp_gt 69 ii_la_can_60 (by decide) ?_ ?_
          · refine sm_iconst (0 : Int32) ii_la_can_69 (by decide) ?_
            exact sm_zret1 ii_la_can_70 rfl (by decide)
          · refine sm_iload ii_la_can_63 rfl ?_
            refine sm_iconst (-1 : Int32) ii_la_can_65 (by decide) ?_
            refine sm_icmp_ge 71 ii_la_can_66 (by decide) ?_ ?_
            · refine sm_msk [true, true, true, true, false, false] [some (.ref 62), some (.ref 63), some (.int a2), some (.int a3), none, none] rfl ?_
              exact ss_la_can_71 (a2) (a3) w
            · refine sm_iconst (0 : Int32) ii_la_can_69 (by decide) ?_
              exact sm_zret1 ii_la_can_70 rfl (by decide)
set_option maxHeartbeats 4000000 in
set_option maxRecDepth 100000 in
theorem mc_la_can {E : Nat × (Nat → Int32)} (a2 : Int32) (a3 : Int32) (w : sm_Mem) : sm_MC E mi_la_can [.ref 62, .ref 63, .int a2, .int a3] w (ff_la_can a2 a3 w) := sm_MC_of E (by decide +kernel) rfl (Nat.le_of_ble_eq_true rfl) (ss_la_can_0 a2 a3 w)
abbrev mi_la_say : sm_MI := (⟨"HerOrdersLaw", "say", "([III)I"⟩, method_12_code, 3, (some .int), 1)
set_option maxRecDepth 100000 in
theorem mf_la_say : sm_MF mi_la_say 3 := ⟨List.mem_of_getElem? (i := 852) (by decide +kernel), List.mem_of_getElem? (i := 68) (by decide +kernel), ⟨by decide, by decide⟩, by decide +kernel⟩
set_option maxRecDepth 100000 in
theorem mv_la_say : sm_MFS mi_la_say := List.mem_of_getElem? (i := 851) (by decide +kernel)
set_option maxRecDepth 100000 in
theorem ii_la_say_0 : sm_D method_12_code 0 1 1 (.aload_n 0) := ⟨by decide +kernel, rfl⟩
set_option maxRecDepth 100000 in
theorem ii_la_say_1 : sm_D method_12_code 1 1 2 (.iconst 3) := ⟨by decide +kernel, rfl⟩
set_option maxRecDepth 100000 in
theorem ii_la_say_2 : sm_D method_12_code 2 1 3 (.aload_n 0) := ⟨by decide +kernel, rfl⟩
set_option maxRecDepth 100000 in
theorem ii_la_say_3 : sm_D method_12_code 3 1 4 (.iconst 1) := ⟨by decide +kernel, rfl⟩
set_option maxRecDepth 100000 in
theorem ii_la_say_4 : sm_D method_12_code 4 1 5 (.iaload) := ⟨by decide +kernel, rfl⟩
set_option maxRecDepth 100000 in
theorem ii_la_say_5 : sm_D method_12_code 5 1 6 (.iadd) := ⟨by decide +kernel, rfl⟩
set_option maxRecDepth 100000 in
theorem ii_la_say_6 : sm_D method_12_code 6 1 7 (.iload_n 2) := ⟨by decide +kernel, rfl⟩
set_option maxRecDepth 100000 in
theorem ii_la_say_7 : sm_D method_12_code 7 1 8 (.iastore) := ⟨by decide +kernel, rfl⟩
set_option maxRecDepth 100000 in
theorem ii_la_say_8 : sm_D method_12_code 8 1 9 (.aload_n 0) := ⟨by decide +kernel, rfl⟩
set_option maxRecDepth 100000 in
theorem ii_la_say_9 : sm_D method_12_code 9 2 11 (.bipush 11) := ⟨by decide +kernel, rfl⟩
set_option maxRecDepth 100000 in
theorem ii_la_say_11 : sm_D method_12_code 11 1 12 (.aload_n 0) := ⟨by decide +kernel, rfl⟩
set_option maxRecDepth 100000 in
theorem ii_la_say_12 : sm_D method_12_code 12 1 13 (.iconst 1) := ⟨by decide +kernel, rfl⟩
set_option maxRecDepth 100000 in
theorem ii_la_say_13 : sm_D method_12_code 13 1 14 (.iaload) := ⟨by decide +kernel, rfl⟩
set_option maxRecDepth 100000 in
theorem ii_la_say_14 : sm_D method_12_code 14 1 15 (.iadd) := ⟨by decide +kernel, rfl⟩
set_option maxRecDepth 100000 in
theorem ii_la_say_15 : sm_D method_12_code 15 1 16 (.iload_n 1) := ⟨by decide +kernel, rfl⟩
set_option maxRecDepth 100000 in
theorem ii_la_say_16 : sm_D method_12_code 16 1 17 (.iastore) := ⟨by decide +kernel, rfl⟩
set_option maxRecDepth 100000 in
theorem ii_la_say_17 : sm_D method_12_code 17 1 18 (.aload_n 0) := ⟨by decide +kernel, rfl⟩
set_option maxRecDepth 100000 in
theorem ii_la_say_18 : sm_D method_12_code 18 2 20 (.bipush 25) := ⟨by decide +kernel, rfl⟩
set_option maxRecDepth 100000 in
theorem ii_la_say_20 : sm_D method_12_code 20 1 21 (.iload_n 1) := ⟨by decide +kernel, rfl⟩
set_option maxRecDepth 100000 in
theorem ii_la_say_21 : sm_D method_12_code 21 1 22 (.iadd) := ⟨by decide +kernel, rfl⟩
set_option maxRecDepth 100000 in
theorem ii_la_say_22 : sm_D method_12_code 22 1 23 (.dup2) := ⟨by decide +kernel, rfl⟩
set_option maxRecDepth 100000 in
theorem ii_la_say_23 : sm_D method_12_code 23 1 24 (.iaload) := ⟨by decide +kernel, rfl⟩
set_option maxRecDepth 100000 in
theorem ii_la_say_24 : sm_D method_12_code 24 1 25 (.iconst 1) := ⟨by decide +kernel, rfl⟩
set_option maxRecDepth 100000 in
theorem ii_la_say_25 : sm_D method_12_code 25 1 26 (.isub) := ⟨by decide +kernel, rfl⟩
set_option maxRecDepth 100000 in
theorem ii_la_say_26 : sm_D method_12_code 26 1 27 (.iastore) := ⟨by decide +kernel, rfl⟩
set_option maxRecDepth 100000 in
theorem ii_la_say_27 : sm_D method_12_code 27 1 28 (.aload_n 0) := ⟨by decide +kernel, rfl⟩
set_option maxRecDepth 100000 in
theorem ii_la_say_28 : sm_D method_12_code 28 1 29 (.iconst 1) := ⟨by decide +kernel, rfl⟩
set_option maxRecDepth 100000 in
theorem ii_la_say_29 : sm_D method_12_code 29 1 30 (.dup2) := ⟨by decide +kernel, rfl⟩
set_option maxRecDepth 100000 in
theorem ii_la_say_30 : sm_D method_12_code 30 1 31 (.iaload) := ⟨by decide +kernel, rfl⟩
set_option maxRecDepth 100000 in
theorem ii_la_say_31 : sm_D method_12_code 31 1 32 (.iconst 1) := ⟨by decide +kernel, rfl⟩
set_option maxRecDepth 100000 in
theorem ii_la_say_32 : sm_D method_12_code 32 1 33 (.iadd) := ⟨by decide +kernel, rfl⟩
set_option maxRecDepth 100000 in
theorem ii_la_say_33 : sm_D method_12_code 33 1 34 (.iastore) := ⟨by decide +kernel, rfl⟩
set_option maxRecDepth 100000 in
theorem ii_la_say_34 : sm_D method_12_code 34 1 35 (.aload_n 0) := ⟨by decide +kernel, rfl⟩
set_option maxRecDepth 100000 in
theorem ii_la_say_35 : sm_D method_12_code 35 1 36 (.iconst 1) := ⟨by decide +kernel, rfl⟩
set_option maxRecDepth 100000 in
theorem ii_la_say_36 : sm_D method_12_code 36 1 37 (.iaload) := ⟨by decide +kernel, rfl⟩
set_option maxRecDepth 100000 in
theorem ii_la_say_37 : sm_D method_12_code 37 1 38 (.ireturn) := ⟨by decide +kernel, rfl⟩
noncomputable def ff_la_say  (a1 : Int32) (a2 : Int32) (w : sm_Mem) : sm_R := (Option.bind (sm_rd w 63 31 (1 : Int32)) fun x1 => (Option.bind (sm_wr w 63 31 ((3 : Int32) + x1) a2) fun w2 => (Option.bind (sm_rd w2 63 31 (1 : Int32)) fun x3 => (Option.bind (sm_wr w2 63 31 ((11 : Int32) + x3) a1) fun w4 => (Option.bind (sm_rd w4 63 31 ((25 : Int32) + a1)) fun x5 => (Option.bind (sm_wr w4 63 31 ((25 : Int32) + a1) (x5 - (1 : Int32))) fun w6 => (Option.bind (sm_rd w6 63 31 (1 : Int32)) fun x7 => (Option.bind (sm_wr w6 63 31 (1 : Int32) (x7 + (1 : Int32))) fun w8 => (Option.bind (sm_rd w8 63 31 (1 : Int32)) fun x9 => (some (.int x9, w8)))))))))))
set_option maxHeartbeats 4000000 in
set_option maxRecDepth 100000 in
theorem ss_la_say_0 {E : Nat × (Nat → Int32)}  (a1 : Int32) (a2 : Int32) (w : sm_Mem) : sm_Sim E (mi_la_say) 0 [some (.ref 63), some (.int a1), some (.int a2)] [] w (ff_la_say  a1 a2 w) := by
  unfold ff_la_say
  refine sm_aload_n ii_la_say_0 rfl ?_
  refine sm_iconst (3 : Int32) ii_la_say_1 (by decide) ?_
  refine sm_aload_n ii_la_say_2 rfl ?_
  refine sm_iconst (1 : Int32) ii_la_say_3 (by decide) ?_
  refine sm_iald ii_la_say_4 (k := 63) rfl (fun x1 => ?_)
  refine sm_iadd ii_la_say_5 ?_
  refine sm_iload_n ii_la_say_6 rfl ?_
  refine sm_iast ii_la_say_7 (k := 63) rfl (fun w2 => ?_)
  refine sm_aload_n ii_la_say_8 rfl ?_
  refine sm_bipush (11 : Int32) ii_la_say_9 (by decide) ?_
  refine sm_aload_n ii_la_say_11 rfl ?_
  refine sm_iconst (1 : Int32) ii_la_say_12 (by decide) ?_
  refine sm_iald ii_la_say_13 (k := 63) rfl (fun x3 => ?_)
  refine sm_iadd ii_la_say_14 ?_
  refine sm_iload_n ii_la_say_15 rfl ?_
  refine sm_iast ii_la_say_16 (k := 63) rfl (fun w4 => ?_)
  refine sm_aload_n ii_la_say_17 rfl ?_
  refine sm_bipush (25 : Int32) ii_la_say_18 (by decide) ?_
  refine sm_iload_n ii_la_say_20 rfl ?_
  refine sm_iadd ii_la_say_21 ?_
  refine sm_dup2 ii_la_say_22 ?_
  refine sm_iald ii_la_say_23 (k := 63) rfl (fun x5 => ?_)
  refine sm_iconst (1 : Int32) ii_la_say_24 (by decide) ?_
  refine sm_isub ii_la_say_25 ?_
  refine sm_iast ii_la_say_26 (k := 63) rfl (fun w6 => ?_)
  refine sm_aload_n ii_la_say_27 rfl ?_
  refine sm_iconst (1 : Int32) ii_la_say_28 (by decide) ?_
  refine sm_dup2 ii_la_say_29 ?_
  refine sm_iald ii_la_say_30 (k := 63) rfl (fun x7 => ?_)
  refine sm_iconst (1 : Int32) ii_la_say_31 (by decide) ?_
  refine sm_iadd ii_la_say_32 ?_
  refine sm_iast ii_la_say_33 (k := 63) rfl (fun w8 => ?_)
  refine sm_aload_n ii_la_say_34 rfl ?_
  refine sm_iconst (1 : Int32) ii_la_say_35 (by decide) ?_
  refine sm_iald ii_la_say_36 (k := 63) rfl (fun x9 => ?_)
  exact sm_iret ii_la_say_37 rfl
set_option maxHeartbeats 4000000 in
set_option maxRecDepth 100000 in
theorem mc_la_say {E : Nat × (Nat → Int32)} (a1 : Int32) (a2 : Int32) (w : sm_Mem) : sm_MC E mi_la_say [.ref 63, .int a1, .int a2] w (ff_la_say a1 a2 w) := sm_MC_of E (by decide +kernel) rfl (Nat.le_of_ble_eq_true rfl) (ss_la_say_0 a1 a2 w)
abbrev mi_ho_isSpeaker : sm_MI := (⟨"HerOrders", "isSpeaker", "(I)Z"⟩, prog_1_method_47_code, 2, (some .boolean), 2)
set_option maxRecDepth 100000 in
theorem mf_ho_isSpeaker : sm_MF mi_ho_isSpeaker 1 := ⟨List.mem_of_getElem? (i := 412) (by decide +kernel), List.mem_of_getElem? (i := 69) (by decide +kernel), ⟨by decide, by decide⟩, by decide +kernel⟩
set_option maxRecDepth 100000 in
theorem mv_ho_isSpeaker : sm_MFV mi_ho_isSpeaker := ⟨List.mem_of_getElem? (i := 411) (by decide +kernel), List.mem_of_getElem? (i := 10) (by decide +kernel)⟩
set_option maxRecDepth 100000 in
theorem ii_ho_isSpeaker_0 : sm_D prog_1_method_47_code 0 1 1 (.iload_n 1) := ⟨by decide +kernel, rfl⟩
set_option maxRecDepth 100000 in
theorem ii_ho_isSpeaker_1 : sm_D prog_1_method_47_code 1 1 2 (.aload_n 0) := ⟨by decide +kernel, rfl⟩
set_option maxRecDepth 100000 in
theorem ii_ho_isSpeaker_2 : sm_D prog_1_method_47_code 2 3 5 (.getfield 31) := ⟨by decide +kernel, rfl⟩
set_option maxRecDepth 100000 in
theorem ii_ho_isSpeaker_5 : sm_D prog_1_method_47_code 5 3 8 (.getfield 115) := ⟨by decide +kernel, rfl⟩
set_option maxRecDepth 100000 in
theorem ii_ho_isSpeaker_8 : sm_D prog_1_method_47_code 8 3 11 (.invokestatic 81) := ⟨by decide +kernel, rfl⟩
set_option maxRecDepth 100000 in
theorem ii_ho_isSpeaker_11 : sm_D prog_1_method_47_code 11 1 12 (.ireturn) := ⟨by decide +kernel, rfl⟩
noncomputable def ff_ho_isSpeaker  (a1 : Int32) (w : sm_Mem) : sm_R := (sm_cI (ff_ho_isWithin (a1) ((w.1 36 0)) w) fun x1 w2 => (sm_rz x1 w2))
set_option maxHeartbeats 4000000 in
set_option maxRecDepth 100000 in
theorem ss_ho_isSpeaker_0 {E : Nat × (Nat → Int32)}  (a1 : Int32) (w : sm_Mem) : sm_Sim E (mi_ho_isSpeaker) 0 [some (.ref 0), some (.int a1)] [] w (ff_ho_isSpeaker  a1 w) := by
  unfold ff_ho_isSpeaker
  refine sm_iload_n ii_ho_isSpeaker_0 rfl ?_
  refine sm_aload_n ii_ho_isSpeaker_1 rfl ?_
  refine sm_getR 36 ii_ho_isSpeaker_2 fl_ho_31 (k := 0) rfl ?_
  refine sm_getI ii_ho_isSpeaker_5 fl_ho_115 (k := 36) rfl ?_
  refine sm_csI [.int a1, .int (w.1 36 0)] [] rfl ii_ho_isSpeaker_8 ml_ho_81 (mf_ho_isWithin) (mv_ho_isWithin) (Nat.le_of_ble_eq_true rfl) rfl rfl rfl (mc_ho_isWithin (a1) ((w.1 36 0)) w) (fun x1 w2 => ?_)
  exact sm_zret ii_ho_isSpeaker_11 rfl
set_option maxHeartbeats 4000000 in
set_option maxRecDepth 100000 in
theorem mc_ho_isSpeaker {E : Nat × (Nat → Int32)} (a1 : Int32) (w : sm_Mem) : sm_MC E mi_ho_isSpeaker [.ref 0, .int a1] w (ff_ho_isSpeaker a1 w) := sm_MC_of E (by decide +kernel) rfl (Nat.le_of_ble_eq_true rfl) (ss_ho_isSpeaker_0 a1 w)
abbrev mi_hs_isFull : sm_MI := (⟨"HerOrders$House", "isFull", "()Z"⟩, prog_3_method_4_code, 1, (some .boolean), 1)
set_option maxRecDepth 100000 in
theorem mf_hs_isFull : sm_MF mi_hs_isFull 0 := ⟨List.mem_of_getElem? (i := 435) (by decide +kernel), List.mem_of_getElem? (i := 73) (by decide +kernel), ⟨by decide, by decide⟩, by decide +kernel⟩
set_option maxRecDepth 100000 in
theorem mv_hs_isFull : sm_MFV mi_hs_isFull := ⟨List.mem_of_getElem? (i := 434) (by decide +kernel), List.mem_of_getElem? (i := 15) (by decide +kernel)⟩
set_option maxRecDepth 100000 in
theorem ii_hs_isFull_0 : sm_D prog_3_method_4_code 0 1 1 (.aload_n 0) := ⟨by decide +kernel, rfl⟩
set_option maxRecDepth 100000 in
theorem ii_hs_isFull_1 : sm_D prog_3_method_4_code 1 3 4 (.getfield 41) := ⟨by decide +kernel, rfl⟩
set_option maxRecDepth 100000 in
theorem ii_hs_isFull_4 : sm_D prog_3_method_4_code 4 3 7 (.getfield 68) := ⟨by decide +kernel, rfl⟩
set_option maxRecDepth 100000 in
theorem ii_hs_isFull_7 : sm_D prog_3_method_4_code 7 2 9 (.bipush 40) := ⟨by decide +kernel, rfl⟩
set_option maxRecDepth 100000 in
theorem ii_hs_isFull_9 : sm_D prog_3_method_4_code 9 3 12 (.if_icmp .lt 7) := ⟨by decide +kernel, rfl⟩
set_option maxRecDepth 100000 in
theorem ii_hs_isFull_12 : sm_D prog_3_method_4_code 12 1 13 (.iconst 1) := ⟨by decide +kernel, rfl⟩
set_option maxRecDepth 100000 in
theorem ii_hs_isFull_13 : sm_D prog_3_method_4_code 13 3 16 (.goto 4) := ⟨by decide +kernel, rfl⟩
set_option maxRecDepth 100000 in
theorem ii_hs_isFull_16 : sm_D prog_3_method_4_code 16 1 17 (.iconst 0) := ⟨by decide +kernel, rfl⟩
set_option maxRecDepth 100000 in
theorem ii_hs_isFull_17 : sm_D prog_3_method_4_code 17 1 18 (.ireturn) := ⟨by decide +kernel, rfl⟩
noncomputable def ff_hs_isFull   (w : sm_Mem) : sm_R := (if (w.1 45 3) < (40 : Int32) then (some (.int (0 : Int32), w)) else (some (.int (1 : Int32), w)))
set_option maxHeartbeats 4000000 in
set_option maxRecDepth 100000 in
theorem ss_hs_isFull_0 {E : Nat × (Nat → Int32)}   (w : sm_Mem) : sm_Sim E (mi_hs_isFull) 0 [some (.ref 36)] [] w (ff_hs_isFull   w) := by
  unfold ff_hs_isFull
  refine sm_aload_n ii_hs_isFull_0 rfl ?_
  refine sm_getR 45 ii_hs_isFull_1 fl_hs_41 (k := 36) rfl ?_
  refine sm_getI ii_hs_isFull_4 fl_hs_68 (k := 45) rfl ?_
  refine sm_bipush (40 : Int32) ii_hs_isFull_7 (by decide) ?_
  refine sm_icmp_lt 16 ii_hs_isFull_9 (by decide) ?_ ?_
  · refine sm_iconst (0 : Int32) ii_hs_isFull_16 (by decide) ?_
    exact sm_zret1 ii_hs_isFull_17 rfl (by decide)
  · refine sm_iconst (1 : Int32) ii_hs_isFull_12 (by decide) ?_
    refine sm_goto 17 ii_hs_isFull_13 (by decide) ?_
    exact sm_zret1 ii_hs_isFull_17 rfl (by decide)
set_option maxHeartbeats 4000000 in
set_option maxRecDepth 100000 in
theorem mc_hs_isFull {E : Nat × (Nat → Int32)}  (w : sm_Mem) : sm_MC E mi_hs_isFull [.ref 36] w (ff_hs_isFull  w) := sm_MC_of E (by decide +kernel) rfl (Nat.le_of_ble_eq_true rfl) (ss_hs_isFull_0  w)
abbrev mi_de_add : sm_MI := (⟨"HerOrders$Deeds", "add", "(III)V"⟩, prog_2_method_3_code, 4, none, 2)
set_option maxRecDepth 100000 in
theorem mf_de_add : sm_MF mi_de_add 3 := ⟨List.mem_of_getElem? (i := 443) (by decide +kernel), List.mem_of_getElem? (i := 72) (by decide +kernel), ⟨by decide, by decide⟩, by decide +kernel⟩
set_option maxRecDepth 100000 in
theorem mv_de_add : sm_MFV mi_de_add := ⟨List.mem_of_getElem? (i := 442) (by decide +kernel), List.mem_of_getElem? (i := 17) (by decide +kernel)⟩
set_option maxRecDepth 100000 in
theorem ii_de_add_0 : sm_D prog_2_method_3_code 0 1 1 (.aload_n 0) := ⟨by decide +kernel, rfl⟩
set_option maxRecDepth 100000 in
theorem ii_de_add_1 : sm_D prog_2_method_3_code 1 3 4 (.getfield 21) := ⟨by decide +kernel, rfl⟩
set_option maxRecDepth 100000 in
theorem ii_de_add_4 : sm_D prog_2_method_3_code 4 2 6 (.bipush 40) := ⟨by decide +kernel, rfl⟩
set_option maxRecDepth 100000 in
theorem ii_de_add_6 : sm_D prog_2_method_3_code 6 3 9 (.invokestatic 25) := ⟨by decide +kernel, rfl⟩
set_option maxRecDepth 100000 in
theorem ii_de_add_9 : sm_D prog_2_method_3_code 9 3 12 (.ifCond .ne 4) := ⟨by decide +kernel, rfl⟩
set_option maxRecDepth 100000 in
theorem ii_de_add_12 : sm_D prog_2_method_3_code 12 1 13 (.return_) := ⟨by decide +kernel, rfl⟩
set_option maxRecDepth 100000 in
theorem ii_de_add_13 : sm_D prog_2_method_3_code 13 1 14 (.aload_n 0) := ⟨by decide +kernel, rfl⟩
set_option maxRecDepth 100000 in
theorem ii_de_add_14 : sm_D prog_2_method_3_code 14 3 17 (.getfield 9) := ⟨by decide +kernel, rfl⟩
set_option maxRecDepth 100000 in
theorem ii_de_add_17 : sm_D prog_2_method_3_code 17 1 18 (.aload_n 0) := ⟨by decide +kernel, rfl⟩
set_option maxRecDepth 100000 in
theorem ii_de_add_18 : sm_D prog_2_method_3_code 18 3 21 (.getfield 21) := ⟨by decide +kernel, rfl⟩
set_option maxRecDepth 100000 in
theorem ii_de_add_21 : sm_D prog_2_method_3_code 21 1 22 (.iload_n 1) := ⟨by decide +kernel, rfl⟩
set_option maxRecDepth 100000 in
theorem ii_de_add_22 : sm_D prog_2_method_3_code 22 1 23 (.iastore) := ⟨by decide +kernel, rfl⟩
set_option maxRecDepth 100000 in
theorem ii_de_add_23 : sm_D prog_2_method_3_code 23 1 24 (.aload_n 0) := ⟨by decide +kernel, rfl⟩
set_option maxRecDepth 100000 in
theorem ii_de_add_24 : sm_D prog_2_method_3_code 24 3 27 (.getfield 15) := ⟨by decide +kernel, rfl⟩
set_option maxRecDepth 100000 in
theorem ii_de_add_27 : sm_D prog_2_method_3_code 27 1 28 (.aload_n 0) := ⟨by decide +kernel, rfl⟩
set_option maxRecDepth 100000 in
theorem ii_de_add_28 : sm_D prog_2_method_3_code 28 3 31 (.getfield 21) := ⟨by decide +kernel, rfl⟩
set_option maxRecDepth 100000 in
theorem ii_de_add_31 : sm_D prog_2_method_3_code 31 1 32 (.iload_n 2) := ⟨by decide +kernel, rfl⟩
set_option maxRecDepth 100000 in
theorem ii_de_add_32 : sm_D prog_2_method_3_code 32 1 33 (.iastore) := ⟨by decide +kernel, rfl⟩
set_option maxRecDepth 100000 in
theorem ii_de_add_33 : sm_D prog_2_method_3_code 33 1 34 (.aload_n 0) := ⟨by decide +kernel, rfl⟩
set_option maxRecDepth 100000 in
theorem ii_de_add_34 : sm_D prog_2_method_3_code 34 3 37 (.getfield 18) := ⟨by decide +kernel, rfl⟩
set_option maxRecDepth 100000 in
theorem ii_de_add_37 : sm_D prog_2_method_3_code 37 1 38 (.aload_n 0) := ⟨by decide +kernel, rfl⟩
set_option maxRecDepth 100000 in
theorem ii_de_add_38 : sm_D prog_2_method_3_code 38 3 41 (.getfield 21) := ⟨by decide +kernel, rfl⟩
set_option maxRecDepth 100000 in
theorem ii_de_add_41 : sm_D prog_2_method_3_code 41 1 42 (.iload_n 3) := ⟨by decide +kernel, rfl⟩
set_option maxRecDepth 100000 in
theorem ii_de_add_42 : sm_D prog_2_method_3_code 42 1 43 (.iastore) := ⟨by decide +kernel, rfl⟩
set_option maxRecDepth 100000 in
theorem ii_de_add_43 : sm_D prog_2_method_3_code 43 1 44 (.aload_n 0) := ⟨by decide +kernel, rfl⟩
set_option maxRecDepth 100000 in
theorem ii_de_add_44 : sm_D prog_2_method_3_code 44 1 45 (.dup) := ⟨by decide +kernel, rfl⟩
set_option maxRecDepth 100000 in
theorem ii_de_add_45 : sm_D prog_2_method_3_code 45 3 48 (.getfield 21) := ⟨by decide +kernel, rfl⟩
set_option maxRecDepth 100000 in
theorem ii_de_add_48 : sm_D prog_2_method_3_code 48 1 49 (.iconst 1) := ⟨by decide +kernel, rfl⟩
set_option maxRecDepth 100000 in
theorem ii_de_add_49 : sm_D prog_2_method_3_code 49 1 50 (.iadd) := ⟨by decide +kernel, rfl⟩
set_option maxRecDepth 100000 in
theorem ii_de_add_50 : sm_D prog_2_method_3_code 50 3 53 (.putfield 21) := ⟨by decide +kernel, rfl⟩
set_option maxRecDepth 100000 in
theorem ii_de_add_53 : sm_D prog_2_method_3_code 53 1 54 (.return_) := ⟨by decide +kernel, rfl⟩
noncomputable def ff_de_add  (a0 : Nat) (a1 : Int32) (a2 : Int32) (a3 : Int32) (w : sm_Mem) : sm_R := (Option.bind (sm_gI w a0 0 3) fun x1 => (sm_cI (ff_ho_isWithin (x1) ((40 : Int32)) w) fun x2 w3 => (if x2 = (0 : Int32) then (some (.null, w3)) else (Option.bind (sm_fk a0 0 0 2) fun r4 => (Option.bind (sm_gI w3 a0 0 3) fun x5 => (Option.bind (sm_wrs w3 r4 x5 a1) fun w6 => (Option.bind (sm_fk a0 0 1 2) fun r7 => (Option.bind (sm_gI w6 a0 0 3) fun x8 => (Option.bind (sm_wrs w6 r7 x8 a2) fun w9 => (Option.bind (sm_fk a0 0 2 2) fun r10 => (Option.bind (sm_gI w9 a0 0 3) fun x11 => (Option.bind (sm_wrs w9 r10 x11 a3) fun w12 => (Option.bind (sm_gI w12 a0 0 3) fun x13 => (Option.bind (sm_pI w12 a0 0 3 (x13 + (1 : Int32))) fun w14 => (some (.null, w14))))))))))))))))
set_option maxHeartbeats 4000000 in
set_option maxRecDepth 100000 in
theorem ss_de_add_0 {E : Nat × (Nat → Int32)}  (a0 : Nat) (a1 : Int32) (a2 : Int32) (a3 : Int32) (w : sm_Mem) : sm_Sim E (mi_de_add) 0 [some (.ref a0), some (.int a1), some (.int a2), some (.int a3)] [] w (ff_de_add  a0 a1 a2 a3 w) := by
  unfold ff_de_add
  refine sm_aload_n ii_de_add_0 rfl ?_
  refine sm_getIs ii_de_add_1 fl_de_21 (fun x1 => ?_)
  refine sm_bipush (40 : Int32) ii_de_add_4 (by decide) ?_
  refine sm_csI [.int x1, .int (40 : Int32)] [] rfl ii_de_add_6 ml_de_25 (mf_ho_isWithin) (mv_ho_isWithin) (Nat.le_of_ble_eq_true rfl) rfl rfl rfl (mc_ho_isWithin (x1) ((40 : Int32)) w) (fun x2 w3 => ?_)
  refine sm_if_ne 13 ii_de_add_9 (by decide) ?_ ?_
  · exact sm_vret ii_de_add_12 rfl
  · refine sm_aload_n ii_de_add_13 rfl ?_
    refine sm_getRs ii_de_add_14 fl_de_9 (fun r4 => ?_)
    refine sm_aload_n ii_de_add_17 rfl ?_
    refine sm_getIs ii_de_add_18 fl_de_21 (fun x5 => ?_)
    refine sm_iload_n ii_de_add_21 rfl ?_
    refine sm_iasts ii_de_add_22 (fun w6 => ?_)
    refine sm_aload_n ii_de_add_23 rfl ?_
    refine sm_getRs ii_de_add_24 fl_de_15 (fun r7 => ?_)
    refine sm_aload_n ii_de_add_27 rfl ?_
    refine sm_getIs ii_de_add_28 fl_de_21 (fun x8 => ?_)
    refine sm_iload_n ii_de_add_31 rfl ?_
    refine sm_iasts ii_de_add_32 (fun w9 => ?_)
    refine sm_aload_n ii_de_add_33 rfl ?_
    refine sm_getRs ii_de_add_34 fl_de_18 (fun r10 => ?_)
    refine sm_aload_n ii_de_add_37 rfl ?_
    refine sm_getIs ii_de_add_38 fl_de_21 (fun x11 => ?_)
    refine sm_iload_n ii_de_add_41 rfl ?_
    refine sm_iasts ii_de_add_42 (fun w12 => ?_)
    refine sm_aload_n ii_de_add_43 rfl ?_
    refine sm_dupR ii_de_add_44 ?_
    refine sm_getIs ii_de_add_45 fl_de_21 (fun x13 => ?_)
    refine sm_iconst (1 : Int32) ii_de_add_48 (by decide) ?_
    refine sm_iadd ii_de_add_49 ?_
    refine sm_putIs ii_de_add_50 fp_de_21 (fun w14 => ?_)
    exact sm_vret ii_de_add_53 rfl
set_option maxHeartbeats 4000000 in
set_option maxRecDepth 100000 in
theorem mc_de_add {E : Nat × (Nat → Int32)} (a0 : Nat) (a1 : Int32) (a2 : Int32) (a3 : Int32) (w : sm_Mem) : sm_MC E mi_de_add [.ref a0, .int a1, .int a2, .int a3] w (ff_de_add a0 a1 a2 a3 w) := sm_MC_of E (by decide +kernel) rfl (Nat.le_of_ble_eq_true rfl) (ss_de_add_0 a0 a1 a2 a3 w)
abbrev mi_hs_enact : sm_MI := (⟨"HerOrders$House", "enact", "(III)V"⟩, prog_3_method_5_code, 4, none, 3)
set_option maxRecDepth 100000 in
theorem mf_hs_enact : sm_MF mi_hs_enact 3 := ⟨List.mem_of_getElem? (i := 439) (by decide +kernel), List.mem_of_getElem? (i := 73) (by decide +kernel), ⟨by decide, by decide⟩, by decide +kernel⟩
set_option maxRecDepth 100000 in
theorem mv_hs_enact : sm_MFV mi_hs_enact := ⟨List.mem_of_getElem? (i := 438) (by decide +kernel), List.mem_of_getElem? (i := 16) (by decide +kernel)⟩
set_option maxRecDepth 100000 in
theorem ii_hs_enact_0 : sm_D prog_3_method_5_code 0 1 1 (.aload_n 0) := ⟨by decide +kernel, rfl⟩
set_option maxRecDepth 100000 in
theorem ii_hs_enact_1 : sm_D prog_3_method_5_code 1 3 4 (.getfield 41) := ⟨by decide +kernel, rfl⟩
set_option maxRecDepth 100000 in
theorem ii_hs_enact_4 : sm_D prog_3_method_5_code 4 1 5 (.iload_n 1) := ⟨by decide +kernel, rfl⟩
set_option maxRecDepth 100000 in
theorem ii_hs_enact_5 : sm_D prog_3_method_5_code 5 1 6 (.iload_n 2) := ⟨by decide +kernel, rfl⟩
set_option maxRecDepth 100000 in
theorem ii_hs_enact_6 : sm_D prog_3_method_5_code 6 1 7 (.iload_n 3) := ⟨by decide +kernel, rfl⟩
set_option maxRecDepth 100000 in
theorem ii_hs_enact_7 : sm_D prog_3_method_5_code 7 3 10 (.invokevirtual 69) := ⟨by decide +kernel, rfl⟩
set_option maxRecDepth 100000 in
theorem ii_hs_enact_10 : sm_D prog_3_method_5_code 10 1 11 (.aload_n 0) := ⟨by decide +kernel, rfl⟩
set_option maxRecDepth 100000 in
theorem ii_hs_enact_11 : sm_D prog_3_method_5_code 11 1 12 (.iload_n 1) := ⟨by decide +kernel, rfl⟩
set_option maxRecDepth 100000 in
theorem ii_hs_enact_12 : sm_D prog_3_method_5_code 12 1 13 (.iload_n 2) := ⟨by decide +kernel, rfl⟩
set_option maxRecDepth 100000 in
theorem ii_hs_enact_13 : sm_D prog_3_method_5_code 13 1 14 (.iload_n 3) := ⟨by decide +kernel, rfl⟩
set_option maxRecDepth 100000 in
theorem ii_hs_enact_14 : sm_D prog_3_method_5_code 14 3 17 (.invokevirtual 73) := ⟨by decide +kernel, rfl⟩
set_option maxRecDepth 100000 in
theorem ii_hs_enact_17 : sm_D prog_3_method_5_code 17 1 18 (.return_) := ⟨by decide +kernel, rfl⟩
noncomputable def ff_hs_enact  (a1 : Int32) (a2 : Int32) (a3 : Int32) (w : sm_Mem) : sm_R := (sm_cV (ff_de_add (45) (a1) (a2) (a3) w) fun w2 => (sm_cV (ff_hs_perform (a1) (a2) (a3) w2) fun w4 => (some (.null, w4))))
set_option maxHeartbeats 4000000 in
set_option maxRecDepth 100000 in
theorem ss_hs_enact_0 {E : Nat × (Nat → Int32)}  (a1 : Int32) (a2 : Int32) (a3 : Int32) (w : sm_Mem) : sm_Sim E (mi_hs_enact) 0 [some (.ref 36), some (.int a1), some (.int a2), some (.int a3)] [] w (ff_hs_enact  a1 a2 a3 w) := by
  unfold ff_hs_enact
  refine sm_aload_n ii_hs_enact_0 rfl ?_
  refine sm_getR 45 ii_hs_enact_1 fl_hs_41 (k := 36) rfl ?_
  refine sm_iload_n ii_hs_enact_4 rfl ?_
  refine sm_iload_n ii_hs_enact_5 rfl ?_
  refine sm_iload_n ii_hs_enact_6 rfl ?_
  refine sm_cvV [.int a1, .int a2, .int a3] [] rfl ii_hs_enact_7 ml_hs_69 (mf_de_add) (mv_de_add) (Nat.le_of_ble_eq_true rfl) rfl 0 rfl rfl rfl rfl (mc_de_add (45) (a1) (a2) (a3) w) (fun w2 => ?_)
  refine sm_aload_n ii_hs_enact_10 rfl ?_
  refine sm_iload_n ii_hs_enact_11 rfl ?_
  refine sm_iload_n ii_hs_enact_12 rfl ?_
  refine sm_iload_n ii_hs_enact_13 rfl ?_
  refine sm_cvV [.int a1, .int a2, .int a3] [] rfl ii_hs_enact_14 ml_hs_73 (mf_hs_perform) (mv_hs_perform) (Nat.le_of_ble_eq_true rfl) rfl 1 rfl rfl rfl rfl (mc_hs_perform (a1) (a2) (a3) w2) (fun w4 => ?_)
  exact sm_vret ii_hs_enact_17 rfl
set_option maxHeartbeats 4000000 in
set_option maxRecDepth 100000 in
theorem mc_hs_enact {E : Nat × (Nat → Int32)} (a1 : Int32) (a2 : Int32) (a3 : Int32) (w : sm_Mem) : sm_MC E mi_hs_enact [.ref 36, .int a1, .int a2, .int a3] w (ff_hs_enact a1 a2 a3 w) := sm_MC_of E (by decide +kernel) rfl (Nat.le_of_ble_eq_true rfl) (ss_hs_enact_0 a1 a2 a3 w)
abbrev mi_ho_say : sm_MI := (⟨"HerOrders", "say", "(II)I"⟩, prog_1_method_14_code, 3, (some .int), 4)
set_option maxRecDepth 100000 in
theorem mf_ho_say : sm_MF mi_ho_say 2 := ⟨List.mem_of_getElem? (i := 408) (by decide +kernel), List.mem_of_getElem? (i := 69) (by decide +kernel), ⟨by decide, by decide⟩, by decide +kernel⟩
set_option maxRecDepth 100000 in
theorem mv_ho_say : sm_MFV mi_ho_say := ⟨List.mem_of_getElem? (i := 406) (by decide +kernel), List.mem_of_getElem? (i := 407) (by decide +kernel)⟩
set_option maxRecDepth 100000 in
theorem ii_ho_say_0 : sm_D prog_1_method_14_code 0 1 1 (.aload_n 0) := ⟨by decide +kernel, rfl⟩
set_option maxRecDepth 100000 in
theorem ii_ho_say_1 : sm_D prog_1_method_14_code 1 1 2 (.iload_n 1) := ⟨by decide +kernel, rfl⟩
set_option maxRecDepth 100000 in
theorem ii_ho_say_2 : sm_D prog_1_method_14_code 2 3 5 (.invokevirtual 118) := ⟨by decide +kernel, rfl⟩
set_option maxRecDepth 100000 in
theorem ii_ho_say_5 : sm_D prog_1_method_14_code 5 3 8 (.ifCond .eq 12) := ⟨by decide +kernel, rfl⟩
set_option maxRecDepth 100000 in
theorem ii_ho_say_8 : sm_D prog_1_method_14_code 8 1 9 (.iload_n 2) := ⟨by decide +kernel, rfl⟩
set_option maxRecDepth 100000 in
theorem ii_ho_say_9 : sm_D prog_1_method_14_code 9 2 11 (.bipush 6) := ⟨by decide +kernel, rfl⟩
set_option maxRecDepth 100000 in
theorem ii_ho_say_11 : sm_D prog_1_method_14_code 11 3 14 (.invokestatic 81) := ⟨by decide +kernel, rfl⟩
set_option maxRecDepth 100000 in
theorem ii_ho_say_14 : sm_D prog_1_method_14_code 14 3 17 (.ifCond .ne 5) := ⟨by decide +kernel, rfl⟩
set_option maxRecDepth 100000 in
theorem ii_ho_say_17 : sm_D prog_1_method_14_code 17 1 18 (.iconst (-1)) := ⟨by decide +kernel, rfl⟩
set_option maxRecDepth 100000 in
theorem ii_ho_say_18 : sm_D prog_1_method_14_code 18 1 19 (.ireturn) := ⟨by decide +kernel, rfl⟩
set_option maxRecDepth 100000 in
theorem ii_ho_say_19 : sm_D prog_1_method_14_code 19 1 20 (.aload_n 0) := ⟨by decide +kernel, rfl⟩
set_option maxRecDepth 100000 in
theorem ii_ho_say_20 : sm_D prog_1_method_14_code 20 3 23 (.getfield 31) := ⟨by decide +kernel, rfl⟩
set_option maxRecDepth 100000 in
theorem ii_ho_say_23 : sm_D prog_1_method_14_code 23 1 24 (.iload_n 1) := ⟨by decide +kernel, rfl⟩
set_option maxRecDepth 100000 in
theorem ii_ho_say_24 : sm_D prog_1_method_14_code 24 1 25 (.iload_n 2) := ⟨by decide +kernel, rfl⟩
set_option maxRecDepth 100000 in
theorem ii_ho_say_25 : sm_D prog_1_method_14_code 25 3 28 (.invokevirtual 152) := ⟨by decide +kernel, rfl⟩
set_option maxRecDepth 100000 in
theorem ii_ho_say_28 : sm_D prog_1_method_14_code 28 3 31 (.ifCond .ne 6) := ⟨by decide +kernel, rfl⟩
set_option maxRecDepth 100000 in
theorem ii_ho_say_31 : sm_D prog_1_method_14_code 31 2 33 (.bipush (-4)) := ⟨by decide +kernel, rfl⟩
set_option maxRecDepth 100000 in
theorem ii_ho_say_33 : sm_D prog_1_method_14_code 33 1 34 (.ireturn) := ⟨by decide +kernel, rfl⟩
set_option maxRecDepth 100000 in
theorem ii_ho_say_34 : sm_D prog_1_method_14_code 34 1 35 (.aload_n 0) := ⟨by decide +kernel, rfl⟩
set_option maxRecDepth 100000 in
theorem ii_ho_say_35 : sm_D prog_1_method_14_code 35 3 38 (.getfield 31) := ⟨by decide +kernel, rfl⟩
set_option maxRecDepth 100000 in
theorem ii_ho_say_38 : sm_D prog_1_method_14_code 38 3 41 (.invokevirtual 155) := ⟨by decide +kernel, rfl⟩
set_option maxRecDepth 100000 in
theorem ii_ho_say_41 : sm_D prog_1_method_14_code 41 3 44 (.ifCond .eq 6) := ⟨by decide +kernel, rfl⟩
set_option maxRecDepth 100000 in
theorem ii_ho_say_44 : sm_D prog_1_method_14_code 44 2 46 (.bipush (-2)) := ⟨by decide +kernel, rfl⟩
set_option maxRecDepth 100000 in
theorem ii_ho_say_46 : sm_D prog_1_method_14_code 46 1 47 (.ireturn) := ⟨by decide +kernel, rfl⟩
set_option maxRecDepth 100000 in
theorem ii_ho_say_47 : sm_D prog_1_method_14_code 47 1 48 (.aload_n 0) := ⟨by decide +kernel, rfl⟩
set_option maxRecDepth 100000 in
theorem ii_ho_say_48 : sm_D prog_1_method_14_code 48 3 51 (.getfield 31) := ⟨by decide +kernel, rfl⟩
set_option maxRecDepth 100000 in
theorem ii_ho_say_51 : sm_D prog_1_method_14_code 51 1 52 (.iconst 0) := ⟨by decide +kernel, rfl⟩
set_option maxRecDepth 100000 in
theorem ii_ho_say_52 : sm_D prog_1_method_14_code 52 1 53 (.iload_n 1) := ⟨by decide +kernel, rfl⟩
set_option maxRecDepth 100000 in
theorem ii_ho_say_53 : sm_D prog_1_method_14_code 53 1 54 (.iload_n 2) := ⟨by decide +kernel, rfl⟩
set_option maxRecDepth 100000 in
theorem ii_ho_say_54 : sm_D prog_1_method_14_code 54 3 57 (.invokevirtual 158) := ⟨by decide +kernel, rfl⟩
set_option maxRecDepth 100000 in
theorem ii_ho_say_57 : sm_D prog_1_method_14_code 57 1 58 (.aload_n 0) := ⟨by decide +kernel, rfl⟩
set_option maxRecDepth 100000 in
theorem ii_ho_say_58 : sm_D prog_1_method_14_code 58 3 61 (.getfield 31) := ⟨by decide +kernel, rfl⟩
set_option maxRecDepth 100000 in
theorem ii_ho_say_61 : sm_D prog_1_method_14_code 61 3 64 (.getfield 162) := ⟨by decide +kernel, rfl⟩
set_option maxRecDepth 100000 in
theorem ii_ho_say_64 : sm_D prog_1_method_14_code 64 1 65 (.ireturn) := ⟨by decide +kernel, rfl⟩
noncomputable def ff_ho_say  (a1 : Int32) (a2 : Int32) (w : sm_Mem) : sm_R := (sm_cI (ff_ho_isSpeaker (a1) w) fun x1 w2 => (if x1 = (0 : Int32) then (some (.int (-1 : Int32), w2)) else (sm_cI (ff_ho_isWithin (a2) ((6 : Int32)) w2) fun x3 w4 => (if x3 = (0 : Int32) then (some (.int (-1 : Int32), w4)) else (sm_cI (ff_hs_can (a1) (a2) w4) fun x5 w6 => (if x5 = (0 : Int32) then (some (.int (-4 : Int32), w6)) else (sm_cI (ff_hs_isFull  w6) fun x7 w8 => (if x7 = (0 : Int32) then (sm_cV (ff_hs_enact ((0 : Int32)) (a1) (a2) w8) fun w10 => (some (.int (w10.1 36 11), w10))) else (some (.int (-2 : Int32), w8))))))))))
set_option maxHeartbeats 4000000 in
set_option maxRecDepth 100000 in
theorem ss_ho_say_0 {E : Nat × (Nat → Int32)}  (a1 : Int32) (a2 : Int32) (w : sm_Mem) : sm_Sim E (mi_ho_say) 0 [some (.ref 0), some (.int a1), some (.int a2)] [] w (ff_ho_say  a1 a2 w) := by
  unfold ff_ho_say
  refine sm_aload_n ii_ho_say_0 rfl ?_
  refine sm_iload_n ii_ho_say_1 rfl ?_
  refine sm_cvI [.int a1] [] rfl ii_ho_say_2 ml_ho_118 (mf_ho_isSpeaker) (mv_ho_isSpeaker) (Nat.le_of_ble_eq_true rfl) rfl 6 rfl rfl rfl rfl (mc_ho_isSpeaker (a1) w) (fun x1 w2 => ?_)
  refine sm_if_eq 17 ii_ho_say_5 (by decide) ?_ ?_
  · refine sm_iconst (-1 : Int32) ii_ho_say_17 (by decide) ?_
    exact sm_iret ii_ho_say_18 rfl
  · refine sm_iload_n ii_ho_say_8 rfl ?_
    refine sm_bipush (6 : Int32) ii_ho_say_9 (by decide) ?_
    refine sm_csI [.int a2, .int (6 : Int32)] [] rfl ii_ho_say_11 ml_ho_81 (mf_ho_isWithin) (mv_ho_isWithin) (Nat.le_of_ble_eq_true rfl) rfl rfl rfl (mc_ho_isWithin (a2) ((6 : Int32)) w2) (fun x3 w4 => ?_)
    refine sm_if_ne 19 ii_ho_say_14 (by decide) ?_ ?_
    · refine sm_iconst (-1 : Int32) ii_ho_say_17 (by decide) ?_
      exact sm_iret ii_ho_say_18 rfl
    · refine sm_aload_n ii_ho_say_19 rfl ?_
      refine sm_getR 36 ii_ho_say_20 fl_ho_31 (k := 0) rfl ?_
      refine sm_iload_n ii_ho_say_23 rfl ?_
      refine sm_iload_n ii_ho_say_24 rfl ?_
      refine sm_cvI [.int a1, .int a2] [] rfl ii_ho_say_25 ml_ho_152 (mf_hs_can) (mv_hs_can) (Nat.le_of_ble_eq_true rfl) rfl 1 rfl rfl rfl rfl (mc_hs_can (a1) (a2) w4) (fun x5 w6 => ?_)
      refine sm_if_ne 34 ii_ho_say_28 (by decide) ?_ ?_
      · refine sm_bipush (-4 : Int32) ii_ho_say_31 (by decide) ?_
        exact sm_iret ii_ho_say_33 rfl
      · refine sm_aload_n ii_ho_say_34 rfl ?_
        refine sm_getR 36 ii_ho_say_35 fl_ho_31 (k := 0) rfl ?_
        refine sm_cvI [] [] rfl ii_ho_say_38 ml_ho_155 (mf_hs_isFull) (mv_hs_isFull) (Nat.le_of_ble_eq_true rfl) rfl 1 rfl rfl rfl rfl (mc_hs_isFull  w6) (fun x7 w8 => ?_)
        refine sm_if_eq 47 ii_ho_say_41 (by decide) ?_ ?_
        · refine sm_aload_n ii_ho_say_47 rfl ?_
          refine sm_getR 36 ii_ho_say_48 fl_ho_31 (k := 0) rfl ?_
          refine sm_iconst (0 : Int32) ii_ho_say_51 (by decide) ?_
          refine sm_iload_n ii_ho_say_52 rfl ?_
          refine sm_iload_n ii_ho_say_53 rfl ?_
          refine sm_cvV [.int (0 : Int32), .int a1, .int a2] [] rfl ii_ho_say_54 ml_ho_158 (mf_hs_enact) (mv_hs_enact) (Nat.le_of_ble_eq_true rfl) rfl 1 rfl rfl rfl rfl (mc_hs_enact ((0 : Int32)) (a1) (a2) w8) (fun w10 => ?_)
          refine sm_aload_n ii_ho_say_57 rfl ?_
          refine sm_getR 36 ii_ho_say_58 fl_ho_31 (k := 0) rfl ?_
          refine sm_getI ii_ho_say_61 fl_ho_162 (k := 36) rfl ?_
          exact sm_iret ii_ho_say_64 rfl
        · refine sm_bipush (-2 : Int32) ii_ho_say_44 (by decide) ?_
          exact sm_iret ii_ho_say_46 rfl
set_option maxHeartbeats 4000000 in
set_option maxRecDepth 100000 in
theorem mc_ho_say {E : Nat × (Nat → Int32)} (a1 : Int32) (a2 : Int32) (w : sm_Mem) : sm_MC E mi_ho_say [.ref 0, .int a1, .int a2] w (ff_ho_say a1 a2 w) := sm_MC_of E (by decide +kernel) rfl (Nat.le_of_ble_eq_true rfl) (ss_ho_say_0 a1 a2 w)
abbrev mi_la_hour : sm_MI := (⟨"HerOrdersLaw", "hour", "([I[I)I"⟩, method_14_code, 3, (some .int), 1)
set_option maxRecDepth 100000 in
theorem mf_la_hour : sm_MF mi_la_hour 2 := ⟨List.mem_of_getElem? (i := 855) (by decide +kernel), List.mem_of_getElem? (i := 68) (by decide +kernel), ⟨by decide, by decide⟩, by decide +kernel⟩
set_option maxRecDepth 100000 in
theorem mv_la_hour : sm_MFS mi_la_hour := List.mem_of_getElem? (i := 854) (by decide +kernel)
set_option maxRecDepth 100000 in
theorem ii_la_hour_0 : sm_D method_14_code 0 1 1 (.iconst 0) := ⟨by decide +kernel, rfl⟩
set_option maxRecDepth 100000 in
theorem ii_la_hour_1 : sm_D method_14_code 1 1 2 (.istore_n 2) := ⟨by decide +kernel, rfl⟩
set_option maxRecDepth 100000 in
theorem ii_la_hour_2 : sm_D method_14_code 2 1 3 (.iload_n 2) := ⟨by decide +kernel, rfl⟩
set_option maxRecDepth 100000 in
theorem ii_la_hour_3 : sm_D method_14_code 3 1 4 (.aload_n 0) := ⟨by decide +kernel, rfl⟩
set_option maxRecDepth 100000 in
theorem ii_la_hour_4 : sm_D method_14_code 4 1 5 (.iconst 0) := ⟨by decide +kernel, rfl⟩
set_option maxRecDepth 100000 in
theorem ii_la_hour_5 : sm_D method_14_code 5 1 6 (.iaload) := ⟨by decide +kernel, rfl⟩
set_option maxRecDepth 100000 in
theorem ii_la_hour_6 : sm_D method_14_code 6 3 9 (.if_icmp .ge 21) := ⟨by decide +kernel, rfl⟩
set_option maxRecDepth 100000 in
theorem ii_la_hour_9 : sm_D method_14_code 9 1 10 (.aload_n 1) := ⟨by decide +kernel, rfl⟩
set_option maxRecDepth 100000 in
theorem ii_la_hour_10 : sm_D method_14_code 10 2 12 (.bipush 25) := ⟨by decide +kernel, rfl⟩
set_option maxRecDepth 100000 in
theorem ii_la_hour_12 : sm_D method_14_code 12 1 13 (.iload_n 2) := ⟨by decide +kernel, rfl⟩
set_option maxRecDepth 100000 in
theorem ii_la_hour_13 : sm_D method_14_code 13 1 14 (.iadd) := ⟨by decide +kernel, rfl⟩
set_option maxRecDepth 100000 in
theorem ii_la_hour_14 : sm_D method_14_code 14 1 15 (.aload_n 0) := ⟨by decide +kernel, rfl⟩
set_option maxRecDepth 100000 in
theorem ii_la_hour_15 : sm_D method_14_code 15 2 17 (.bipush 13) := ⟨by decide +kernel, rfl⟩
set_option maxRecDepth 100000 in
theorem ii_la_hour_17 : sm_D method_14_code 17 1 18 (.iload_n 2) := ⟨by decide +kernel, rfl⟩
set_option maxRecDepth 100000 in
theorem ii_la_hour_18 : sm_D method_14_code 18 1 19 (.iadd) := ⟨by decide +kernel, rfl⟩
set_option maxRecDepth 100000 in
theorem ii_la_hour_19 : sm_D method_14_code 19 1 20 (.iaload) := ⟨by decide +kernel, rfl⟩
set_option maxRecDepth 100000 in
theorem ii_la_hour_20 : sm_D method_14_code 20 1 21 (.iastore) := ⟨by decide +kernel, rfl⟩
set_option maxRecDepth 100000 in
theorem ii_la_hour_21 : sm_D method_14_code 21 3 24 (.iinc 2 1) := ⟨by decide +kernel, rfl⟩
set_option maxRecDepth 100000 in
theorem ii_la_hour_24 : sm_D method_14_code 24 3 27 (.goto (-22)) := ⟨by decide +kernel, rfl⟩
set_option maxRecDepth 100000 in
theorem ii_la_hour_27 : sm_D method_14_code 27 1 28 (.aload_n 1) := ⟨by decide +kernel, rfl⟩
set_option maxRecDepth 100000 in
theorem ii_la_hour_28 : sm_D method_14_code 28 1 29 (.iconst 0) := ⟨by decide +kernel, rfl⟩
set_option maxRecDepth 100000 in
theorem ii_la_hour_29 : sm_D method_14_code 29 1 30 (.dup2) := ⟨by decide +kernel, rfl⟩
set_option maxRecDepth 100000 in
theorem ii_la_hour_30 : sm_D method_14_code 30 1 31 (.iaload) := ⟨by decide +kernel, rfl⟩
set_option maxRecDepth 100000 in
theorem ii_la_hour_31 : sm_D method_14_code 31 1 32 (.iconst 1) := ⟨by decide +kernel, rfl⟩
set_option maxRecDepth 100000 in
theorem ii_la_hour_32 : sm_D method_14_code 32 1 33 (.iadd) := ⟨by decide +kernel, rfl⟩
set_option maxRecDepth 100000 in
theorem ii_la_hour_33 : sm_D method_14_code 33 1 34 (.iastore) := ⟨by decide +kernel, rfl⟩
set_option maxRecDepth 100000 in
theorem ii_la_hour_34 : sm_D method_14_code 34 1 35 (.aload_n 1) := ⟨by decide +kernel, rfl⟩
set_option maxRecDepth 100000 in
theorem ii_la_hour_35 : sm_D method_14_code 35 1 36 (.iconst 0) := ⟨by decide +kernel, rfl⟩
set_option maxRecDepth 100000 in
theorem ii_la_hour_36 : sm_D method_14_code 36 1 37 (.iaload) := ⟨by decide +kernel, rfl⟩
set_option maxRecDepth 100000 in
theorem ii_la_hour_37 : sm_D method_14_code 37 1 38 (.ireturn) := ⟨by decide +kernel, rfl⟩
noncomputable def ff_la_hour_2_b  (self2 : Int32 → sm_Mem → sm_R) (a2 : Int32) (w : sm_Mem) : sm_R := (Option.bind (sm_rd w 62 19 (0 : Int32)) fun x1 => (if x1 ≤ a2 then (Option.bind (sm_rd w 63 31 (0 : Int32)) fun x2 => (Option.bind (sm_wr w 63 31 (0 : Int32) (x2 + (1 : Int32))) fun w3 => (Option.bind (sm_rd w3 63 31 (0 : Int32)) fun x4 => (some (.int x4, w3))))) else (Option.bind (sm_rd w 62 19 ((13 : Int32) + a2)) fun x5 => (Option.bind (sm_wr w 63 31 ((25 : Int32) + a2) x5) fun w6 => self2 ((a2 + (1 : Int32))) w6))))
noncomputable def ff_la_hour_2_f  : Nat → Int32 → sm_Mem → sm_R
  | 0, _, _ => none
  | n + 1, a2, w => ff_la_hour_2_b  (ff_la_hour_2_f  n) a2 w
noncomputable def ff_la_hour_2  (a2 : Int32) (w : sm_Mem) : sm_R := ff_la_hour_2_f  sm_N a2 w
set_option maxHeartbeats 4000000 in
set_option maxRecDepth 100000 in
theorem ss_la_hour_2_b {E : Nat × (Nat → Int32)}  (self2 : Int32 → sm_Mem → sm_R) (hself2 : ∀ (a2 : Int32) (w : sm_Mem), sm_Sim E (mi_la_hour) 2 [some (.ref 62), some (.ref 63), some (.int a2)] [] w (self2 a2 w)) (a2 : Int32) (w : sm_Mem) : sm_Sim E (mi_la_hour) 2 [some (.ref 62), some (.ref 63), some (.int a2)] [] w (ff_la_hour_2_b  self2 a2 w) := by
  unfold ff_la_hour_2_b
  refine sm_iload_n ii_la_hour_2 rfl ?_
  refine sm_aload_n ii_la_hour_3 rfl ?_
  refine sm_iconst (0 : Int32) ii_la_hour_4 (by decide) ?_
  refine sm_iald ii_la_hour_5 (k := 62) rfl (fun x1 => ?_)
  refine sm_icmp_ge 27 ii_la_hour_6 (by decide) ?_ ?_
  · refine sm_aload_n ii_la_hour_27 rfl ?_
    refine sm_iconst (0 : Int32) ii_la_hour_28 (by decide) ?_
    refine sm_dup2 ii_la_hour_29 ?_
    refine sm_iald ii_la_hour_30 (k := 63) rfl (fun x2 => ?_)
    refine sm_iconst (1 : Int32) ii_la_hour_31 (by decide) ?_
    refine sm_iadd ii_la_hour_32 ?_
    refine sm_iast ii_la_hour_33 (k := 63) rfl (fun w3 => ?_)
    refine sm_aload_n ii_la_hour_34 rfl ?_
    refine sm_iconst (0 : Int32) ii_la_hour_35 (by decide) ?_
    refine sm_iald ii_la_hour_36 (k := 63) rfl (fun x4 => ?_)
    exact sm_iret ii_la_hour_37 rfl
  · refine sm_aload_n ii_la_hour_9 rfl ?_
    refine sm_bipush (25 : Int32) ii_la_hour_10 (by decide) ?_
    refine sm_iload_n ii_la_hour_12 rfl ?_
    refine sm_iadd ii_la_hour_13 ?_
    refine sm_aload_n ii_la_hour_14 rfl ?_
    refine sm_bipush (13 : Int32) ii_la_hour_15 (by decide) ?_
    refine sm_iload_n ii_la_hour_17 rfl ?_
    refine sm_iadd ii_la_hour_18 ?_
    refine sm_iald ii_la_hour_19 (k := 62) rfl (fun x5 => ?_)
    refine sm_iast ii_la_hour_20 (k := 63) rfl (fun w6 => ?_)
    refine sm_iinc (a2 + (1 : Int32)) [some (.ref 62), some (.ref 63), some (.int (a2 + (1 : Int32)))] ii_la_hour_21 rfl rfl rfl rfl ?_
    refine sm_goto 2 ii_la_hour_24 (by decide) ?_
    exact hself2 ((a2 + (1 : Int32))) w6
set_option maxHeartbeats 4000000 in
set_option maxRecDepth 100000 in
theorem ss_la_hour_2_f {E : Nat × (Nat → Int32)}  : ∀ (n : Nat) (a2 : Int32) (w : sm_Mem), sm_Sim E (mi_la_hour) 2 [some (.ref 62), some (.ref 63), some (.int a2)] [] w (ff_la_hour_2_f  n a2 w)
  | 0, _, _ => fun _ _ h => by cases h
  | n + 1, a2, w => ss_la_hour_2_b  _ (ss_la_hour_2_f  n) a2 w
set_option maxHeartbeats 4000000 in
set_option maxRecDepth 100000 in
theorem ss_la_hour_2 {E : Nat × (Nat → Int32)}  (a2 : Int32) (w : sm_Mem) : sm_Sim E (mi_la_hour) 2 [some (.ref 62), some (.ref 63), some (.int a2)] [] w (ff_la_hour_2  a2 w) := ss_la_hour_2_f  sm_N a2 w
noncomputable def ff_la_hour   (w : sm_Mem) : sm_R := ff_la_hour_2 ((0 : Int32)) w
set_option maxHeartbeats 4000000 in
set_option maxRecDepth 100000 in
theorem ss_la_hour_0 {E : Nat × (Nat → Int32)}   (w : sm_Mem) : sm_Sim E (mi_la_hour) 0 [some (.ref 62), some (.ref 63), none] [] w (ff_la_hour   w) := by
  unfold ff_la_hour
  refine sm_iconst (0 : Int32) ii_la_hour_0 (by decide) ?_
  refine sm_istore_n [some (.ref 62), some (.ref 63), some (.int (0 : Int32))] ii_la_hour_1 rfl rfl ?_
  exact ss_la_hour_2 ((0 : Int32)) w
set_option maxHeartbeats 4000000 in
set_option maxRecDepth 100000 in
theorem mc_la_hour {E : Nat × (Nat → Int32)}  (w : sm_Mem) : sm_MC E mi_la_hour [.ref 62, .ref 63] w (ff_la_hour  w) := sm_MC_of E (by decide +kernel) rfl (Nat.le_of_ble_eq_true rfl) (ss_la_hour_0  w)
abbrev mi_ho_hour : sm_MI := (⟨"HerOrders", "hour", "()I"⟩, prog_1_method_16_code, 1, (some .int), 4)
set_option maxRecDepth 100000 in
theorem mf_ho_hour : sm_MF mi_ho_hour 0 := ⟨List.mem_of_getElem? (i := 452) (by decide +kernel), List.mem_of_getElem? (i := 69) (by decide +kernel), ⟨by decide, by decide⟩, by decide +kernel⟩
set_option maxRecDepth 100000 in
theorem mv_ho_hour : sm_MFV mi_ho_hour := ⟨List.mem_of_getElem? (i := 450) (by decide +kernel), List.mem_of_getElem? (i := 451) (by decide +kernel)⟩
set_option maxRecDepth 100000 in
theorem ii_ho_hour_0 : sm_D prog_1_method_16_code 0 1 1 (.aload_n 0) := ⟨by decide +kernel, rfl⟩
set_option maxRecDepth 100000 in
theorem ii_ho_hour_1 : sm_D prog_1_method_16_code 1 3 4 (.getfield 31) := ⟨by decide +kernel, rfl⟩
set_option maxRecDepth 100000 in
theorem ii_ho_hour_4 : sm_D prog_1_method_16_code 4 3 7 (.getfield 115) := ⟨by decide +kernel, rfl⟩
set_option maxRecDepth 100000 in
theorem ii_ho_hour_7 : sm_D prog_1_method_16_code 7 3 10 (.ifCond .ne 6) := ⟨by decide +kernel, rfl⟩
set_option maxRecDepth 100000 in
theorem ii_ho_hour_10 : sm_D prog_1_method_16_code 10 2 12 (.bipush (-4)) := ⟨by decide +kernel, rfl⟩
set_option maxRecDepth 100000 in
theorem ii_ho_hour_12 : sm_D prog_1_method_16_code 12 1 13 (.ireturn) := ⟨by decide +kernel, rfl⟩
set_option maxRecDepth 100000 in
theorem ii_ho_hour_13 : sm_D prog_1_method_16_code 13 1 14 (.aload_n 0) := ⟨by decide +kernel, rfl⟩
set_option maxRecDepth 100000 in
theorem ii_ho_hour_14 : sm_D prog_1_method_16_code 14 3 17 (.getfield 31) := ⟨by decide +kernel, rfl⟩
set_option maxRecDepth 100000 in
theorem ii_ho_hour_17 : sm_D prog_1_method_16_code 17 3 20 (.invokevirtual 155) := ⟨by decide +kernel, rfl⟩
set_option maxRecDepth 100000 in
theorem ii_ho_hour_20 : sm_D prog_1_method_16_code 20 3 23 (.ifCond .eq 6) := ⟨by decide +kernel, rfl⟩
set_option maxRecDepth 100000 in
theorem ii_ho_hour_23 : sm_D prog_1_method_16_code 23 2 25 (.bipush (-2)) := ⟨by decide +kernel, rfl⟩
set_option maxRecDepth 100000 in
theorem ii_ho_hour_25 : sm_D prog_1_method_16_code 25 1 26 (.ireturn) := ⟨by decide +kernel, rfl⟩
set_option maxRecDepth 100000 in
theorem ii_ho_hour_26 : sm_D prog_1_method_16_code 26 1 27 (.aload_n 0) := ⟨by decide +kernel, rfl⟩
set_option maxRecDepth 100000 in
theorem ii_ho_hour_27 : sm_D prog_1_method_16_code 27 3 30 (.getfield 31) := ⟨by decide +kernel, rfl⟩
set_option maxRecDepth 100000 in
theorem ii_ho_hour_30 : sm_D prog_1_method_16_code 30 1 31 (.iconst 2) := ⟨by decide +kernel, rfl⟩
set_option maxRecDepth 100000 in
theorem ii_ho_hour_31 : sm_D prog_1_method_16_code 31 1 32 (.iconst 0) := ⟨by decide +kernel, rfl⟩
set_option maxRecDepth 100000 in
theorem ii_ho_hour_32 : sm_D prog_1_method_16_code 32 1 33 (.iconst 0) := ⟨by decide +kernel, rfl⟩
set_option maxRecDepth 100000 in
theorem ii_ho_hour_33 : sm_D prog_1_method_16_code 33 3 36 (.invokevirtual 158) := ⟨by decide +kernel, rfl⟩
set_option maxRecDepth 100000 in
theorem ii_ho_hour_36 : sm_D prog_1_method_16_code 36 1 37 (.aload_n 0) := ⟨by decide +kernel, rfl⟩
set_option maxRecDepth 100000 in
theorem ii_ho_hour_37 : sm_D prog_1_method_16_code 37 3 40 (.getfield 31) := ⟨by decide +kernel, rfl⟩
set_option maxRecDepth 100000 in
theorem ii_ho_hour_40 : sm_D prog_1_method_16_code 40 3 43 (.getfield 135) := ⟨by decide +kernel, rfl⟩
set_option maxRecDepth 100000 in
theorem ii_ho_hour_43 : sm_D prog_1_method_16_code 43 1 44 (.ireturn) := ⟨by decide +kernel, rfl⟩
noncomputable def ff_ho_hour   (w : sm_Mem) : sm_R := (if (w.1 36 0) = (0 : Int32) then (some (.int (-4 : Int32), w)) else (sm_cI (ff_hs_isFull  w) fun x1 w2 => (if x1 = (0 : Int32) then (sm_cV (ff_hs_enact ((2 : Int32)) ((0 : Int32)) ((0 : Int32)) w2) fun w4 => (some (.int (w4.1 36 7), w4))) else (some (.int (-2 : Int32), w2)))))
set_option maxHeartbeats 4000000 in
set_option maxRecDepth 100000 in
theorem ss_ho_hour_0 {E : Nat × (Nat → Int32)}   (w : sm_Mem) : sm_Sim E (mi_ho_hour) 0 [some (.ref 0)] [] w (ff_ho_hour   w) := by
  unfold ff_ho_hour
  refine sm_aload_n ii_ho_hour_0 rfl ?_
  refine sm_getR 36 ii_ho_hour_1 fl_ho_31 (k := 0) rfl ?_
  refine sm_getI ii_ho_hour_4 fl_ho_115 (k := 36) rfl ?_
  refine sm_if_ne 13 ii_ho_hour_7 (by decide) ?_ ?_
  · refine sm_bipush (-4 : Int32) ii_ho_hour_10 (by decide) ?_
    exact sm_iret ii_ho_hour_12 rfl
  · refine sm_aload_n ii_ho_hour_13 rfl ?_
    refine sm_getR 36 ii_ho_hour_14 fl_ho_31 (k := 0) rfl ?_
    refine sm_cvI [] [] rfl ii_ho_hour_17 ml_ho_155 (mf_hs_isFull) (mv_hs_isFull) (Nat.le_of_ble_eq_true rfl) rfl 1 rfl rfl rfl rfl (mc_hs_isFull  w) (fun x1 w2 => ?_)
    refine sm_if_eq 26 ii_ho_hour_20 (by decide) ?_ ?_
    · refine sm_aload_n ii_ho_hour_26 rfl ?_
      refine sm_getR 36 ii_ho_hour_27 fl_ho_31 (k := 0) rfl ?_
      refine sm_iconst (2 : Int32) ii_ho_hour_30 (by decide) ?_
      refine sm_iconst (0 : Int32) ii_ho_hour_31 (by decide) ?_
      refine sm_iconst (0 : Int32) ii_ho_hour_32 (by decide) ?_
      refine sm_cvV [.int (2 : Int32), .int (0 : Int32), .int (0 : Int32)] [] rfl ii_ho_hour_33 ml_ho_158 (mf_hs_enact) (mv_hs_enact) (Nat.le_of_ble_eq_true rfl) rfl 1 rfl rfl rfl rfl (mc_hs_enact ((2 : Int32)) ((0 : Int32)) ((0 : Int32)) w2) (fun w4 => ?_)
      refine sm_aload_n ii_ho_hour_36 rfl ?_
      refine sm_getR 36 ii_ho_hour_37 fl_ho_31 (k := 0) rfl ?_
      refine sm_getI ii_ho_hour_40 fl_ho_135 (k := 36) rfl ?_
      exact sm_iret ii_ho_hour_43 rfl
    · refine sm_bipush (-2 : Int32) ii_ho_hour_23 (by decide) ?_
      exact sm_iret ii_ho_hour_25 rfl
set_option maxHeartbeats 4000000 in
set_option maxRecDepth 100000 in
theorem mc_ho_hour {E : Nat × (Nat → Int32)}  (w : sm_Mem) : sm_MC E mi_ho_hour [.ref 0] w (ff_ho_hour  w) := sm_MC_of E (by decide +kernel) rfl (Nat.le_of_ble_eq_true rfl) (ss_ho_hour_0  w)
abbrev mi_la_end : sm_MI := (⟨"HerOrdersLaw", "end", "([I)I"⟩, method_13_code, 2, (some .int), 1)
set_option maxRecDepth 100000 in
theorem mf_la_end : sm_MF mi_la_end 1 := ⟨List.mem_of_getElem? (i := 858) (by decide +kernel), List.mem_of_getElem? (i := 68) (by decide +kernel), ⟨by decide, by decide⟩, by decide +kernel⟩
set_option maxRecDepth 100000 in
theorem mv_la_end : sm_MFS mi_la_end := List.mem_of_getElem? (i := 857) (by decide +kernel)
set_option maxRecDepth 100000 in
theorem ii_la_end_0 : sm_D method_13_code 0 1 1 (.aload_n 0) := ⟨by decide +kernel, rfl⟩
set_option maxRecDepth 100000 in
theorem ii_la_end_1 : sm_D method_13_code 1 1 2 (.iconst 1) := ⟨by decide +kernel, rfl⟩
set_option maxRecDepth 100000 in
theorem ii_la_end_2 : sm_D method_13_code 2 1 3 (.iaload) := ⟨by decide +kernel, rfl⟩
set_option maxRecDepth 100000 in
theorem ii_la_end_3 : sm_D method_13_code 3 1 4 (.istore_n 1) := ⟨by decide +kernel, rfl⟩
set_option maxRecDepth 100000 in
theorem ii_la_end_4 : sm_D method_13_code 4 1 5 (.aload_n 0) := ⟨by decide +kernel, rfl⟩
set_option maxRecDepth 100000 in
theorem ii_la_end_5 : sm_D method_13_code 5 1 6 (.iconst 1) := ⟨by decide +kernel, rfl⟩
set_option maxRecDepth 100000 in
theorem ii_la_end_6 : sm_D method_13_code 6 1 7 (.iconst 0) := ⟨by decide +kernel, rfl⟩
set_option maxRecDepth 100000 in
theorem ii_la_end_7 : sm_D method_13_code 7 1 8 (.iastore) := ⟨by decide +kernel, rfl⟩
set_option maxRecDepth 100000 in
theorem ii_la_end_8 : sm_D method_13_code 8 1 9 (.aload_n 0) := ⟨by decide +kernel, rfl⟩
set_option maxRecDepth 100000 in
theorem ii_la_end_9 : sm_D method_13_code 9 1 10 (.iconst 2) := ⟨by decide +kernel, rfl⟩
set_option maxRecDepth 100000 in
theorem ii_la_end_10 : sm_D method_13_code 10 1 11 (.dup2) := ⟨by decide +kernel, rfl⟩
set_option maxRecDepth 100000 in
theorem ii_la_end_11 : sm_D method_13_code 11 1 12 (.iaload) := ⟨by decide +kernel, rfl⟩
set_option maxRecDepth 100000 in
theorem ii_la_end_12 : sm_D method_13_code 12 1 13 (.iconst 1) := ⟨by decide +kernel, rfl⟩
set_option maxRecDepth 100000 in
theorem ii_la_end_13 : sm_D method_13_code 13 1 14 (.iadd) := ⟨by decide +kernel, rfl⟩
set_option maxRecDepth 100000 in
theorem ii_la_end_14 : sm_D method_13_code 14 1 15 (.iastore) := ⟨by decide +kernel, rfl⟩
set_option maxRecDepth 100000 in
theorem ii_la_end_15 : sm_D method_13_code 15 1 16 (.iload_n 1) := ⟨by decide +kernel, rfl⟩
set_option maxRecDepth 100000 in
theorem ii_la_end_16 : sm_D method_13_code 16 1 17 (.ireturn) := ⟨by decide +kernel, rfl⟩
noncomputable def ff_la_end   (w : sm_Mem) : sm_R := (Option.bind (sm_rd w 63 31 (1 : Int32)) fun x1 => (Option.bind (sm_wr w 63 31 (1 : Int32) (0 : Int32)) fun w2 => (Option.bind (sm_rd w2 63 31 (2 : Int32)) fun x3 => (Option.bind (sm_wr w2 63 31 (2 : Int32) (x3 + (1 : Int32))) fun w4 => (some (.int x1, w4))))))
set_option maxHeartbeats 4000000 in
set_option maxRecDepth 100000 in
theorem ss_la_end_0 {E : Nat × (Nat → Int32)}   (w : sm_Mem) : sm_Sim E (mi_la_end) 0 [some (.ref 63), none] [] w (ff_la_end   w) := by
  unfold ff_la_end
  refine sm_aload_n ii_la_end_0 rfl ?_
  refine sm_iconst (1 : Int32) ii_la_end_1 (by decide) ?_
  refine sm_iald ii_la_end_2 (k := 63) rfl (fun x1 => ?_)
  refine sm_istore_n [some (.ref 63), some (.int x1)] ii_la_end_3 rfl rfl ?_
  refine sm_aload_n ii_la_end_4 rfl ?_
  refine sm_iconst (1 : Int32) ii_la_end_5 (by decide) ?_
  refine sm_iconst (0 : Int32) ii_la_end_6 (by decide) ?_
  refine sm_iast ii_la_end_7 (k := 63) rfl (fun w2 => ?_)
  refine sm_aload_n ii_la_end_8 rfl ?_
  refine sm_iconst (2 : Int32) ii_la_end_9 (by decide) ?_
  refine sm_dup2 ii_la_end_10 ?_
  refine sm_iald ii_la_end_11 (k := 63) rfl (fun x3 => ?_)
  refine sm_iconst (1 : Int32) ii_la_end_12 (by decide) ?_
  refine sm_iadd ii_la_end_13 ?_
  refine sm_iast ii_la_end_14 (k := 63) rfl (fun w4 => ?_)
  refine sm_iload_n ii_la_end_15 rfl ?_
  exact sm_iret ii_la_end_16 rfl
set_option maxHeartbeats 4000000 in
set_option maxRecDepth 100000 in
theorem mc_la_end {E : Nat × (Nat → Int32)}  (w : sm_Mem) : sm_MC E mi_la_end [.ref 63] w (ff_la_end  w) := sm_MC_of E (by decide +kernel) rfl (Nat.le_of_ble_eq_true rfl) (ss_la_end_0  w)
abbrev mi_ho_end : sm_MI := (⟨"HerOrders", "end", "()I"⟩, prog_1_method_15_code, 2, (some .int), 4)
set_option maxRecDepth 100000 in
theorem mf_ho_end : sm_MF mi_ho_end 0 := ⟨List.mem_of_getElem? (i := 448) (by decide +kernel), List.mem_of_getElem? (i := 69) (by decide +kernel), ⟨by decide, by decide⟩, by decide +kernel⟩
set_option maxRecDepth 100000 in
theorem mv_ho_end : sm_MFV mi_ho_end := ⟨List.mem_of_getElem? (i := 446) (by decide +kernel), List.mem_of_getElem? (i := 447) (by decide +kernel)⟩
set_option maxRecDepth 100000 in
theorem ii_ho_end_0 : sm_D prog_1_method_15_code 0 1 1 (.aload_n 0) := ⟨by decide +kernel, rfl⟩
set_option maxRecDepth 100000 in
theorem ii_ho_end_1 : sm_D prog_1_method_15_code 1 3 4 (.getfield 31) := ⟨by decide +kernel, rfl⟩
set_option maxRecDepth 100000 in
theorem ii_ho_end_4 : sm_D prog_1_method_15_code 4 3 7 (.getfield 162) := ⟨by decide +kernel, rfl⟩
set_option maxRecDepth 100000 in
theorem ii_ho_end_7 : sm_D prog_1_method_15_code 7 3 10 (.ifCond .ne 6) := ⟨by decide +kernel, rfl⟩
set_option maxRecDepth 100000 in
theorem ii_ho_end_10 : sm_D prog_1_method_15_code 10 2 12 (.bipush (-4)) := ⟨by decide +kernel, rfl⟩
set_option maxRecDepth 100000 in
theorem ii_ho_end_12 : sm_D prog_1_method_15_code 12 1 13 (.ireturn) := ⟨by decide +kernel, rfl⟩
set_option maxRecDepth 100000 in
theorem ii_ho_end_13 : sm_D prog_1_method_15_code 13 1 14 (.aload_n 0) := ⟨by decide +kernel, rfl⟩
set_option maxRecDepth 100000 in
theorem ii_ho_end_14 : sm_D prog_1_method_15_code 14 3 17 (.getfield 31) := ⟨by decide +kernel, rfl⟩
set_option maxRecDepth 100000 in
theorem ii_ho_end_17 : sm_D prog_1_method_15_code 17 3 20 (.invokevirtual 155) := ⟨by decide +kernel, rfl⟩
set_option maxRecDepth 100000 in
theorem ii_ho_end_20 : sm_D prog_1_method_15_code 20 3 23 (.ifCond .eq 6) := ⟨by decide +kernel, rfl⟩
set_option maxRecDepth 100000 in
theorem ii_ho_end_23 : sm_D prog_1_method_15_code 23 2 25 (.bipush (-2)) := ⟨by decide +kernel, rfl⟩
set_option maxRecDepth 100000 in
theorem ii_ho_end_25 : sm_D prog_1_method_15_code 25 1 26 (.ireturn) := ⟨by decide +kernel, rfl⟩
set_option maxRecDepth 100000 in
theorem ii_ho_end_26 : sm_D prog_1_method_15_code 26 1 27 (.aload_n 0) := ⟨by decide +kernel, rfl⟩
set_option maxRecDepth 100000 in
theorem ii_ho_end_27 : sm_D prog_1_method_15_code 27 3 30 (.getfield 31) := ⟨by decide +kernel, rfl⟩
set_option maxRecDepth 100000 in
theorem ii_ho_end_30 : sm_D prog_1_method_15_code 30 3 33 (.getfield 162) := ⟨by decide +kernel, rfl⟩
set_option maxRecDepth 100000 in
theorem ii_ho_end_33 : sm_D prog_1_method_15_code 33 1 34 (.istore_n 1) := ⟨by decide +kernel, rfl⟩
set_option maxRecDepth 100000 in
theorem ii_ho_end_34 : sm_D prog_1_method_15_code 34 1 35 (.aload_n 0) := ⟨by decide +kernel, rfl⟩
set_option maxRecDepth 100000 in
theorem ii_ho_end_35 : sm_D prog_1_method_15_code 35 3 38 (.getfield 31) := ⟨by decide +kernel, rfl⟩
set_option maxRecDepth 100000 in
theorem ii_ho_end_38 : sm_D prog_1_method_15_code 38 1 39 (.iconst 1) := ⟨by decide +kernel, rfl⟩
set_option maxRecDepth 100000 in
theorem ii_ho_end_39 : sm_D prog_1_method_15_code 39 1 40 (.iconst 0) := ⟨by decide +kernel, rfl⟩
set_option maxRecDepth 100000 in
theorem ii_ho_end_40 : sm_D prog_1_method_15_code 40 1 41 (.iconst 0) := ⟨by decide +kernel, rfl⟩
set_option maxRecDepth 100000 in
theorem ii_ho_end_41 : sm_D prog_1_method_15_code 41 3 44 (.invokevirtual 158) := ⟨by decide +kernel, rfl⟩
set_option maxRecDepth 100000 in
theorem ii_ho_end_44 : sm_D prog_1_method_15_code 44 1 45 (.iload_n 1) := ⟨by decide +kernel, rfl⟩
set_option maxRecDepth 100000 in
theorem ii_ho_end_45 : sm_D prog_1_method_15_code 45 1 46 (.ireturn) := ⟨by decide +kernel, rfl⟩
noncomputable def ff_ho_end   (w : sm_Mem) : sm_R := (if (w.1 36 11) = (0 : Int32) then (some (.int (-4 : Int32), w)) else (sm_cI (ff_hs_isFull  w) fun x1 w2 => (if x1 = (0 : Int32) then (sm_cV (ff_hs_enact ((1 : Int32)) ((0 : Int32)) ((0 : Int32)) w2) fun w4 => (some (.int (w2.1 36 11), w4))) else (some (.int (-2 : Int32), w2)))))
set_option maxHeartbeats 4000000 in
set_option maxRecDepth 100000 in
theorem ss_ho_end_0 {E : Nat × (Nat → Int32)}   (w : sm_Mem) : sm_Sim E (mi_ho_end) 0 [some (.ref 0), none] [] w (ff_ho_end   w) := by
  unfold ff_ho_end
  refine sm_aload_n ii_ho_end_0 rfl ?_
  refine sm_getR 36 ii_ho_end_1 fl_ho_31 (k := 0) rfl ?_
  refine sm_getI ii_ho_end_4 fl_ho_162 (k := 36) rfl ?_
  refine sm_if_ne 13 ii_ho_end_7 (by decide) ?_ ?_
  · refine sm_bipush (-4 : Int32) ii_ho_end_10 (by decide) ?_
    exact sm_iret ii_ho_end_12 rfl
  · refine sm_aload_n ii_ho_end_13 rfl ?_
    refine sm_getR 36 ii_ho_end_14 fl_ho_31 (k := 0) rfl ?_
    refine sm_cvI [] [] rfl ii_ho_end_17 ml_ho_155 (mf_hs_isFull) (mv_hs_isFull) (Nat.le_of_ble_eq_true rfl) rfl 1 rfl rfl rfl rfl (mc_hs_isFull  w) (fun x1 w2 => ?_)
    refine sm_if_eq 26 ii_ho_end_20 (by decide) ?_ ?_
    · refine sm_aload_n ii_ho_end_26 rfl ?_
      refine sm_getR 36 ii_ho_end_27 fl_ho_31 (k := 0) rfl ?_
      refine sm_getI ii_ho_end_30 fl_ho_162 (k := 36) rfl ?_
      refine sm_istore_n [some (.ref 0), some (.int (w2.1 36 11))] ii_ho_end_33 rfl rfl ?_
      refine sm_aload_n ii_ho_end_34 rfl ?_
      refine sm_getR 36 ii_ho_end_35 fl_ho_31 (k := 0) rfl ?_
      refine sm_iconst (1 : Int32) ii_ho_end_38 (by decide) ?_
      refine sm_iconst (0 : Int32) ii_ho_end_39 (by decide) ?_
      refine sm_iconst (0 : Int32) ii_ho_end_40 (by decide) ?_
      refine sm_cvV [.int (1 : Int32), .int (0 : Int32), .int (0 : Int32)] [] rfl ii_ho_end_41 ml_ho_158 (mf_hs_enact) (mv_hs_enact) (Nat.le_of_ble_eq_true rfl) rfl 1 rfl rfl rfl rfl (mc_hs_enact ((1 : Int32)) ((0 : Int32)) ((0 : Int32)) w2) (fun w4 => ?_)
      refine sm_iload_n ii_ho_end_44 rfl ?_
      exact sm_iret ii_ho_end_45 rfl
    · refine sm_bipush (-2 : Int32) ii_ho_end_23 (by decide) ?_
      exact sm_iret ii_ho_end_25 rfl
set_option maxHeartbeats 4000000 in
set_option maxRecDepth 100000 in
theorem mc_ho_end {E : Nat × (Nat → Int32)}  (w : sm_Mem) : sm_MC E mi_ho_end [.ref 0] w (ff_ho_end  w) := sm_MC_of E (by decide +kernel) rfl (Nat.le_of_ble_eq_true rfl) (ss_ho_end_0  w)
abbrev mi_ho_walk : sm_MI := (⟨"HerOrders", "walk", "(II)I"⟩, prog_1_method_17_code, 4, (some .int), 4)
set_option maxRecDepth 100000 in
theorem mf_ho_walk : sm_MF mi_ho_walk 2 := ⟨List.mem_of_getElem? (i := 862) (by decide +kernel), List.mem_of_getElem? (i := 69) (by decide +kernel), ⟨by decide, by decide⟩, by decide +kernel⟩
set_option maxRecDepth 100000 in
theorem mv_ho_walk : sm_MFV mi_ho_walk := ⟨List.mem_of_getElem? (i := 860) (by decide +kernel), List.mem_of_getElem? (i := 861) (by decide +kernel)⟩
set_option maxRecDepth 100000 in
theorem ii_ho_walk_0 : sm_D prog_1_method_17_code 0 1 1 (.aload_n 0) := ⟨by decide +kernel, rfl⟩
set_option maxRecDepth 100000 in
theorem ii_ho_walk_1 : sm_D prog_1_method_17_code 1 1 2 (.iload_n 1) := ⟨by decide +kernel, rfl⟩
set_option maxRecDepth 100000 in
theorem ii_ho_walk_2 : sm_D prog_1_method_17_code 2 3 5 (.invokevirtual 118) := ⟨by decide +kernel, rfl⟩
set_option maxRecDepth 100000 in
theorem ii_ho_walk_5 : sm_D prog_1_method_17_code 5 3 8 (.ifCond .eq 12) := ⟨by decide +kernel, rfl⟩
set_option maxRecDepth 100000 in
theorem ii_ho_walk_8 : sm_D prog_1_method_17_code 8 1 9 (.iload_n 2) := ⟨by decide +kernel, rfl⟩
set_option maxRecDepth 100000 in
theorem ii_ho_walk_9 : sm_D prog_1_method_17_code 9 2 11 (.bipush 6) := ⟨by decide +kernel, rfl⟩
set_option maxRecDepth 100000 in
theorem ii_ho_walk_11 : sm_D prog_1_method_17_code 11 3 14 (.invokestatic 81) := ⟨by decide +kernel, rfl⟩
set_option maxRecDepth 100000 in
theorem ii_ho_walk_14 : sm_D prog_1_method_17_code 14 3 17 (.ifCond .ne 5) := ⟨by decide +kernel, rfl⟩
set_option maxRecDepth 100000 in
theorem ii_ho_walk_17 : sm_D prog_1_method_17_code 17 1 18 (.iconst (-1)) := ⟨by decide +kernel, rfl⟩
set_option maxRecDepth 100000 in
theorem ii_ho_walk_18 : sm_D prog_1_method_17_code 18 1 19 (.ireturn) := ⟨by decide +kernel, rfl⟩
set_option maxRecDepth 100000 in
theorem ii_ho_walk_19 : sm_D prog_1_method_17_code 19 1 20 (.aload_n 0) := ⟨by decide +kernel, rfl⟩
set_option maxRecDepth 100000 in
theorem ii_ho_walk_20 : sm_D prog_1_method_17_code 20 3 23 (.getfield 31) := ⟨by decide +kernel, rfl⟩
set_option maxRecDepth 100000 in
theorem ii_ho_walk_23 : sm_D prog_1_method_17_code 23 3 26 (.getfield 163) := ⟨by decide +kernel, rfl⟩
set_option maxRecDepth 100000 in
theorem ii_ho_walk_26 : sm_D prog_1_method_17_code 26 1 27 (.iload_n 1) := ⟨by decide +kernel, rfl⟩
set_option maxRecDepth 100000 in
theorem ii_ho_walk_27 : sm_D prog_1_method_17_code 27 1 28 (.iaload) := ⟨by decide +kernel, rfl⟩
set_option maxRecDepth 100000 in
theorem ii_ho_walk_28 : sm_D prog_1_method_17_code 28 1 29 (.iload_n 2) := ⟨by decide +kernel, rfl⟩
set_option maxRecDepth 100000 in
theorem ii_ho_walk_29 : sm_D prog_1_method_17_code 29 1 30 (.isub) := ⟨by decide +kernel, rfl⟩
set_option maxRecDepth 100000 in
theorem ii_ho_walk_30 : sm_D prog_1_method_17_code 30 3 33 (.invokestatic 166) := ⟨by decide +kernel, rfl⟩
set_option maxRecDepth 100000 in
theorem ii_ho_walk_33 : sm_D prog_1_method_17_code 33 1 34 (.istore_n 3) := ⟨by decide +kernel, rfl⟩
set_option maxRecDepth 100000 in
theorem ii_ho_walk_34 : sm_D prog_1_method_17_code 34 1 35 (.iload_n 3) := ⟨by decide +kernel, rfl⟩
set_option maxRecDepth 100000 in
theorem ii_ho_walk_35 : sm_D prog_1_method_17_code 35 3 38 (.ifCond .ne 6) := ⟨by decide +kernel, rfl⟩
set_option maxRecDepth 100000 in
theorem ii_ho_walk_38 : sm_D prog_1_method_17_code 38 2 40 (.bipush (-4)) := ⟨by decide +kernel, rfl⟩
set_option maxRecDepth 100000 in
theorem ii_ho_walk_40 : sm_D prog_1_method_17_code 40 1 41 (.ireturn) := ⟨by decide +kernel, rfl⟩
set_option maxRecDepth 100000 in
theorem ii_ho_walk_41 : sm_D prog_1_method_17_code 41 1 42 (.aload_n 0) := ⟨by decide +kernel, rfl⟩
set_option maxRecDepth 100000 in
theorem ii_ho_walk_42 : sm_D prog_1_method_17_code 42 3 45 (.getfield 31) := ⟨by decide +kernel, rfl⟩
set_option maxRecDepth 100000 in
theorem ii_ho_walk_45 : sm_D prog_1_method_17_code 45 3 48 (.invokevirtual 155) := ⟨by decide +kernel, rfl⟩
set_option maxRecDepth 100000 in
theorem ii_ho_walk_48 : sm_D prog_1_method_17_code 48 3 51 (.ifCond .eq 6) := ⟨by decide +kernel, rfl⟩
set_option maxRecDepth 100000 in
theorem ii_ho_walk_51 : sm_D prog_1_method_17_code 51 2 53 (.bipush (-2)) := ⟨by decide +kernel, rfl⟩
set_option maxRecDepth 100000 in
theorem ii_ho_walk_53 : sm_D prog_1_method_17_code 53 1 54 (.ireturn) := ⟨by decide +kernel, rfl⟩
set_option maxRecDepth 100000 in
theorem ii_ho_walk_54 : sm_D prog_1_method_17_code 54 1 55 (.aload_n 0) := ⟨by decide +kernel, rfl⟩
set_option maxRecDepth 100000 in
theorem ii_ho_walk_55 : sm_D prog_1_method_17_code 55 3 58 (.getfield 31) := ⟨by decide +kernel, rfl⟩
set_option maxRecDepth 100000 in
theorem ii_ho_walk_58 : sm_D prog_1_method_17_code 58 1 59 (.iconst 3) := ⟨by decide +kernel, rfl⟩
set_option maxRecDepth 100000 in
theorem ii_ho_walk_59 : sm_D prog_1_method_17_code 59 1 60 (.iload_n 1) := ⟨by decide +kernel, rfl⟩
set_option maxRecDepth 100000 in
theorem ii_ho_walk_60 : sm_D prog_1_method_17_code 60 1 61 (.iload_n 2) := ⟨by decide +kernel, rfl⟩
set_option maxRecDepth 100000 in
theorem ii_ho_walk_61 : sm_D prog_1_method_17_code 61 3 64 (.invokevirtual 158) := ⟨by decide +kernel, rfl⟩
set_option maxRecDepth 100000 in
theorem ii_ho_walk_64 : sm_D prog_1_method_17_code 64 1 65 (.iload_n 3) := ⟨by decide +kernel, rfl⟩
set_option maxRecDepth 100000 in
theorem ii_ho_walk_65 : sm_D prog_1_method_17_code 65 1 66 (.ireturn) := ⟨by decide +kernel, rfl⟩
noncomputable def ff_ho_walk  (a1 : Int32) (a2 : Int32) (w : sm_Mem) : sm_R := (sm_cI (ff_ho_isSpeaker (a1) w) fun x1 w2 => (if x1 = (0 : Int32) then (some (.int (-1 : Int32), w2)) else (sm_cI (ff_ho_isWithin (a2) ((6 : Int32)) w2) fun x3 w4 => (if x3 = (0 : Int32) then (some (.int (-1 : Int32), w4)) else (Option.bind (sm_rd w4 41 6 a1) fun x5 => (if (if (0 : Int32) ≤ (x5 - a2) then (x5 - a2) else (0 : Int32) - (x5 - a2)) = (0 : Int32) then (some (.int (-4 : Int32), w4)) else (sm_cI (ff_hs_isFull  w4) fun x6 w7 => (if x6 = (0 : Int32) then (sm_cV (ff_hs_enact ((3 : Int32)) (a1) (a2) w7) fun w9 => (some (.int (if (0 : Int32) ≤ (x5 - a2) then (x5 - a2) else (0 : Int32) - (x5 - a2)), w9))) else (some (.int (-2 : Int32), w7))))))))))
set_option maxHeartbeats 4000000 in
set_option maxRecDepth 100000 in
theorem ss_ho_walk_0 {E : Nat × (Nat → Int32)}  (a1 : Int32) (a2 : Int32) (w : sm_Mem) : sm_Sim E (mi_ho_walk) 0 [some (.ref 0), some (.int a1), some (.int a2), none] [] w (ff_ho_walk  a1 a2 w) := by
  unfold ff_ho_walk
  refine sm_aload_n ii_ho_walk_0 rfl ?_
  refine sm_iload_n ii_ho_walk_1 rfl ?_
  refine sm_cvI [.int a1] [] rfl ii_ho_walk_2 ml_ho_118 (mf_ho_isSpeaker) (mv_ho_isSpeaker) (Nat.le_of_ble_eq_true rfl) rfl 6 rfl rfl rfl rfl (mc_ho_isSpeaker (a1) w) (fun x1 w2 => ?_)
  refine sm_if_eq 17 ii_ho_walk_5 (by decide) ?_ ?_
  · refine sm_iconst (-1 : Int32) ii_ho_walk_17 (by decide) ?_
    exact sm_iret ii_ho_walk_18 rfl
  · refine sm_iload_n ii_ho_walk_8 rfl ?_
    refine sm_bipush (6 : Int32) ii_ho_walk_9 (by decide) ?_
    refine sm_csI [.int a2, .int (6 : Int32)] [] rfl ii_ho_walk_11 ml_ho_81 (mf_ho_isWithin) (mv_ho_isWithin) (Nat.le_of_ble_eq_true rfl) rfl rfl rfl (mc_ho_isWithin (a2) ((6 : Int32)) w2) (fun x3 w4 => ?_)
    refine sm_if_ne 19 ii_ho_walk_14 (by decide) ?_ ?_
    · refine sm_iconst (-1 : Int32) ii_ho_walk_17 (by decide) ?_
      exact sm_iret ii_ho_walk_18 rfl
    · refine sm_aload_n ii_ho_walk_19 rfl ?_
      refine sm_getR 36 ii_ho_walk_20 fl_ho_31 (k := 0) rfl ?_
      refine sm_getR 41 ii_ho_walk_23 fl_ho_163 (k := 36) rfl ?_
      refine sm_iload_n ii_ho_walk_26 rfl ?_
      refine sm_iald ii_ho_walk_27 (k := 41) rfl (fun x5 => ?_)
      refine sm_iload_n ii_ho_walk_28 rfl ?_
      refine sm_isub ii_ho_walk_29 ?_
      refine sm_mabs ii_ho_walk_30 mq_ho_166 mq_st_abs mq_in mq_co_abs (by decide) rfl ?_
      refine sm_istore_n [some (.ref 0), some (.int a1), some (.int a2), some (.int (if (0 : Int32) ≤ (x5 - a2) then (x5 - a2) else (0 : Int32) - (x5 - a2)))] ii_ho_walk_33 rfl rfl ?_
      refine sm_iload_n ii_ho_walk_34 rfl ?_
      refine sm_if_ne 41 ii_ho_walk_35 (by decide) ?_ ?_
      · refine sm_bipush (-4 : Int32) ii_ho_walk_38 (by decide) ?_
        exact sm_iret ii_ho_walk_40 rfl
      · refine sm_aload_n ii_ho_walk_41 rfl ?_
        refine sm_getR 36 ii_ho_walk_42 fl_ho_31 (k := 0) rfl ?_
        refine sm_cvI [] [] rfl ii_ho_walk_45 ml_ho_155 (mf_hs_isFull) (mv_hs_isFull) (Nat.le_of_ble_eq_true rfl) rfl 1 rfl rfl rfl rfl (mc_hs_isFull  w4) (fun x6 w7 => ?_)
        refine sm_if_eq 54 ii_ho_walk_48 (by decide) ?_ ?_
        · refine sm_aload_n ii_ho_walk_54 rfl ?_
          refine sm_getR 36 ii_ho_walk_55 fl_ho_31 (k := 0) rfl ?_
          refine sm_iconst (3 : Int32) ii_ho_walk_58 (by decide) ?_
          refine sm_iload_n ii_ho_walk_59 rfl ?_
          refine sm_iload_n ii_ho_walk_60 rfl ?_
          refine sm_cvV [.int (3 : Int32), .int a1, .int a2] [] rfl ii_ho_walk_61 ml_ho_158 (mf_hs_enact) (mv_hs_enact) (Nat.le_of_ble_eq_true rfl) rfl 1 rfl rfl rfl rfl (mc_hs_enact ((3 : Int32)) (a1) (a2) w7) (fun w9 => ?_)
          refine sm_iload_n ii_ho_walk_64 rfl ?_
          exact sm_iret ii_ho_walk_65 rfl
        · refine sm_bipush (-2 : Int32) ii_ho_walk_51 (by decide) ?_
          exact sm_iret ii_ho_walk_53 rfl
set_option maxHeartbeats 4000000 in
set_option maxRecDepth 100000 in
theorem mc_ho_walk {E : Nat × (Nat → Int32)} (a1 : Int32) (a2 : Int32) (w : sm_Mem) : sm_MC E mi_ho_walk [.ref 0, .int a1, .int a2] w (ff_ho_walk a1 a2 w) := sm_MC_of E (by decide +kernel) rfl (Nat.le_of_ble_eq_true rfl) (ss_ho_walk_0 a1 a2 w)
abbrev mi_la_stir : sm_MI := (⟨"HerOrdersLaw", "stir", "(LHerOrders;[I[III)Z"⟩, method_17_code, 11, (some .boolean), 5)
set_option maxRecDepth 100000 in
theorem mf_la_stir : sm_MF mi_la_stir 5 := ⟨List.mem_of_getElem? (i := 843) (by decide +kernel), List.mem_of_getElem? (i := 68) (by decide +kernel), ⟨by decide, by decide⟩, by decide +kernel⟩
set_option maxRecDepth 100000 in
theorem mv_la_stir : sm_MFS mi_la_stir := List.mem_of_getElem? (i := 842) (by decide +kernel)
set_option maxRecDepth 100000 in
theorem ii_la_stir_0 : sm_D method_17_code 0 1 1 (.iconst 1) := ⟨by decide +kernel, rfl⟩
set_option maxRecDepth 100000 in
theorem ii_la_stir_1 : sm_D method_17_code 1 2 3 (.istore 5) := ⟨by decide +kernel, rfl⟩
set_option maxRecDepth 100000 in
theorem ii_la_stir_3 : sm_D method_17_code 3 1 4 (.iconst 0) := ⟨by decide +kernel, rfl⟩
set_option maxRecDepth 100000 in
theorem ii_la_stir_4 : sm_D method_17_code 4 2 6 (.istore 6) := ⟨by decide +kernel, rfl⟩
set_option maxRecDepth 100000 in
theorem ii_la_stir_6 : sm_D method_17_code 6 2 8 (.iload 6) := ⟨by decide +kernel, rfl⟩
set_option maxRecDepth 100000 in
theorem ii_la_stir_8 : sm_D method_17_code 8 2 10 (.iload 4) := ⟨by decide +kernel, rfl⟩
set_option maxRecDepth 100000 in
theorem ii_la_stir_10 : sm_D method_17_code 10 3 13 (.if_icmp .ge 247) := ⟨by decide +kernel, rfl⟩
set_option maxRecDepth 100000 in
theorem ii_la_stir_13 : sm_D method_17_code 13 1 14 (.iload_n 3) := ⟨by decide +kernel, rfl⟩
set_option maxRecDepth 100000 in
theorem ii_la_stir_14 : sm_D method_17_code 14 1 15 (.iconst 3) := ⟨by decide +kernel, rfl⟩
set_option maxRecDepth 100000 in
theorem ii_la_stir_15 : sm_D method_17_code 15 2 17 (.iload 6) := ⟨by decide +kernel, rfl⟩
set_option maxRecDepth 100000 in
theorem ii_la_stir_17 : sm_D method_17_code 17 1 18 (.imul) := ⟨by decide +kernel, rfl⟩
set_option maxRecDepth 100000 in
theorem ii_la_stir_18 : sm_D method_17_code 18 1 19 (.ishr) := ⟨by decide +kernel, rfl⟩
set_option maxRecDepth 100000 in
theorem ii_la_stir_19 : sm_D method_17_code 19 2 21 (.bipush 7) := ⟨by decide +kernel, rfl⟩
set_option maxRecDepth 100000 in
theorem ii_la_stir_21 : sm_D method_17_code 21 2 23 (.iload 6) := ⟨by decide +kernel, rfl⟩
set_option maxRecDepth 100000 in
theorem ii_la_stir_23 : sm_D method_17_code 23 1 24 (.imul) := ⟨by decide +kernel, rfl⟩
set_option maxRecDepth 100000 in
theorem ii_la_stir_24 : sm_D method_17_code 24 1 25 (.iadd) := ⟨by decide +kernel, rfl⟩
set_option maxRecDepth 100000 in
theorem ii_la_stir_25 : sm_D method_17_code 25 2 27 (.istore 7) := ⟨by decide +kernel, rfl⟩
set_option maxRecDepth 100000 in
theorem ii_la_stir_27 : sm_D method_17_code 27 2 29 (.iload 7) := ⟨by decide +kernel, rfl⟩
set_option maxRecDepth 100000 in
theorem ii_la_stir_29 : sm_D method_17_code 29 1 30 (.iconst 2) := ⟨by decide +kernel, rfl⟩
set_option maxRecDepth 100000 in
theorem ii_la_stir_30 : sm_D method_17_code 30 1 31 (.ishr) := ⟨by decide +kernel, rfl⟩
set_option maxRecDepth 100000 in
theorem ii_la_stir_31 : sm_D method_17_code 31 1 32 (.aload_n 1) := ⟨by decide +kernel, rfl⟩
set_option maxRecDepth 100000 in
theorem ii_la_stir_32 : sm_D method_17_code 32 1 33 (.iconst 0) := ⟨by decide +kernel, rfl⟩
set_option maxRecDepth 100000 in
theorem ii_la_stir_33 : sm_D method_17_code 33 1 34 (.iaload) := ⟨by decide +kernel, rfl⟩
set_option maxRecDepth 100000 in
theorem ii_la_stir_34 : sm_D method_17_code 34 3 37 (.invokestatic 15) := ⟨by decide +kernel, rfl⟩
set_option maxRecDepth 100000 in
theorem ii_la_stir_37 : sm_D method_17_code 37 2 39 (.istore 8) := ⟨by decide +kernel, rfl⟩
set_option maxRecDepth 100000 in
theorem ii_la_stir_39 : sm_D method_17_code 39 2 41 (.iload 7) := ⟨by decide +kernel, rfl⟩
set_option maxRecDepth 100000 in
theorem ii_la_stir_41 : sm_D method_17_code 41 1 42 (.iconst 5) := ⟨by decide +kernel, rfl⟩
set_option maxRecDepth 100000 in
theorem ii_la_stir_42 : sm_D method_17_code 42 1 43 (.ishr) := ⟨by decide +kernel, rfl⟩
set_option maxRecDepth 100000 in
theorem ii_la_stir_43 : sm_D method_17_code 43 2 45 (.bipush 6) := ⟨by decide +kernel, rfl⟩
set_option maxRecDepth 100000 in
theorem ii_la_stir_45 : sm_D method_17_code 45 3 48 (.invokestatic 15) := ⟨by decide +kernel, rfl⟩
set_option maxRecDepth 100000 in
theorem ii_la_stir_48 : sm_D method_17_code 48 2 50 (.istore 9) := ⟨by decide +kernel, rfl⟩
set_option maxRecDepth 100000 in
theorem ii_la_stir_50 : sm_D method_17_code 50 1 51 (.aload_n 1) := ⟨by decide +kernel, rfl⟩
set_option maxRecDepth 100000 in
theorem ii_la_stir_51 : sm_D method_17_code 51 1 52 (.aload_n 2) := ⟨by decide +kernel, rfl⟩
set_option maxRecDepth 100000 in
theorem ii_la_stir_52 : sm_D method_17_code 52 2 54 (.iload 8) := ⟨by decide +kernel, rfl⟩
set_option maxRecDepth 100000 in
theorem ii_la_stir_54 : sm_D method_17_code 54 2 56 (.iload 9) := ⟨by decide +kernel, rfl⟩
set_option maxRecDepth 100000 in
theorem ii_la_stir_56 : sm_D method_17_code 56 3 59 (.invokestatic 46) := ⟨by decide +kernel, rfl⟩
set_option maxRecDepth 100000 in
theorem ii_la_stir_59 : sm_D method_17_code 59 3 62 (.ifCond .eq 41) := ⟨by decide +kernel, rfl⟩
set_option maxRecDepth 100000 in
theorem ii_la_stir_62 : sm_D method_17_code 62 1 63 (.aload_n 2) := ⟨by decide +kernel, rfl⟩
set_option maxRecDepth 100000 in
theorem ii_la_stir_63 : sm_D method_17_code 63 2 65 (.iload 8) := ⟨by decide +kernel, rfl⟩
set_option maxRecDepth 100000 in
theorem ii_la_stir_65 : sm_D method_17_code 65 2 67 (.iload 9) := ⟨by decide +kernel, rfl⟩
set_option maxRecDepth 100000 in
theorem ii_la_stir_67 : sm_D method_17_code 67 3 70 (.invokestatic 54) := ⟨by decide +kernel, rfl⟩
set_option maxRecDepth 100000 in
theorem ii_la_stir_70 : sm_D method_17_code 70 2 72 (.istore 10) := ⟨by decide +kernel, rfl⟩
set_option maxRecDepth 100000 in
theorem ii_la_stir_72 : sm_D method_17_code 72 2 74 (.iload 5) := ⟨by decide +kernel, rfl⟩
set_option maxRecDepth 100000 in
theorem ii_la_stir_74 : sm_D method_17_code 74 3 77 (.ifCond .eq 20) := ⟨by decide +kernel, rfl⟩
set_option maxRecDepth 100000 in
theorem ii_la_stir_77 : sm_D method_17_code 77 1 78 (.aload_n 0) := ⟨by decide +kernel, rfl⟩
set_option maxRecDepth 100000 in
theorem ii_la_stir_78 : sm_D method_17_code 78 2 80 (.iload 8) := ⟨by decide +kernel, rfl⟩
set_option maxRecDepth 100000 in
theorem ii_la_stir_80 : sm_D method_17_code 80 2 82 (.iload 9) := ⟨by decide +kernel, rfl⟩
set_option maxRecDepth 100000 in
theorem ii_la_stir_82 : sm_D method_17_code 82 3 85 (.invokevirtual 58) := ⟨by decide +kernel, rfl⟩
set_option maxRecDepth 100000 in
theorem ii_la_stir_85 : sm_D method_17_code 85 2 87 (.iload 10) := ⟨by decide +kernel, rfl⟩
set_option maxRecDepth 100000 in
theorem ii_la_stir_87 : sm_D method_17_code 87 3 90 (.if_icmp .ne 7) := ⟨by decide +kernel, rfl⟩
set_option maxRecDepth 100000 in
theorem ii_la_stir_90 : sm_D method_17_code 90 1 91 (.iconst 1) := ⟨by decide +kernel, rfl⟩
set_option maxRecDepth 100000 in
theorem ii_la_stir_91 : sm_D method_17_code 91 3 94 (.goto 4) := ⟨by decide +kernel, rfl⟩
set_option maxRecDepth 100000 in
theorem ii_la_stir_94 : sm_D method_17_code 94 1 95 (.iconst 0) := ⟨by decide +kernel, rfl⟩
set_option maxRecDepth 100000 in
theorem ii_la_stir_95 : sm_D method_17_code 95 2 97 (.istore 5) := ⟨by decide +kernel, rfl⟩
set_option maxRecDepth 100000 in
theorem ii_la_stir_97 : sm_D method_17_code 97 3 100 (.goto 154) := ⟨by decide +kernel, rfl⟩
set_option maxRecDepth 100000 in
theorem ii_la_stir_100 : sm_D method_17_code 100 2 102 (.iload 7) := ⟨by decide +kernel, rfl⟩
set_option maxRecDepth 100000 in
theorem ii_la_stir_102 : sm_D method_17_code 102 1 103 (.iconst 3) := ⟨by decide +kernel, rfl⟩
set_option maxRecDepth 100000 in
theorem ii_la_stir_103 : sm_D method_17_code 103 1 104 (.iand) := ⟨by decide +kernel, rfl⟩
set_option maxRecDepth 100000 in
theorem ii_la_stir_104 : sm_D method_17_code 104 3 107 (.ifCond .ne 34) := ⟨by decide +kernel, rfl⟩
set_option maxRecDepth 100000 in
theorem ii_la_stir_107 : sm_D method_17_code 107 1 108 (.aload_n 1) := ⟨by decide +kernel, rfl⟩
set_option maxRecDepth 100000 in
theorem ii_la_stir_108 : sm_D method_17_code 108 1 109 (.aload_n 2) := ⟨by decide +kernel, rfl⟩
set_option maxRecDepth 100000 in
theorem ii_la_stir_109 : sm_D method_17_code 109 3 112 (.invokestatic 60) := ⟨by decide +kernel, rfl⟩
set_option maxRecDepth 100000 in
theorem ii_la_stir_112 : sm_D method_17_code 112 2 114 (.istore 10) := ⟨by decide +kernel, rfl⟩
set_option maxRecDepth 100000 in
theorem ii_la_stir_114 : sm_D method_17_code 114 2 116 (.iload 5) := ⟨by decide +kernel, rfl⟩
set_option maxRecDepth 100000 in
theorem ii_la_stir_116 : sm_D method_17_code 116 3 119 (.ifCond .eq 16) := ⟨by decide +kernel, rfl⟩
set_option maxRecDepth 100000 in
theorem ii_la_stir_119 : sm_D method_17_code 119 1 120 (.aload_n 0) := ⟨by decide +kernel, rfl⟩
set_option maxRecDepth 100000 in
theorem ii_la_stir_120 : sm_D method_17_code 120 3 123 (.invokevirtual 64) := ⟨by decide +kernel, rfl⟩
set_option maxRecDepth 100000 in
theorem ii_la_stir_123 : sm_D method_17_code 123 2 125 (.iload 10) := ⟨by decide +kernel, rfl⟩
set_option maxRecDepth 100000 in
theorem ii_la_stir_125 : sm_D method_17_code 125 3 128 (.if_icmp .ne 7) := ⟨by decide +kernel, rfl⟩
set_option maxRecDepth 100000 in
theorem ii_la_stir_128 : sm_D method_17_code 128 1 129 (.iconst 1) := ⟨by decide +kernel, rfl⟩
set_option maxRecDepth 100000 in
theorem ii_la_stir_129 : sm_D method_17_code 129 3 132 (.goto 4) := ⟨by decide +kernel, rfl⟩
set_option maxRecDepth 100000 in
theorem ii_la_stir_132 : sm_D method_17_code 132 1 133 (.iconst 0) := ⟨by decide +kernel, rfl⟩
set_option maxRecDepth 100000 in
theorem ii_la_stir_133 : sm_D method_17_code 133 2 135 (.istore 5) := ⟨by decide +kernel, rfl⟩
set_option maxRecDepth 100000 in
theorem ii_la_stir_135 : sm_D method_17_code 135 3 138 (.goto 116) := ⟨by decide +kernel, rfl⟩
set_option maxRecDepth 100000 in
theorem ii_la_stir_138 : sm_D method_17_code 138 2 140 (.iload 7) := ⟨by decide +kernel, rfl⟩
set_option maxRecDepth 100000 in
theorem ii_la_stir_140 : sm_D method_17_code 140 1 141 (.iconst 3) := ⟨by decide +kernel, rfl⟩
set_option maxRecDepth 100000 in
theorem ii_la_stir_141 : sm_D method_17_code 141 1 142 (.iand) := ⟨by decide +kernel, rfl⟩
set_option maxRecDepth 100000 in
theorem ii_la_stir_142 : sm_D method_17_code 142 1 143 (.iconst 1) := ⟨by decide +kernel, rfl⟩
set_option maxRecDepth 100000 in
theorem ii_la_stir_143 : sm_D method_17_code 143 3 146 (.if_icmp .ne 39) := ⟨by decide +kernel, rfl⟩
set_option maxRecDepth 100000 in
theorem ii_la_stir_146 : sm_D method_17_code 146 1 147 (.aload_n 2) := ⟨by decide +kernel, rfl⟩
set_option maxRecDepth 100000 in
theorem ii_la_stir_147 : sm_D method_17_code 147 1 148 (.iconst 1) := ⟨by decide +kernel, rfl⟩
set_option maxRecDepth 100000 in
theorem ii_la_stir_148 : sm_D method_17_code 148 1 149 (.iaload) := ⟨by decide +kernel, rfl⟩
set_option maxRecDepth 100000 in
theorem ii_la_stir_149 : sm_D method_17_code 149 3 152 (.ifCond .le 33) := ⟨by decide +kernel, rfl⟩
set_option maxRecDepth 100000 in
theorem ii_la_stir_152 : sm_D method_17_code 152 1 153 (.aload_n 2) := ⟨by decide +kernel, rfl⟩
set_option maxRecDepth 100000 in
theorem ii_la_stir_153 : sm_D method_17_code 153 3 156 (.invokestatic 67) := ⟨by decide +kernel, rfl⟩
set_option maxRecDepth 100000 in
theorem ii_la_stir_156 : sm_D method_17_code 156 2 158 (.istore 10) := ⟨by decide +kernel, rfl⟩
set_option maxRecDepth 100000 in
theorem ii_la_stir_158 : sm_D method_17_code 158 2 160 (.iload 5) := ⟨by decide +kernel, rfl⟩
set_option maxRecDepth 100000 in
theorem ii_la_stir_160 : sm_D method_17_code 160 3 163 (.ifCond .eq 16) := ⟨by decide +kernel, rfl⟩
set_option maxRecDepth 100000 in
theorem ii_la_stir_163 : sm_D method_17_code 163 1 164 (.aload_n 0) := ⟨by decide +kernel, rfl⟩
set_option maxRecDepth 100000 in
theorem ii_la_stir_164 : sm_D method_17_code 164 3 167 (.invokevirtual 70) := ⟨by decide +kernel, rfl⟩
set_option maxRecDepth 100000 in
theorem ii_la_stir_167 : sm_D method_17_code 167 2 169 (.iload 10) := ⟨by decide +kernel, rfl⟩
set_option maxRecDepth 100000 in
theorem ii_la_stir_169 : sm_D method_17_code 169 3 172 (.if_icmp .ne 7) := ⟨by decide +kernel, rfl⟩
set_option maxRecDepth 100000 in
theorem ii_la_stir_172 : sm_D method_17_code 172 1 173 (.iconst 1) := ⟨by decide +kernel, rfl⟩
set_option maxRecDepth 100000 in
theorem ii_la_stir_173 : sm_D method_17_code 173 3 176 (.goto 4) := ⟨by decide +kernel, rfl⟩
set_option maxRecDepth 100000 in
theorem ii_la_stir_176 : sm_D method_17_code 176 1 177 (.iconst 0) := ⟨by decide +kernel, rfl⟩
set_option maxRecDepth 100000 in
theorem ii_la_stir_177 : sm_D method_17_code 177 2 179 (.istore 5) := ⟨by decide +kernel, rfl⟩
set_option maxRecDepth 100000 in
theorem ii_la_stir_179 : sm_D method_17_code 179 3 182 (.goto 72) := ⟨by decide +kernel, rfl⟩
set_option maxRecDepth 100000 in
theorem ii_la_stir_182 : sm_D method_17_code 182 1 183 (.aload_n 2) := ⟨by decide +kernel, rfl⟩
set_option maxRecDepth 100000 in
theorem ii_la_stir_183 : sm_D method_17_code 183 2 185 (.bipush 19) := ⟨by decide +kernel, rfl⟩
set_option maxRecDepth 100000 in
theorem ii_la_stir_185 : sm_D method_17_code 185 2 187 (.iload 8) := ⟨by decide +kernel, rfl⟩
set_option maxRecDepth 100000 in
theorem ii_la_stir_187 : sm_D method_17_code 187 1 188 (.iadd) := ⟨by decide +kernel, rfl⟩
set_option maxRecDepth 100000 in
theorem ii_la_stir_188 : sm_D method_17_code 188 1 189 (.iaload) := ⟨by decide +kernel, rfl⟩
set_option maxRecDepth 100000 in
theorem ii_la_stir_189 : sm_D method_17_code 189 2 191 (.iload 9) := ⟨by decide +kernel, rfl⟩
set_option maxRecDepth 100000 in
theorem ii_la_stir_191 : sm_D method_17_code 191 3 194 (.if_icmp .eq 60) := ⟨by decide +kernel, rfl⟩
set_option maxRecDepth 100000 in
theorem ii_la_stir_194 : sm_D method_17_code 194 2 196 (.iload 9) := ⟨by decide +kernel, rfl⟩
set_option maxRecDepth 100000 in
theorem ii_la_stir_196 : sm_D method_17_code 196 1 197 (.aload_n 2) := ⟨by decide +kernel, rfl⟩
set_option maxRecDepth 100000 in
theorem ii_la_stir_197 : sm_D method_17_code 197 2 199 (.bipush 19) := ⟨by decide +kernel, rfl⟩
set_option maxRecDepth 100000 in
theorem ii_la_stir_199 : sm_D method_17_code 199 2 201 (.iload 8) := ⟨by decide +kernel, rfl⟩
set_option maxRecDepth 100000 in
theorem ii_la_stir_201 : sm_D method_17_code 201 1 202 (.iadd) := ⟨by decide +kernel, rfl⟩
set_option maxRecDepth 100000 in
theorem ii_la_stir_202 : sm_D method_17_code 202 1 203 (.iaload) := ⟨by decide +kernel, rfl⟩
set_option maxRecDepth 100000 in
theorem ii_la_stir_203 : sm_D method_17_code 203 1 204 (.isub) := ⟨by decide +kernel, rfl⟩
set_option maxRecDepth 100000 in
theorem ii_la_stir_204 : sm_D method_17_code 204 2 206 (.istore 10) := ⟨by decide +kernel, rfl⟩
set_option maxRecDepth 100000 in
theorem ii_la_stir_206 : sm_D method_17_code 206 1 207 (.aload_n 2) := ⟨by decide +kernel, rfl⟩
set_option maxRecDepth 100000 in
theorem ii_la_stir_207 : sm_D method_17_code 207 2 209 (.bipush 19) := ⟨by decide +kernel, rfl⟩
set_option maxRecDepth 100000 in
theorem ii_la_stir_209 : sm_D method_17_code 209 2 211 (.iload 8) := ⟨by decide +kernel, rfl⟩
set_option maxRecDepth 100000 in
theorem ii_la_stir_211 : sm_D method_17_code 211 1 212 (.iadd) := ⟨by decide +kernel, rfl⟩
set_option maxRecDepth 100000 in
theorem ii_la_stir_212 : sm_D method_17_code 212 2 214 (.iload 9) := ⟨by decide +kernel, rfl⟩
set_option maxRecDepth 100000 in
theorem ii_la_stir_214 : sm_D method_17_code 214 1 215 (.iastore) := ⟨by decide +kernel, rfl⟩
set_option maxRecDepth 100000 in
theorem ii_la_stir_215 : sm_D method_17_code 215 2 217 (.iload 5) := ⟨by decide +kernel, rfl⟩
set_option maxRecDepth 100000 in
theorem ii_la_stir_217 : sm_D method_17_code 217 3 220 (.ifCond .eq 31) := ⟨by decide +kernel, rfl⟩
set_option maxRecDepth 100000 in
theorem ii_la_stir_220 : sm_D method_17_code 220 1 221 (.aload_n 0) := ⟨by decide +kernel, rfl⟩
set_option maxRecDepth 100000 in
theorem ii_la_stir_221 : sm_D method_17_code 221 2 223 (.iload 8) := ⟨by decide +kernel, rfl⟩
set_option maxRecDepth 100000 in
theorem ii_la_stir_223 : sm_D method_17_code 223 2 225 (.iload 9) := ⟨by decide +kernel, rfl⟩
set_option maxRecDepth 100000 in
theorem ii_la_stir_225 : sm_D method_17_code 225 3 228 (.invokevirtual 72) := ⟨by decide +kernel, rfl⟩
set_option maxRecDepth 100000 in
theorem ii_la_stir_228 : sm_D method_17_code 228 2 230 (.iload 10) := ⟨by decide +kernel, rfl⟩
set_option maxRecDepth 100000 in
theorem ii_la_stir_230 : sm_D method_17_code 230 3 233 (.ifCond .ge 9) := ⟨by decide +kernel, rfl⟩
set_option maxRecDepth 100000 in
theorem ii_la_stir_233 : sm_D method_17_code 233 2 235 (.iload 10) := ⟨by decide +kernel, rfl⟩
set_option maxRecDepth 100000 in
theorem ii_la_stir_235 : sm_D method_17_code 235 1 236 (.ineg) := ⟨by decide +kernel, rfl⟩
set_option maxRecDepth 100000 in
theorem ii_la_stir_236 : sm_D method_17_code 236 3 239 (.goto 5) := ⟨by decide +kernel, rfl⟩
set_option maxRecDepth 100000 in
theorem ii_la_stir_239 : sm_D method_17_code 239 2 241 (.iload 10) := ⟨by decide +kernel, rfl⟩
set_option maxRecDepth 100000 in
theorem ii_la_stir_241 : sm_D method_17_code 241 3 244 (.if_icmp .ne 7) := ⟨by decide +kernel, rfl⟩
set_option maxRecDepth 100000 in
theorem ii_la_stir_244 : sm_D method_17_code 244 1 245 (.iconst 1) := ⟨by decide +kernel, rfl⟩
set_option maxRecDepth 100000 in
theorem ii_la_stir_245 : sm_D method_17_code 245 3 248 (.goto 4) := ⟨by decide +kernel, rfl⟩
set_option maxRecDepth 100000 in
theorem ii_la_stir_248 : sm_D method_17_code 248 1 249 (.iconst 0) := ⟨by decide +kernel, rfl⟩
set_option maxRecDepth 100000 in
theorem ii_la_stir_249 : sm_D method_17_code 249 2 251 (.istore 5) := ⟨by decide +kernel, rfl⟩
set_option maxRecDepth 100000 in
theorem ii_la_stir_251 : sm_D method_17_code 251 3 254 (.iinc 6 1) := ⟨by decide +kernel, rfl⟩
set_option maxRecDepth 100000 in
theorem ii_la_stir_254 : sm_D method_17_code 254 3 257 (.goto (-248)) := ⟨by decide +kernel, rfl⟩
set_option maxRecDepth 100000 in
theorem ii_la_stir_257 : sm_D method_17_code 257 2 259 (.iload 5) := ⟨by decide +kernel, rfl⟩
set_option maxRecDepth 100000 in
theorem ii_la_stir_259 : sm_D method_17_code 259 1 260 (.ireturn) := ⟨by decide +kernel, rfl⟩
noncomputable def ff_la_stir_248 (self6 : Int32 → Int32 → Int32 → Int32 → sm_Mem → sm_R) (a3 : Int32) (a4 : Int32) (a6 : Int32) (w : sm_Mem) : sm_R := self6 (a3) (a4) ((0 : Int32)) ((a6 + (1 : Int32))) w
set_option maxHeartbeats 4000000 in
set_option maxRecDepth 100000 in
theorem ss_la_stir_248 {E : Nat × (Nat → Int32)} (self6 : Int32 → Int32 → Int32 → Int32 → sm_Mem → sm_R) (hself6 : ∀ (a3 : Int32) (a4 : Int32) (a5 : Int32) (a6 : Int32) (w : sm_Mem), sm_Sim E (mi_la_stir) 6 [some (.ref 0), some (.ref 62), some (.ref 63), some (.int a3), some (.int a4), some (.int a5), some (.int a6), none, none, none, none] [] w (self6 a3 a4 a5 a6 w)) (a3 : Int32) (a4 : Int32) (a6 : Int32) (w : sm_Mem) : sm_Sim E (mi_la_stir) 248 [some (.ref 0), some (.ref 62), some (.ref 63), some (.int a3), some (.int a4), none, some (.int a6), none, none, none, none] [] w (ff_la_stir_248 self6 a3 a4 a6 w) := by
  unfold ff_la_stir_248
  refine sm_iconst (0 : Int32) ii_la_stir_248 (by decide) ?_
  refine sm_istore [some (.ref 0), some (.ref 62), some (.ref 63), some (.int a3), some (.int a4), some (.int (0 : Int32)), some (.int a6), none, none, none, none] ii_la_stir_249 rfl rfl ?_
  refine sm_iinc (a6 + (1 : Int32)) [some (.ref 0), some (.ref 62), some (.ref 63), some (.int a3), some (.int a4), some (.int (0 : Int32)), some (.int (a6 + (1 : Int32))), none, none, none, none] ii_la_stir_251 rfl rfl rfl rfl ?_
  refine sm_goto 6 ii_la_stir_254 (by decide) ?_
  exact hself6 (a3) (a4) ((0 : Int32)) ((a6 + (1 : Int32))) w
noncomputable def ff_la_stir_241 (self6 : Int32 → Int32 → Int32 → Int32 → sm_Mem → sm_R) (a3 : Int32) (a4 : Int32) (a6 : Int32) (b0 : Int32) (b1 : Int32) (w : sm_Mem) : sm_R := (if b0 = b1 then self6 (a3) (a4) ((1 : Int32)) ((a6 + (1 : Int32))) w else ff_la_stir_248 self6 (a3) (a4) (a6) w)
set_option maxHeartbeats 4000000 in
set_option maxRecDepth 100000 in
theorem ss_la_stir_241 {E : Nat × (Nat → Int32)} (self6 : Int32 → Int32 → Int32 → Int32 → sm_Mem → sm_R) (hself6 : ∀ (a3 : Int32) (a4 : Int32) (a5 : Int32) (a6 : Int32) (w : sm_Mem), sm_Sim E (mi_la_stir) 6 [some (.ref 0), some (.ref 62), some (.ref 63), some (.int a3), some (.int a4), some (.int a5), some (.int a6), none, none, none, none] [] w (self6 a3 a4 a5 a6 w)) (a3 : Int32) (a4 : Int32) (a6 : Int32) (b0 : Int32) (b1 : Int32) (w : sm_Mem) : sm_Sim E (mi_la_stir) 241 [some (.ref 0), some (.ref 62), some (.ref 63), some (.int a3), some (.int a4), none, some (.int a6), none, none, none, none] [.int b1, .int b0] w (ff_la_stir_241 self6 a3 a4 a6 b0 b1 w) := by
  unfold ff_la_stir_241
  refine sm_icmp_ne 248 ii_la_stir_241 (by decide) ?_ ?_
  · refine sm_iconst (1 : Int32) ii_la_stir_244 (by decide) ?_
    refine sm_goto 249 ii_la_stir_245 (by decide) ?_
    refine sm_istore [some (.ref 0), some (.ref 62), some (.ref 63), some (.int a3), some (.int a4), some (.int (1 : Int32)), some (.int a6), none, none, none, none] ii_la_stir_249 rfl rfl ?_
    refine sm_iinc (a6 + (1 : Int32)) [some (.ref 0), some (.ref 62), some (.ref 63), some (.int a3), some (.int a4), some (.int (1 : Int32)), some (.int (a6 + (1 : Int32))), none, none, none, none] ii_la_stir_251 rfl rfl rfl rfl ?_
    refine sm_goto 6 ii_la_stir_254 (by decide) ?_
    exact hself6 (a3) (a4) ((1 : Int32)) ((a6 + (1 : Int32))) w
  · exact ss_la_stir_248 self6 hself6 (a3) (a4) (a6) w
noncomputable def ff_la_stir_182 (self6 : Int32 → Int32 → Int32 → Int32 → sm_Mem → sm_R) (a3 : Int32) (a4 : Int32) (a5 : Int32) (a6 : Int32) (a8 : Int32) (a9 : Int32) (w : sm_Mem) : sm_R := (Option.bind (sm_rd w 63 31 ((19 : Int32) + a8)) fun x1 => (if x1 = a9 then self6 (a3) (a4) (a5) ((a6 + (1 : Int32))) w else (Option.bind (sm_rd w 63 31 ((19 : Int32) + a8)) fun x2 => (Option.bind (sm_wr w 63 31 ((19 : Int32) + a8) a9) fun w3 => (if a5 = (0 : Int32) then ff_la_stir_248 self6 (a3) (a4) (a6) w3 else (sm_cI (ff_ho_walk (a8) (a9) w3) fun x4 w5 => (if (0 : Int32) ≤ (a9 - x2) then ff_la_stir_241 self6 (a3) (a4) (a6) (x4) ((a9 - x2)) w5 else ff_la_stir_241 self6 (a3) (a4) (a6) (x4) ((-(a9 - x2))) w5)))))))
set_option maxHeartbeats 4000000 in
set_option maxRecDepth 100000 in
theorem ss_la_stir_182 {E : Nat × (Nat → Int32)} (self6 : Int32 → Int32 → Int32 → Int32 → sm_Mem → sm_R) (hself6 : ∀ (a3 : Int32) (a4 : Int32) (a5 : Int32) (a6 : Int32) (w : sm_Mem), sm_Sim E (mi_la_stir) 6 [some (.ref 0), some (.ref 62), some (.ref 63), some (.int a3), some (.int a4), some (.int a5), some (.int a6), none, none, none, none] [] w (self6 a3 a4 a5 a6 w)) (a3 : Int32) (a4 : Int32) (a5 : Int32) (a6 : Int32) (a8 : Int32) (a9 : Int32) (w : sm_Mem) : sm_Sim E (mi_la_stir) 182 [some (.ref 0), some (.ref 62), some (.ref 63), some (.int a3), some (.int a4), some (.int a5), some (.int a6), none, some (.int a8), some (.int a9), none] [] w (ff_la_stir_182 self6 a3 a4 a5 a6 a8 a9 w) := by
  unfold ff_la_stir_182
  refine sm_aload_n ii_la_stir_182 rfl ?_
  refine sm_bipush (19 : Int32) ii_la_stir_183 (by decide) ?_
  refine sm_iload ii_la_stir_185 rfl ?_
  refine sm_iadd ii_la_stir_187 ?_
  refine sm_iald ii_la_stir_188 (k := 63) rfl (fun x1 => ?_)
  refine sm_iload ii_la_stir_189 rfl ?_
  refine sm_icmp_eq 251 ii_la_stir_191 (by decide) ?_ ?_
  · refine sm_iinc (a6 + (1 : Int32)) [some (.ref 0), some (.ref 62), some (.ref 63), some (.int a3), some (.int a4), some (.int a5), some (.int (a6 + (1 : Int32))), none, some (.int a8), some (.int a9), none] ii_la_stir_251 rfl rfl rfl rfl ?_
    refine sm_goto 6 ii_la_stir_254 (by decide) ?_
    refine sm_msk [true, true, true, true, true, true, true, false, false, false, false] [some (.ref 0), some (.ref 62), some (.ref 63), some (.int a3), some (.int a4), some (.int a5), some (.int (a6 + (1 : Int32))), none, none, none, none] rfl ?_
    exact hself6 (a3) (a4) (a5) ((a6 + (1 : Int32))) w
  · refine sm_iload ii_la_stir_194 rfl ?_
    refine sm_aload_n ii_la_stir_196 rfl ?_
    refine sm_bipush (19 : Int32) ii_la_stir_197 (by decide) ?_
    refine sm_iload ii_la_stir_199 rfl ?_
    refine sm_iadd ii_la_stir_201 ?_
    refine sm_iald ii_la_stir_202 (k := 63) rfl (fun x2 => ?_)
    refine sm_isub ii_la_stir_203 ?_
    refine sm_istore [some (.ref 0), some (.ref 62), some (.ref 63), some (.int a3), some (.int a4), some (.int a5), some (.int a6), none, some (.int a8), some (.int a9), some (.int (a9 - x2))] ii_la_stir_204 rfl rfl ?_
    refine sm_aload_n ii_la_stir_206 rfl ?_
    refine sm_bipush (19 : Int32) ii_la_stir_207 (by decide) ?_
    refine sm_iload ii_la_stir_209 rfl ?_
    refine sm_iadd ii_la_stir_211 ?_
    refine sm_iload ii_la_stir_212 rfl ?_
    refine sm_iast ii_la_stir_214 (k := 63) rfl (fun w3 => ?_)
    refine sm_iload ii_la_stir_215 rfl ?_
    refine sm_if_eq 248 ii_la_stir_217 (by decide) ?_ ?_
    · refine sm_msk [true, true, true, true, true, false, true, false, false, false, false] [some (.ref 0), some (.ref 62), some (.ref 63), some (.int a3), some (.int a4), none, some (.int a6), none, none, none, none] rfl ?_
      exact ss_la_stir_248 self6 hself6 (a3) (a4) (a6) w3
    · refine sm_aload_n ii_la_stir_220 rfl ?_
      refine sm_iload ii_la_stir_221 rfl ?_
      refine sm_iload ii_la_stir_223 rfl ?_
      refine sm_cvI [.int a8, .int a9] [] rfl ii_la_stir_225 ml_la_72 (mf_ho_walk) (mv_ho_walk) (Nat.le_of_ble_eq_true rfl) rfl 6 rfl rfl rfl rfl (mc_ho_walk (a8) (a9) w3) (fun x4 w5 => ?_)
      refine sm_iload ii_la_stir_228 rfl ?_
      refine sm_if_ge 239 ii_la_stir_230 (by decide) ?_ ?_
      · refine sm_iload ii_la_stir_239 rfl ?_
        refine sm_msk [true, true, true, true, true, false, true, false, false, false, false] [some (.ref 0), some (.ref 62), some (.ref 63), some (.int a3), some (.int a4), none, some (.int a6), none, none, none, none] rfl ?_
        exact ss_la_stir_241 self6 hself6 (a3) (a4) (a6) (x4) ((a9 - x2)) w5
      · refine sm_iload ii_la_stir_233 rfl ?_
        refine sm_ineg ii_la_stir_235 ?_
        refine sm_goto 241 ii_la_stir_236 (by decide) ?_
        refine sm_msk [true, true, true, true, true, false, true, false, false, false, false] [some (.ref 0), some (.ref 62), some (.ref 63), some (.int a3), some (.int a4), none, some (.int a6), none, none, none, none] rfl ?_
        exact ss_la_stir_241 self6 hself6 (a3) (a4) (a6) (x4) ((-(a9 - x2))) w5
noncomputable def ff_la_stir_177 (self6 : Int32 → Int32 → Int32 → Int32 → sm_Mem → sm_R) (a3 : Int32) (a4 : Int32) (a6 : Int32) (b0 : Int32) (w : sm_Mem) : sm_R := self6 (a3) (a4) (b0) ((a6 + (1 : Int32))) w
set_option maxHeartbeats 4000000 in
set_option maxRecDepth 100000 in
theorem ss_la_stir_177 {E : Nat × (Nat → Int32)} (self6 : Int32 → Int32 → Int32 → Int32 → sm_Mem → sm_R) (hself6 : ∀ (a3 : Int32) (a4 : Int32) (a5 : Int32) (a6 : Int32) (w : sm_Mem), sm_Sim E (mi_la_stir) 6 [some (.ref 0), some (.ref 62), some (.ref 63), some (.int a3), some (.int a4), some (.int a5), some (.int a6), none, none, none, none] [] w (self6 a3 a4 a5 a6 w)) (a3 : Int32) (a4 : Int32) (a6 : Int32) (b0 : Int32) (w : sm_Mem) : sm_Sim E (mi_la_stir) 177 [some (.ref 0), some (.ref 62), some (.ref 63), some (.int a3), some (.int a4), none, some (.int a6), none, none, none, none] [.int b0] w (ff_la_stir_177 self6 a3 a4 a6 b0 w) := by
  unfold ff_la_stir_177
  refine sm_istore [some (.ref 0), some (.ref 62), some (.ref 63), some (.int a3), some (.int a4), some (.int b0), some (.int a6), none, none, none, none] ii_la_stir_177 rfl rfl ?_
  refine sm_goto 251 ii_la_stir_179 (by decide) ?_
  refine sm_iinc (a6 + (1 : Int32)) [some (.ref 0), some (.ref 62), some (.ref 63), some (.int a3), some (.int a4), some (.int b0), some (.int (a6 + (1 : Int32))), none, none, none, none] ii_la_stir_251 rfl rfl rfl rfl ?_
  refine sm_goto 6 ii_la_stir_254 (by decide) ?_
  exact hself6 (a3) (a4) (b0) ((a6 + (1 : Int32))) w
noncomputable def ff_la_stir_176 (self6 : Int32 → Int32 → Int32 → Int32 → sm_Mem → sm_R) (a3 : Int32) (a4 : Int32) (a6 : Int32) (w : sm_Mem) : sm_R := ff_la_stir_177 self6 (a3) (a4) (a6) ((0 : Int32)) w
set_option maxHeartbeats 4000000 in
set_option maxRecDepth 100000 in
theorem ss_la_stir_176 {E : Nat × (Nat → Int32)} (self6 : Int32 → Int32 → Int32 → Int32 → sm_Mem → sm_R) (hself6 : ∀ (a3 : Int32) (a4 : Int32) (a5 : Int32) (a6 : Int32) (w : sm_Mem), sm_Sim E (mi_la_stir) 6 [some (.ref 0), some (.ref 62), some (.ref 63), some (.int a3), some (.int a4), some (.int a5), some (.int a6), none, none, none, none] [] w (self6 a3 a4 a5 a6 w)) (a3 : Int32) (a4 : Int32) (a6 : Int32) (w : sm_Mem) : sm_Sim E (mi_la_stir) 176 [some (.ref 0), some (.ref 62), some (.ref 63), some (.int a3), some (.int a4), none, some (.int a6), none, none, none, none] [] w (ff_la_stir_176 self6 a3 a4 a6 w) := by
  unfold ff_la_stir_176
  refine sm_iconst (0 : Int32) ii_la_stir_176 (by decide) ?_
  exact ss_la_stir_177 self6 hself6 (a3) (a4) (a6) ((0 : Int32)) w
noncomputable def ff_la_stir_133 (self6 : Int32 → Int32 → Int32 → Int32 → sm_Mem → sm_R) (a3 : Int32) (a4 : Int32) (a6 : Int32) (b0 : Int32) (w : sm_Mem) : sm_R := self6 (a3) (a4) (b0) ((a6 + (1 : Int32))) w
set_option maxHeartbeats 4000000 in
set_option maxRecDepth 100000 in
theorem ss_la_stir_133 {E : Nat × (Nat → Int32)} (self6 : Int32 → Int32 → Int32 → Int32 → sm_Mem → sm_R) (hself6 : ∀ (a3 : Int32) (a4 : Int32) (a5 : Int32) (a6 : Int32) (w : sm_Mem), sm_Sim E (mi_la_stir) 6 [some (.ref 0), some (.ref 62), some (.ref 63), some (.int a3), some (.int a4), some (.int a5), some (.int a6), none, none, none, none] [] w (self6 a3 a4 a5 a6 w)) (a3 : Int32) (a4 : Int32) (a6 : Int32) (b0 : Int32) (w : sm_Mem) : sm_Sim E (mi_la_stir) 133 [some (.ref 0), some (.ref 62), some (.ref 63), some (.int a3), some (.int a4), none, some (.int a6), none, none, none, none] [.int b0] w (ff_la_stir_133 self6 a3 a4 a6 b0 w) := by
  unfold ff_la_stir_133
  refine sm_istore [some (.ref 0), some (.ref 62), some (.ref 63), some (.int a3), some (.int a4), some (.int b0), some (.int a6), none, none, none, none] ii_la_stir_133 rfl rfl ?_
  refine sm_goto 251 ii_la_stir_135 (by decide) ?_
  refine sm_iinc (a6 + (1 : Int32)) [some (.ref 0), some (.ref 62), some (.ref 63), some (.int a3), some (.int a4), some (.int b0), some (.int (a6 + (1 : Int32))), none, none, none, none] ii_la_stir_251 rfl rfl rfl rfl ?_
  refine sm_goto 6 ii_la_stir_254 (by decide) ?_
  exact hself6 (a3) (a4) (b0) ((a6 + (1 : Int32))) w
noncomputable def ff_la_stir_132 (self6 : Int32 → Int32 → Int32 → Int32 → sm_Mem → sm_R) (a3 : Int32) (a4 : Int32) (a6 : Int32) (w : sm_Mem) : sm_R := ff_la_stir_133 self6 (a3) (a4) (a6) ((0 : Int32)) w
set_option maxHeartbeats 4000000 in
set_option maxRecDepth 100000 in
theorem ss_la_stir_132 {E : Nat × (Nat → Int32)} (self6 : Int32 → Int32 → Int32 → Int32 → sm_Mem → sm_R) (hself6 : ∀ (a3 : Int32) (a4 : Int32) (a5 : Int32) (a6 : Int32) (w : sm_Mem), sm_Sim E (mi_la_stir) 6 [some (.ref 0), some (.ref 62), some (.ref 63), some (.int a3), some (.int a4), some (.int a5), some (.int a6), none, none, none, none] [] w (self6 a3 a4 a5 a6 w)) (a3 : Int32) (a4 : Int32) (a6 : Int32) (w : sm_Mem) : sm_Sim E (mi_la_stir) 132 [some (.ref 0), some (.ref 62), some (.ref 63), some (.int a3), some (.int a4), none, some (.int a6), none, none, none, none] [] w (ff_la_stir_132 self6 a3 a4 a6 w) := by
  unfold ff_la_stir_132
  refine sm_iconst (0 : Int32) ii_la_stir_132 (by decide) ?_
  exact ss_la_stir_133 self6 hself6 (a3) (a4) (a6) ((0 : Int32)) w
noncomputable def ff_la_stir_95 (self6 : Int32 → Int32 → Int32 → Int32 → sm_Mem → sm_R) (a3 : Int32) (a4 : Int32) (a6 : Int32) (b0 : Int32) (w : sm_Mem) : sm_R := self6 (a3) (a4) (b0) ((a6 + (1 : Int32))) w
set_option maxHeartbeats 4000000 in
set_option maxRecDepth 100000 in
theorem ss_la_stir_95 {E : Nat × (Nat → Int32)} (self6 : Int32 → Int32 → Int32 → Int32 → sm_Mem → sm_R) (hself6 : ∀ (a3 : Int32) (a4 : Int32) (a5 : Int32) (a6 : Int32) (w : sm_Mem), sm_Sim E (mi_la_stir) 6 [some (.ref 0), some (.ref 62), some (.ref 63), some (.int a3), some (.int a4), some (.int a5), some (.int a6), none, none, none, none] [] w (self6 a3 a4 a5 a6 w)) (a3 : Int32) (a4 : Int32) (a6 : Int32) (b0 : Int32) (w : sm_Mem) : sm_Sim E (mi_la_stir) 95 [some (.ref 0), some (.ref 62), some (.ref 63), some (.int a3), some (.int a4), none, some (.int a6), none, none, none, none] [.int b0] w (ff_la_stir_95 self6 a3 a4 a6 b0 w) := by
  unfold ff_la_stir_95
  refine sm_istore [some (.ref 0), some (.ref 62), some (.ref 63), some (.int a3), some (.int a4), some (.int b0), some (.int a6), none, none, none, none] ii_la_stir_95 rfl rfl ?_
  refine sm_goto 251 ii_la_stir_97 (by decide) ?_
  refine sm_iinc (a6 + (1 : Int32)) [some (.ref 0), some (.ref 62), some (.ref 63), some (.int a3), some (.int a4), some (.int b0), some (.int (a6 + (1 : Int32))), none, none, none, none] ii_la_stir_251 rfl rfl rfl rfl ?_
  refine sm_goto 6 ii_la_stir_254 (by decide) ?_
  exact hself6 (a3) (a4) (b0) ((a6 + (1 : Int32))) w
noncomputable def ff_la_stir_94 (self6 : Int32 → Int32 → Int32 → Int32 → sm_Mem → sm_R) (a3 : Int32) (a4 : Int32) (a6 : Int32) (w : sm_Mem) : sm_R := ff_la_stir_95 self6 (a3) (a4) (a6) ((0 : Int32)) w
set_option maxHeartbeats 4000000 in
set_option maxRecDepth 100000 in
theorem ss_la_stir_94 {E : Nat × (Nat → Int32)} (self6 : Int32 → Int32 → Int32 → Int32 → sm_Mem → sm_R) (hself6 : ∀ (a3 : Int32) (a4 : Int32) (a5 : Int32) (a6 : Int32) (w : sm_Mem), sm_Sim E (mi_la_stir) 6 [some (.ref 0), some (.ref 62), some (.ref 63), some (.int a3), some (.int a4), some (.int a5), some (.int a6), none, none, none, none] [] w (self6 a3 a4 a5 a6 w)) (a3 : Int32) (a4 : Int32) (a6 : Int32) (w : sm_Mem) : sm_Sim E (mi_la_stir) 94 [some (.ref 0), some (.ref 62), some (.ref 63), some (.int a3), some (.int a4), none, some (.int a6), none, none, none, none] [] w (ff_la_stir_94 self6 a3 a4 a6 w) := by
  unfold ff_la_stir_94
  refine sm_iconst (0 : Int32) ii_la_stir_94 (by decide) ?_
  exact ss_la_stir_95 self6 hself6 (a3) (a4) (a6) ((0 : Int32)) w
noncomputable def ff_la_stir_6_b  (self6 : Int32 → Int32 → Int32 → Int32 → sm_Mem → sm_R) (a3 : Int32) (a4 : Int32) (a5 : Int32) (a6 : Int32) (w : sm_Mem) : sm_R := (if a4 ≤ a6 then (sm_rz a5 w) else (Option.bind (sm_rd w 62 19 (0 : Int32)) fun x6 => (sm_cI (ff_la_low ((((a3 >>> (((3 : Int32) * a6) &&& (31 : Int32))) + ((7 : Int32) * a6)) >>> ((2 : Int32) &&& (31 : Int32)))) (x6) w) fun x7 w8 => (sm_cI (ff_la_low ((((a3 >>> (((3 : Int32) * a6) &&& (31 : Int32))) + ((7 : Int32) * a6)) >>> ((5 : Int32) &&& (31 : Int32)))) ((6 : Int32)) w8) fun x9 w10 => (sm_cI (ff_la_can (x7) (x9) w10) fun x11 w12 => (if x11 = (0 : Int32) then (if (((a3 >>> (((3 : Int32) * a6) &&& (31 : Int32))) + ((7 : Int32) * a6)) &&& (3 : Int32)) = (0 : Int32) then (sm_cI (ff_la_hour  w12) fun x18 w19 => (if a5 = (0 : Int32) then ff_la_stir_132 self6 (a3) (a4) (a6) w19 else (sm_cI (ff_ho_hour  w19) fun x20 w21 => (if x20 = x18 then ff_la_stir_133 self6 (a3) (a4) (a6) ((1 : Int32)) w21 else ff_la_stir_132 self6 (a3) (a4) (a6) w21)))) else (if (((a3 >>> (((3 : Int32) * a6) &&& (31 : Int32))) + ((7 : Int32) * a6)) &&& (3 : Int32)) = (1 : Int32) then (Option.bind (sm_rd w12 63 31 (1 : Int32)) fun x13 => (if x13 ≤ (0 : Int32) then ff_la_stir_182 self6 (a3) (a4) (a5) (a6) (x7) (x9) w12 else (sm_cI (ff_la_end  w12) fun x14 w15 => (if a5 = (0 : Int32) then ff_la_stir_176 self6 (a3) (a4) (a6) w15 else (sm_cI (ff_ho_end  w15) fun x16 w17 => (if x16 = x14 then ff_la_stir_177 self6 (a3) (a4) (a6) ((1 : Int32)) w17 else ff_la_stir_176 self6 (a3) (a4) (a6) w17)))))) else ff_la_stir_182 self6 (a3) (a4) (a5) (a6) (x7) (x9) w12)) else (sm_cI (ff_la_say (x7) (x9) w12) fun x22 w23 => (if a5 = (0 : Int32) then ff_la_stir_94 self6 (a3) (a4) (a6) w23 else (sm_cI (ff_ho_say (x7) (x9) w23) fun x24 w25 => (if x24 = x22 then ff_la_stir_95 self6 (a3) (a4) (a6) ((1 : Int32)) w25 else ff_la_stir_94 self6 (a3) (a4) (a6) w25))))))))))
noncomputable def ff_la_stir_6_f  : Nat → Int32 → Int32 → Int32 → Int32 → sm_Mem → sm_R
  | 0, _, _, _, _, _ => none
  | n + 1, a3, a4, a5, a6, w => ff_la_stir_6_b  (ff_la_stir_6_f  n) a3 a4 a5 a6 w
noncomputable def ff_la_stir_6  (a3 : Int32) (a4 : Int32) (a5 : Int32) (a6 : Int32) (w : sm_Mem) : sm_R := ff_la_stir_6_f  sm_N a3 a4 a5 a6 w
set_option maxHeartbeats 4000000 in
set_option maxRecDepth 100000 in
theorem ss_la_stir_6_b {E : Nat × (Nat → Int32)}  (self6 : Int32 → Int32 → Int32 → Int32 → sm_Mem → sm_R) (hself6 : ∀ (a3 : Int32) (a4 : Int32) (a5 : Int32) (a6 : Int32) (w : sm_Mem), sm_Sim E (mi_la_stir) 6 [some (.ref 0), some (.ref 62), some (.ref 63), some (.int a3), some (.int a4), some (.int a5), some (.int a6), none, none, none, none] [] w (self6 a3 a4 a5 a6 w)) (a3 : Int32) (a4 : Int32) (a5 : Int32) (a6 : Int32) (w : sm_Mem) : sm_Sim E (mi_la_stir) 6 [some (.ref 0), some (.ref 62), some (.ref 63), some (.int a3), some (.int a4), some (.int a5), some (.int a6), none, none, none, none] [] w (ff_la_stir_6_b  self6 a3 a4 a5 a6 w) := by
  unfold ff_la_stir_6_b
  refine sm_iload ii_la_stir_6 rfl ?_
  refine sm_iload ii_la_stir_8 rfl ?_
  refine sm_icmp_ge 257 ii_la_stir_10 (by decide) ?_ ?_
  · refine sm_iload ii_la_stir_257 rfl ?_
    exact sm_zret ii_la_stir_259 rfl
  · refine sm_iload_n ii_la_stir_13 rfl ?_
    refine sm_iconst (3 : Int32) ii_la_stir_14 (by decide) ?_
    refine sm_iload ii_la_stir_15 rfl ?_
    refine sm_imul ii_la_stir_17 ?_
    refine sm_ishr ii_la_stir_18 ?_
    refine sm_bipush (7 : Int32) ii_la_stir_19 (by decide) ?_
    refine sm_iload ii_la_stir_21 rfl ?_
    refine sm_imul ii_la_stir_23 ?_
    refine sm_iadd ii_la_stir_24 ?_
    refine sm_istore [some (.ref 0), some (.ref 62), some (.ref 63), some (.int a3), some (.int a4), some (.int a5), some (.int a6), some (.int ((a3 >>> (((3 : Int32) * a6) &&& (31 : Int32))) + ((7 : Int32) * a6))), none, none, none] ii_la_stir_25 rfl rfl ?_
    refine sm_iload ii_la_stir_27 rfl ?_
    refine sm_iconst (2 : Int32) ii_la_stir_29 (by decide) ?_
    refine sm_ishr ii_la_stir_30 ?_
    refine sm_aload_n ii_la_stir_31 rfl ?_
    refine sm_iconst (0 : Int32) ii_la_stir_32 (by decide) ?_
    refine sm_iald ii_la_stir_33 (k := 62) rfl (fun x6 => ?_)
    refine sm_csI [.int (((a3 >>> (((3 : Int32) * a6) &&& (31 : Int32))) + ((7 : Int32) * a6)) >>> ((2 : Int32) &&& (31 : Int32))), .int x6] [] rfl ii_la_stir_34 ml_la_15 (mf_la_low) (mv_la_low) (Nat.le_of_ble_eq_true rfl) rfl rfl rfl (mc_la_low ((((a3 >>> (((3 : Int32) * a6) &&& (31 : Int32))) + ((7 : Int32) * a6)) >>> ((2 : Int32) &&& (31 : Int32)))) (x6) w) (fun x7 w8 => ?_)
    refine sm_istore [some (.ref 0), some (.ref 62), some (.ref 63), some (.int a3), some (.int a4), some (.int a5), some (.int a6), some (.int ((a3 >>> (((3 : Int32) * a6) &&& (31 : Int32))) + ((7 : Int32) * a6))), some (.int x7), none, none] ii_la_stir_37 rfl rfl ?_
    refine sm_iload ii_la_stir_39 rfl ?_
    refine sm_iconst (5 : Int32) ii_la_stir_41 (by decide) ?_
    refine sm_ishr ii_la_stir_42 ?_
    refine sm_bipush (6 : Int32) ii_la_stir_43 (by decide) ?_
    refine sm_csI [.int (((a3 >>> (((3 : Int32) * a6) &&& (31 : Int32))) + ((7 : Int32) * a6)) >>> ((5 : Int32) &&& (31 : Int32))), .int (6 : Int32)] [] rfl ii_la_stir_45 ml_la_15 (mf_la_low) (mv_la_low) (Nat.le_of_ble_eq_true rfl) rfl rfl rfl (mc_la_low ((((a3 >>> (((3 : Int32) * a6) &&& (31 : Int32))) + ((7 : Int32) * a6)) >>> ((5 : Int32) &&& (31 : Int32)))) ((6 : Int32)) w8) (fun x9 w10 => ?_)
    refine sm_istore [some (.ref 0), some (.ref 62), some (.ref 63), some (.int a3), some (.int a4), some (.int a5), some (.int a6), some (.int ((a3 >>> (((3 : Int32) * a6) &&& (31 : Int32))) + ((7 : Int32) * a6))), some (.int x7), some (.int x9), none] ii_la_stir_48 rfl rfl ?_
    refine sm_aload_n ii_la_stir_50 rfl ?_
    refine sm_aload_n ii_la_stir_51 rfl ?_
    refine sm_iload ii_la_stir_52 rfl ?_
    refine sm_iload ii_la_stir_54 rfl ?_
    refine sm_csI [.ref 62, .ref 63, .int x7, .int x9] [] rfl ii_la_stir_56 ml_la_46 (mf_la_can) (mv_la_can) (Nat.le_of_ble_eq_true rfl) rfl rfl rfl (mc_la_can (x7) (x9) w10) (fun x11 w12 => ?_)
    refine sm_if_eq 100 ii_la_stir_59 (by decide) ?_ ?_
    · refine sm_iload ii_la_stir_100 rfl ?_
      refine sm_iconst (3 : Int32) ii_la_stir_102 (by decide) ?_
      refine sm_iand ii_la_stir_103 ?_
      refine sm_if_ne 138 ii_la_stir_104 (by decide) ?_ ?_
      · refine sm_aload_n ii_la_stir_107 rfl ?_
        refine sm_aload_n ii_la_stir_108 rfl ?_
        refine sm_csI [.ref 62, .ref 63] [] rfl ii_la_stir_109 ml_la_60 (mf_la_hour) (mv_la_hour) (Nat.le_of_ble_eq_true rfl) rfl rfl rfl (mc_la_hour  w12) (fun x18 w19 => ?_)
        refine sm_istore [some (.ref 0), some (.ref 62), some (.ref 63), some (.int a3), some (.int a4), some (.int a5), some (.int a6), some (.int ((a3 >>> (((3 : Int32) * a6) &&& (31 : Int32))) + ((7 : Int32) * a6))), some (.int x7), some (.int x9), some (.int x18)] ii_la_stir_112 rfl rfl ?_
        refine sm_iload ii_la_stir_114 rfl ?_
        refine sm_if_eq 132 ii_la_stir_116 (by decide) ?_ ?_
        · refine sm_msk [true, true, true, true, true, false, true, false, false, false, false] [some (.ref 0), some (.ref 62), some (.ref 63), some (.int a3), some (.int a4), none, some (.int a6), none, none, none, none] rfl ?_
          exact ss_la_stir_132 self6 hself6 (a3) (a4) (a6) w19
        · refine sm_aload_n ii_la_stir_119 rfl ?_
          refine sm_cvI [] [] rfl ii_la_stir_120 ml_la_64 (mf_ho_hour) (mv_ho_hour) (Nat.le_of_ble_eq_true rfl) rfl 6 rfl rfl rfl rfl (mc_ho_hour  w19) (fun x20 w21 => ?_)
          refine sm_iload ii_la_stir_123 rfl ?_
          refine sm_icmp_ne 132 ii_la_stir_125 (by decide) ?_ ?_
          · refine sm_iconst (1 : Int32) ii_la_stir_128 (by decide) ?_
            refine sm_goto 133 ii_la_stir_129 (by decide) ?_
            refine sm_msk [true, true, true, true, true, false, true, false, false, false, false] [some (.ref 0), some (.ref 62), some (.ref 63), some (.int a3), some (.int a4), none, some (.int a6), none, none, none, none] rfl ?_
            exact ss_la_stir_133 self6 hself6 (a3) (a4) (a6) ((1 : Int32)) w21
          · refine sm_msk [true, true, true, true, true, false, true, false, false, false, false] [some (.ref 0), some (.ref 62), some (.ref 63), some (.int a3), some (.int a4), none, some (.int a6), none, none, none, none] rfl ?_
            exact ss_la_stir_132 self6 hself6 (a3) (a4) (a6) w21
      · refine sm_iload ii_la_stir_138 rfl ?_
        refine sm_iconst (3 : Int32) ii_la_stir_140 (by decide) ?_
        refine sm_iand ii_la_stir_141 ?_
        refine sm_iconst (1 : Int32) ii_la_stir_142 (by decide) ?_
        refine sm_icmp_ne 182 ii_la_stir_143 (by decide) ?_ ?_
        · refine sm_aload_n ii_la_stir_146 rfl ?_
          refine sm_iconst (1 : Int32) ii_la_stir_147 (by decide) ?_
          refine sm_iald ii_la_stir_148 (k := 63) rfl (fun x13 => ?_)
          refine sm_if_le 182 ii_la_stir_149 (by decide) ?_ ?_
          · refine sm_msk [true, true, true, true, true, true, true, false, true, true, false] [some (.ref 0), some (.ref 62), some (.ref 63), some (.int a3), some (.int a4), some (.int a5), some (.int a6), none, some (.int x7), some (.int x9), none] rfl ?_
            exact ss_la_stir_182 self6 hself6 (a3) (a4) (a5) (a6) (x7) (x9) w12
          · refine sm_aload_n ii_la_stir_152 rfl ?_
            refine sm_csI [.ref 63] [] rfl ii_la_stir_153 ml_la_67 (mf_la_end) (mv_la_end) (Nat.le_of_ble_eq_true rfl) rfl rfl rfl (mc_la_end  w12) (fun x14 w15 => ?_)
            refine sm_istore [some (.ref 0), some (.ref 62), some (.ref 63), some (.int a3), some (.int a4), some (.int a5), some (.int a6), some (.int ((a3 >>> (((3 : Int32) * a6) &&& (31 : Int32))) + ((7 : Int32) * a6))), some (.int x7), some (.int x9), some (.int x14)] ii_la_stir_156 rfl rfl ?_
            refine sm_iload ii_la_stir_158 rfl ?_
            refine sm_if_eq 176 ii_la_stir_160 (by decide) ?_ ?_
            · refine sm_msk [true, true, true, true, true, false, true, false, false, false, false] [some (.ref 0), some (.ref 62), some (.ref 63), some (.int a3), some (.int a4), none, some (.int a6), none, none, none, none] rfl ?_
              exact ss_la_stir_176 self6 hself6 (a3) (a4) (a6) w15
            · refine sm_aload_n ii_la_stir_163 rfl ?_
              refine sm_cvI [] [] rfl ii_la_stir_164 ml_la_70 (mf_ho_end) (mv_ho_end) (Nat.le_of_ble_eq_true rfl) rfl 6 rfl rfl rfl rfl (mc_ho_end  w15) (fun x16 w17 => ?_)
              refine sm_iload ii_la_stir_167 rfl ?_
              refine sm_icmp_ne 176 ii_la_stir_169 (by decide) ?_ ?_
              · refine sm_iconst (1 : Int32) ii_la_stir_172 (by decide) ?_
                refine sm_goto 177 ii_la_stir_173 (by decide) ?_
                refine sm_msk [true, true, true, true, true, false, true, false, false, false, false] [some (.ref 0), some (.ref 62), some (.ref 63), some (.int a3), some (.int a4), none, some (.int a6), none, none, none, none] rfl ?_
                exact ss_la_stir_177 self6 hself6 (a3) (a4) (a6) ((1 : Int32)) w17
              · refine sm_msk [true, true, true, true, true, false, true, false, false, false, false] [some (.ref 0), some (.ref 62), some (.ref 63), some (.int a3), some (.int a4), none, some (.int a6), none, none, none, none] rfl ?_
                exact ss_la_stir_176 self6 hself6 (a3) (a4) (a6) w17
        · refine sm_msk [true, true, true, true, true, true, true, false, true, true, false] [some (.ref 0), some (.ref 62), some (.ref 63), some (.int a3), some (.int a4), some (.int a5), some (.int a6), none, some (.int x7), some (.int x9), none] rfl ?_
          exact ss_la_stir_182 self6 hself6 (a3) (a4) (a5) (a6) (x7) (x9) w12
    · refine sm_aload_n ii_la_stir_62 rfl ?_
      refine sm_iload ii_la_stir_63 rfl ?_
      refine sm_iload ii_la_stir_65 rfl ?_
      refine sm_csI [.ref 63, .int x7, .int x9] [] rfl ii_la_stir_67 ml_la_54 (mf_la_say) (mv_la_say) (Nat.le_of_ble_eq_true rfl) rfl rfl rfl (mc_la_say (x7) (x9) w12) (fun x22 w23 => ?_)
      refine sm_istore [some (.ref 0), some (.ref 62), some (.ref 63), some (.int a3), some (.int a4), some (.int a5), some (.int a6), some (.int ((a3 >>> (((3 : Int32) * a6) &&& (31 : Int32))) + ((7 : Int32) * a6))), some (.int x7), some (.int x9), some (.int x22)] ii_la_stir_70 rfl rfl ?_
      refine sm_iload ii_la_stir_72 rfl ?_
      refine sm_if_eq 94 ii_la_stir_74 (by decide) ?_ ?_
      · refine sm_msk [true, true, true, true, true, false, true, false, false, false, false] [some (.ref 0), some (.ref 62), some (.ref 63), some (.int a3), some (.int a4), none, some (.int a6), none, none, none, none] rfl ?_
        exact ss_la_stir_94 self6 hself6 (a3) (a4) (a6) w23
      · refine sm_aload_n ii_la_stir_77 rfl ?_
        refine sm_iload ii_la_stir_78 rfl ?_
        refine sm_iload ii_la_stir_80 rfl ?_
        refine sm_cvI [.int x7, .int x9] [] rfl ii_la_stir_82 ml_la_58 (mf_ho_say) (mv_ho_say) (Nat.le_of_ble_eq_true rfl) rfl 6 rfl rfl rfl rfl (mc_ho_say (x7) (x9) w23) (fun x24 w25 => ?_)
        refine sm_iload ii_la_stir_85 rfl ?_
        refine sm_icmp_ne 94 ii_la_stir_87 (by decide) ?_ ?_
        · refine sm_iconst (1 : Int32) ii_la_stir_90 (by decide) ?_
          refine sm_goto 95 ii_la_stir_91 (by decide) ?_
          refine sm_msk [true, true, true, true, true, false, true, false, false, false, false] [some (.ref 0), some (.ref 62), some (.ref 63), some (.int a3), some (.int a4), none, some (.int a6), none, none, none, none] rfl ?_
          exact ss_la_stir_95 self6 hself6 (a3) (a4) (a6) ((1 : Int32)) w25
        · refine sm_msk [true, true, true, true, true, false, true, false, false, false, false] [some (.ref 0), some (.ref 62), some (.ref 63), some (.int a3), some (.int a4), none, some (.int a6), none, none, none, none] rfl ?_
          exact ss_la_stir_94 self6 hself6 (a3) (a4) (a6) w25
set_option maxHeartbeats 4000000 in
set_option maxRecDepth 100000 in
theorem ss_la_stir_6_f {E : Nat × (Nat → Int32)}  : ∀ (n : Nat) (a3 : Int32) (a4 : Int32) (a5 : Int32) (a6 : Int32) (w : sm_Mem), sm_Sim E (mi_la_stir) 6 [some (.ref 0), some (.ref 62), some (.ref 63), some (.int a3), some (.int a4), some (.int a5), some (.int a6), none, none, none, none] [] w (ff_la_stir_6_f  n a3 a4 a5 a6 w)
  | 0, _, _, _, _, _ => fun _ _ h => by cases h
  | n + 1, a3, a4, a5, a6, w => ss_la_stir_6_b  _ (ss_la_stir_6_f  n) a3 a4 a5 a6 w
set_option maxHeartbeats 4000000 in
set_option maxRecDepth 100000 in
theorem ss_la_stir_6 {E : Nat × (Nat → Int32)}  (a3 : Int32) (a4 : Int32) (a5 : Int32) (a6 : Int32) (w : sm_Mem) : sm_Sim E (mi_la_stir) 6 [some (.ref 0), some (.ref 62), some (.ref 63), some (.int a3), some (.int a4), some (.int a5), some (.int a6), none, none, none, none] [] w (ff_la_stir_6  a3 a4 a5 a6 w) := ss_la_stir_6_f  sm_N a3 a4 a5 a6 w
noncomputable def ff_la_stir  (a3 : Int32) (a4 : Int32) (w : sm_Mem) : sm_R := ff_la_stir_6 (a3) (a4) ((1 : Int32)) ((0 : Int32)) w
set_option maxHeartbeats 4000000 in
set_option maxRecDepth 100000 in
theorem ss_la_stir_0 {E : Nat × (Nat → Int32)}  (a3 : Int32) (a4 : Int32) (w : sm_Mem) : sm_Sim E (mi_la_stir) 0 [some (.ref 0), some (.ref 62), some (.ref 63), some (.int a3), some (.int a4), none, none, none, none, none, none] [] w (ff_la_stir  a3 a4 w) := by
  unfold ff_la_stir
  refine sm_iconst (1 : Int32) ii_la_stir_0 (by decide) ?_
  refine sm_istore [some (.ref 0), some (.ref 62), some (.ref 63), some (.int a3), some (.int a4), some (.int (1 : Int32)), none, none, none, none, none] ii_la_stir_1 rfl rfl ?_
  refine sm_iconst (0 : Int32) ii_la_stir_3 (by decide) ?_
  refine sm_istore [some (.ref 0), some (.ref 62), some (.ref 63), some (.int a3), some (.int a4), some (.int (1 : Int32)), some (.int (0 : Int32)), none, none, none, none] ii_la_stir_4 rfl rfl ?_
  exact ss_la_stir_6 (a3) (a4) ((1 : Int32)) ((0 : Int32)) w
set_option maxHeartbeats 4000000 in
set_option maxRecDepth 100000 in
theorem mc_la_stir {E : Nat × (Nat → Int32)} (a3 : Int32) (a4 : Int32) (w : sm_Mem) : sm_MC E mi_la_stir [.ref 0, .ref 62, .ref 63, .int a3, .int a4] w (ff_la_stir a3 a4 w) := sm_MC_of E (by decide +kernel) rfl (Nat.le_of_ble_eq_true rfl) (ss_la_stir_0 a3 a4 w)
abbrev mi_ho_count : sm_MI := (⟨"HerOrders", "count", "(I)I"⟩, prog_1_method_42_code, 2, (some .int), 6)
set_option maxRecDepth 100000 in
theorem mf_ho_count : sm_MF mi_ho_count 1 := ⟨List.mem_of_getElem? (i := 757) (by decide +kernel), List.mem_of_getElem? (i := 69) (by decide +kernel), ⟨by decide, by decide⟩, by decide +kernel⟩
set_option maxRecDepth 100000 in
theorem mv_ho_count : sm_MFV mi_ho_count := ⟨List.mem_of_getElem? (i := 755) (by decide +kernel), List.mem_of_getElem? (i := 756) (by decide +kernel)⟩
set_option maxRecDepth 100000 in
theorem ii_ho_count_0 : sm_D prog_1_method_42_code 0 1 1 (.iload_n 1) := ⟨by decide +kernel, rfl⟩
set_option maxRecDepth 100000 in
theorem ii_ho_count_1 : sm_D prog_1_method_42_code 1 2 3 (.bipush 11) := ⟨by decide +kernel, rfl⟩
set_option maxRecDepth 100000 in
theorem ii_ho_count_3 : sm_D prog_1_method_42_code 3 3 6 (.invokestatic 81) := ⟨by decide +kernel, rfl⟩
set_option maxRecDepth 100000 in
theorem ii_ho_count_6 : sm_D prog_1_method_42_code 6 3 9 (.ifCond .eq 11) := ⟨by decide +kernel, rfl⟩
set_option maxRecDepth 100000 in
theorem ii_ho_count_9 : sm_D prog_1_method_42_code 9 1 10 (.aload_n 0) := ⟨by decide +kernel, rfl⟩
set_option maxRecDepth 100000 in
theorem ii_ho_count_10 : sm_D prog_1_method_42_code 10 1 11 (.iload_n 1) := ⟨by decide +kernel, rfl⟩
set_option maxRecDepth 100000 in
theorem ii_ho_count_11 : sm_D prog_1_method_42_code 11 3 14 (.invokevirtual 307) := ⟨by decide +kernel, rfl⟩
set_option maxRecDepth 100000 in
theorem ii_ho_count_14 : sm_D prog_1_method_42_code 14 3 17 (.goto 4) := ⟨by decide +kernel, rfl⟩
set_option maxRecDepth 100000 in
theorem ii_ho_count_17 : sm_D prog_1_method_42_code 17 1 18 (.iconst (-1)) := ⟨by decide +kernel, rfl⟩
set_option maxRecDepth 100000 in
theorem ii_ho_count_18 : sm_D prog_1_method_42_code 18 1 19 (.ireturn) := ⟨by decide +kernel, rfl⟩
noncomputable def ff_ho_count  (a1 : Int32) (w : sm_Mem) : sm_R := (sm_cI (ff_ho_isWithin (a1) ((11 : Int32)) w) fun x1 w2 => (if x1 = (0 : Int32) then (some (.int (-1 : Int32), w2)) else (sm_cI (ff_ho_tally (a1) w2) fun x3 w4 => (some (.int x3, w4)))))
set_option maxHeartbeats 4000000 in
set_option maxRecDepth 100000 in
theorem ss_ho_count_0 {E : Nat × (Nat → Int32)}  (a1 : Int32) (w : sm_Mem) : sm_Sim E (mi_ho_count) 0 [some (.ref 0), some (.int a1)] [] w (ff_ho_count  a1 w) := by
  unfold ff_ho_count
  refine sm_iload_n ii_ho_count_0 rfl ?_
  refine sm_bipush (11 : Int32) ii_ho_count_1 (by decide) ?_
  refine sm_csI [.int a1, .int (11 : Int32)] [] rfl ii_ho_count_3 ml_ho_81 (mf_ho_isWithin) (mv_ho_isWithin) (Nat.le_of_ble_eq_true rfl) rfl rfl rfl (mc_ho_isWithin (a1) ((11 : Int32)) w) (fun x1 w2 => ?_)
  refine sm_if_eq 17 ii_ho_count_6 (by decide) ?_ ?_
  · refine sm_iconst (-1 : Int32) ii_ho_count_17 (by decide) ?_
    exact sm_iret ii_ho_count_18 rfl
  · refine sm_aload_n ii_ho_count_9 rfl ?_
    refine sm_iload_n ii_ho_count_10 rfl ?_
    refine sm_cvI [.int a1] [] rfl ii_ho_count_11 ml_ho_307 (mf_ho_tally) (mv_ho_tally) (Nat.le_of_ble_eq_true rfl) rfl 6 rfl rfl rfl rfl (mc_ho_tally (a1) w2) (fun x3 w4 => ?_)
    refine sm_goto 18 ii_ho_count_14 (by decide) ?_
    exact sm_iret ii_ho_count_18 rfl
set_option maxHeartbeats 4000000 in
set_option maxRecDepth 100000 in
theorem mc_ho_count {E : Nat × (Nat → Int32)} (a1 : Int32) (w : sm_Mem) : sm_MC E mi_ho_count [.ref 0, .int a1] w (ff_ho_count a1 w) := sm_MC_of E (by decide +kernel) rfl (Nat.le_of_ble_eq_true rfl) (ss_ho_count_0 a1 w)
abbrev mi_ho_said : sm_MI := (⟨"HerOrders", "said", "(I)I"⟩, prog_1_method_23_code, 2, (some .int), 2)
set_option maxRecDepth 100000 in
theorem mf_ho_said : sm_MF mi_ho_said 1 := ⟨List.mem_of_getElem? (i := 490) (by decide +kernel), List.mem_of_getElem? (i := 69) (by decide +kernel), ⟨by decide, by decide⟩, by decide +kernel⟩
set_option maxRecDepth 100000 in
theorem mv_ho_said : sm_MFV mi_ho_said := ⟨List.mem_of_getElem? (i := 488) (by decide +kernel), List.mem_of_getElem? (i := 489) (by decide +kernel)⟩
set_option maxRecDepth 100000 in
theorem ii_ho_said_0 : sm_D prog_1_method_23_code 0 1 1 (.iload_n 1) := ⟨by decide +kernel, rfl⟩
set_option maxRecDepth 100000 in
theorem ii_ho_said_1 : sm_D prog_1_method_23_code 1 1 2 (.aload_n 0) := ⟨by decide +kernel, rfl⟩
set_option maxRecDepth 100000 in
theorem ii_ho_said_2 : sm_D prog_1_method_23_code 2 3 5 (.getfield 31) := ⟨by decide +kernel, rfl⟩
set_option maxRecDepth 100000 in
theorem ii_ho_said_5 : sm_D prog_1_method_23_code 5 3 8 (.getfield 162) := ⟨by decide +kernel, rfl⟩
set_option maxRecDepth 100000 in
theorem ii_ho_said_8 : sm_D prog_1_method_23_code 8 3 11 (.invokestatic 81) := ⟨by decide +kernel, rfl⟩
set_option maxRecDepth 100000 in
theorem ii_ho_said_11 : sm_D prog_1_method_23_code 11 3 14 (.ifCond .ne 5) := ⟨by decide +kernel, rfl⟩
set_option maxRecDepth 100000 in
theorem ii_ho_said_14 : sm_D prog_1_method_23_code 14 1 15 (.iconst (-1)) := ⟨by decide +kernel, rfl⟩
set_option maxRecDepth 100000 in
theorem ii_ho_said_15 : sm_D prog_1_method_23_code 15 1 16 (.ireturn) := ⟨by decide +kernel, rfl⟩
set_option maxRecDepth 100000 in
theorem ii_ho_said_16 : sm_D prog_1_method_23_code 16 1 17 (.aload_n 0) := ⟨by decide +kernel, rfl⟩
set_option maxRecDepth 100000 in
theorem ii_ho_said_17 : sm_D prog_1_method_23_code 17 3 20 (.getfield 54) := ⟨by decide +kernel, rfl⟩
set_option maxRecDepth 100000 in
theorem ii_ho_said_20 : sm_D prog_1_method_23_code 20 1 21 (.aload_n 0) := ⟨by decide +kernel, rfl⟩
set_option maxRecDepth 100000 in
theorem ii_ho_said_21 : sm_D prog_1_method_23_code 21 3 24 (.getfield 31) := ⟨by decide +kernel, rfl⟩
set_option maxRecDepth 100000 in
theorem ii_ho_said_24 : sm_D prog_1_method_23_code 24 3 27 (.getfield 186) := ⟨by decide +kernel, rfl⟩
set_option maxRecDepth 100000 in
theorem ii_ho_said_27 : sm_D prog_1_method_23_code 27 1 28 (.iload_n 1) := ⟨by decide +kernel, rfl⟩
set_option maxRecDepth 100000 in
theorem ii_ho_said_28 : sm_D prog_1_method_23_code 28 1 29 (.iaload) := ⟨by decide +kernel, rfl⟩
set_option maxRecDepth 100000 in
theorem ii_ho_said_29 : sm_D prog_1_method_23_code 29 3 32 (.putfield 70) := ⟨by decide +kernel, rfl⟩
set_option maxRecDepth 100000 in
theorem ii_ho_said_32 : sm_D prog_1_method_23_code 32 1 33 (.aload_n 0) := ⟨by decide +kernel, rfl⟩
set_option maxRecDepth 100000 in
theorem ii_ho_said_33 : sm_D prog_1_method_23_code 33 3 36 (.getfield 31) := ⟨by decide +kernel, rfl⟩
set_option maxRecDepth 100000 in
theorem ii_ho_said_36 : sm_D prog_1_method_23_code 36 3 39 (.getfield 189) := ⟨by decide +kernel, rfl⟩
set_option maxRecDepth 100000 in
theorem ii_ho_said_39 : sm_D prog_1_method_23_code 39 1 40 (.iload_n 1) := ⟨by decide +kernel, rfl⟩
set_option maxRecDepth 100000 in
theorem ii_ho_said_40 : sm_D prog_1_method_23_code 40 1 41 (.iaload) := ⟨by decide +kernel, rfl⟩
set_option maxRecDepth 100000 in
theorem ii_ho_said_41 : sm_D prog_1_method_23_code 41 1 42 (.ireturn) := ⟨by decide +kernel, rfl⟩
noncomputable def ff_ho_said  (a1 : Int32) (w : sm_Mem) : sm_R := (sm_cI (ff_ho_isWithin (a1) ((w.1 36 11)) w) fun x1 w2 => (if x1 = (0 : Int32) then (some (.int (-1 : Int32), w2)) else (Option.bind (sm_rd w2 44 8 a1) fun x3 => (sm_let (sm_wI w2 60 0 x3) fun w4 => (Option.bind (sm_rd w4 43 8 a1) fun x5 => (some (.int x5, w4)))))))
set_option maxHeartbeats 4000000 in
set_option maxRecDepth 100000 in
theorem ss_ho_said_0 {E : Nat × (Nat → Int32)}  (a1 : Int32) (w : sm_Mem) : sm_Sim E (mi_ho_said) 0 [some (.ref 0), some (.int a1)] [] w (ff_ho_said  a1 w) := by
  unfold ff_ho_said
  refine sm_iload_n ii_ho_said_0 rfl ?_
  refine sm_aload_n ii_ho_said_1 rfl ?_
  refine sm_getR 36 ii_ho_said_2 fl_ho_31 (k := 0) rfl ?_
  refine sm_getI ii_ho_said_5 fl_ho_162 (k := 36) rfl ?_
  refine sm_csI [.int a1, .int (w.1 36 11)] [] rfl ii_ho_said_8 ml_ho_81 (mf_ho_isWithin) (mv_ho_isWithin) (Nat.le_of_ble_eq_true rfl) rfl rfl rfl (mc_ho_isWithin (a1) ((w.1 36 11)) w) (fun x1 w2 => ?_)
  refine sm_if_ne 16 ii_ho_said_11 (by decide) ?_ ?_
  · refine sm_iconst (-1 : Int32) ii_ho_said_14 (by decide) ?_
    exact sm_iret ii_ho_said_15 rfl
  · refine sm_aload_n ii_ho_said_16 rfl ?_
    refine sm_getR 60 ii_ho_said_17 fl_ho_54 (k := 0) rfl ?_
    refine sm_aload_n ii_ho_said_20 rfl ?_
    refine sm_getR 36 ii_ho_said_21 fl_ho_31 (k := 0) rfl ?_
    refine sm_getR 44 ii_ho_said_24 fl_ho_186 (k := 36) rfl ?_
    refine sm_iload_n ii_ho_said_27 rfl ?_
    refine sm_iald ii_ho_said_28 (k := 44) rfl (fun x3 => ?_)
    refine sm_putI ii_ho_said_29 fp_ho_70 (k := 60) rfl (fun w4 => ?_)
    refine sm_aload_n ii_ho_said_32 rfl ?_
    refine sm_getR 36 ii_ho_said_33 fl_ho_31 (k := 0) rfl ?_
    refine sm_getR 43 ii_ho_said_36 fl_ho_189 (k := 36) rfl ?_
    refine sm_iload_n ii_ho_said_39 rfl ?_
    refine sm_iald ii_ho_said_40 (k := 43) rfl (fun x5 => ?_)
    exact sm_iret ii_ho_said_41 rfl
set_option maxHeartbeats 4000000 in
set_option maxRecDepth 100000 in
theorem mc_ho_said {E : Nat × (Nat → Int32)} (a1 : Int32) (w : sm_Mem) : sm_MC E mi_ho_said [.ref 0, .int a1] w (ff_ho_said a1 w) := sm_MC_of E (by decide +kernel) rfl (Nat.le_of_ble_eq_true rfl) (ss_ho_said_0 a1 w)
abbrev mi_ho_asked : sm_MI := (⟨"HerOrders", "asked", "()I"⟩, prog_1_method_39_code, 1, (some .int), 1)
set_option maxRecDepth 100000 in
theorem mf_ho_asked : sm_MF mi_ho_asked 0 := ⟨List.mem_of_getElem? (i := 745) (by decide +kernel), List.mem_of_getElem? (i := 69) (by decide +kernel), ⟨by decide, by decide⟩, by decide +kernel⟩
set_option maxRecDepth 100000 in
theorem mv_ho_asked : sm_MFV mi_ho_asked := ⟨List.mem_of_getElem? (i := 743) (by decide +kernel), List.mem_of_getElem? (i := 744) (by decide +kernel)⟩
set_option maxRecDepth 100000 in
theorem ii_ho_asked_0 : sm_D prog_1_method_39_code 0 1 1 (.aload_n 0) := ⟨by decide +kernel, rfl⟩
set_option maxRecDepth 100000 in
theorem ii_ho_asked_1 : sm_D prog_1_method_39_code 1 3 4 (.getfield 54) := ⟨by decide +kernel, rfl⟩
set_option maxRecDepth 100000 in
theorem ii_ho_asked_4 : sm_D prog_1_method_39_code 4 3 7 (.getfield 70) := ⟨by decide +kernel, rfl⟩
set_option maxRecDepth 100000 in
theorem ii_ho_asked_7 : sm_D prog_1_method_39_code 7 1 8 (.ireturn) := ⟨by decide +kernel, rfl⟩
noncomputable def ff_ho_asked   (w : sm_Mem) : sm_R := (some (.int (w.1 60 0), w))
set_option maxHeartbeats 4000000 in
set_option maxRecDepth 100000 in
theorem ss_ho_asked_0 {E : Nat × (Nat → Int32)}   (w : sm_Mem) : sm_Sim E (mi_ho_asked) 0 [some (.ref 0)] [] w (ff_ho_asked   w) := by
  unfold ff_ho_asked
  refine sm_aload_n ii_ho_asked_0 rfl ?_
  refine sm_getR 60 ii_ho_asked_1 fl_ho_54 (k := 0) rfl ?_
  refine sm_getI ii_ho_asked_4 fl_ho_70 (k := 60) rfl ?_
  exact sm_iret ii_ho_asked_7 rfl
set_option maxHeartbeats 4000000 in
set_option maxRecDepth 100000 in
theorem mc_ho_asked {E : Nat × (Nat → Int32)}  (w : sm_Mem) : sm_MC E mi_ho_asked [.ref 0] w (ff_ho_asked  w) := sm_MC_of E (by decide +kernel) rfl (Nat.le_of_ble_eq_true rfl) (ss_ho_asked_0  w)
abbrev mi_ho_speaker : sm_MI := (⟨"HerOrders", "speaker", "(II)I"⟩, prog_1_method_12_code, 3, (some .int), 3)
set_option maxRecDepth 100000 in
theorem mf_ho_speaker : sm_MF mi_ho_speaker 2 := ⟨List.mem_of_getElem? (i := 870) (by decide +kernel), List.mem_of_getElem? (i := 69) (by decide +kernel), ⟨by decide, by decide⟩, by decide +kernel⟩
set_option maxRecDepth 100000 in
theorem mv_ho_speaker : sm_MFV mi_ho_speaker := ⟨List.mem_of_getElem? (i := 868) (by decide +kernel), List.mem_of_getElem? (i := 869) (by decide +kernel)⟩
set_option maxRecDepth 100000 in
theorem ii_ho_speaker_0 : sm_D prog_1_method_12_code 0 1 1 (.aload_n 0) := ⟨by decide +kernel, rfl⟩
set_option maxRecDepth 100000 in
theorem ii_ho_speaker_1 : sm_D prog_1_method_12_code 1 1 2 (.iload_n 1) := ⟨by decide +kernel, rfl⟩
set_option maxRecDepth 100000 in
theorem ii_ho_speaker_2 : sm_D prog_1_method_12_code 2 3 5 (.invokevirtual 118) := ⟨by decide +kernel, rfl⟩
set_option maxRecDepth 100000 in
theorem ii_ho_speaker_5 : sm_D prog_1_method_12_code 5 3 8 (.ifCond .eq 12) := ⟨by decide +kernel, rfl⟩
set_option maxRecDepth 100000 in
theorem ii_ho_speaker_8 : sm_D prog_1_method_12_code 8 1 9 (.iload_n 2) := ⟨by decide +kernel, rfl⟩
set_option maxRecDepth 100000 in
theorem ii_ho_speaker_9 : sm_D prog_1_method_12_code 9 2 11 (.bipush 6) := ⟨by decide +kernel, rfl⟩
set_option maxRecDepth 100000 in
theorem ii_ho_speaker_11 : sm_D prog_1_method_12_code 11 3 14 (.invokestatic 81) := ⟨by decide +kernel, rfl⟩
set_option maxRecDepth 100000 in
theorem ii_ho_speaker_14 : sm_D prog_1_method_12_code 14 3 17 (.ifCond .ne 5) := ⟨by decide +kernel, rfl⟩
set_option maxRecDepth 100000 in
theorem ii_ho_speaker_17 : sm_D prog_1_method_12_code 17 1 18 (.iconst (-1)) := ⟨by decide +kernel, rfl⟩
set_option maxRecDepth 100000 in
theorem ii_ho_speaker_18 : sm_D prog_1_method_12_code 18 1 19 (.ireturn) := ⟨by decide +kernel, rfl⟩
set_option maxRecDepth 100000 in
theorem ii_ho_speaker_19 : sm_D prog_1_method_12_code 19 1 20 (.aload_n 0) := ⟨by decide +kernel, rfl⟩
set_option maxRecDepth 100000 in
theorem ii_ho_speaker_20 : sm_D prog_1_method_12_code 20 3 23 (.getfield 54) := ⟨by decide +kernel, rfl⟩
set_option maxRecDepth 100000 in
theorem ii_ho_speaker_23 : sm_D prog_1_method_12_code 23 1 24 (.aload_n 0) := ⟨by decide +kernel, rfl⟩
set_option maxRecDepth 100000 in
theorem ii_ho_speaker_24 : sm_D prog_1_method_12_code 24 3 27 (.getfield 31) := ⟨by decide +kernel, rfl⟩
set_option maxRecDepth 100000 in
theorem ii_ho_speaker_27 : sm_D prog_1_method_12_code 27 1 28 (.iload_n 1) := ⟨by decide +kernel, rfl⟩
set_option maxRecDepth 100000 in
theorem ii_ho_speaker_28 : sm_D prog_1_method_12_code 28 1 29 (.iload_n 2) := ⟨by decide +kernel, rfl⟩
set_option maxRecDepth 100000 in
theorem ii_ho_speaker_29 : sm_D prog_1_method_12_code 29 3 32 (.invokevirtual 122) := ⟨by decide +kernel, rfl⟩
set_option maxRecDepth 100000 in
theorem ii_ho_speaker_32 : sm_D prog_1_method_12_code 32 3 35 (.putfield 70) := ⟨by decide +kernel, rfl⟩
set_option maxRecDepth 100000 in
theorem ii_ho_speaker_35 : sm_D prog_1_method_12_code 35 1 36 (.iconst 1) := ⟨by decide +kernel, rfl⟩
set_option maxRecDepth 100000 in
theorem ii_ho_speaker_36 : sm_D prog_1_method_12_code 36 1 37 (.ireturn) := ⟨by decide +kernel, rfl⟩
noncomputable def ff_ho_speaker  (a1 : Int32) (a2 : Int32) (w : sm_Mem) : sm_R := (sm_cI (ff_ho_isSpeaker (a1) w) fun x1 w2 => (if x1 = (0 : Int32) then (some (.int (-1 : Int32), w2)) else (sm_cI (ff_ho_isWithin (a2) ((6 : Int32)) w2) fun x3 w4 => (if x3 = (0 : Int32) then (some (.int (-1 : Int32), w4)) else (sm_cI (ff_hs_factOf (a1) (a2) w4) fun x5 w6 => (sm_let (sm_wI w6 60 0 x5) fun w7 => (some (.int (1 : Int32), w7))))))))
set_option maxHeartbeats 4000000 in
set_option maxRecDepth 100000 in
theorem ss_ho_speaker_0 {E : Nat × (Nat → Int32)}  (a1 : Int32) (a2 : Int32) (w : sm_Mem) : sm_Sim E (mi_ho_speaker) 0 [some (.ref 0), some (.int a1), some (.int a2)] [] w (ff_ho_speaker  a1 a2 w) := by
  unfold ff_ho_speaker
  refine sm_aload_n ii_ho_speaker_0 rfl ?_
  refine sm_iload_n ii_ho_speaker_1 rfl ?_
  refine sm_cvI [.int a1] [] rfl ii_ho_speaker_2 ml_ho_118 (mf_ho_isSpeaker) (mv_ho_isSpeaker) (Nat.le_of_ble_eq_true rfl) rfl 6 rfl rfl rfl rfl (mc_ho_isSpeaker (a1) w) (fun x1 w2 => ?_)
  refine sm_if_eq 17 ii_ho_speaker_5 (by decide) ?_ ?_
  · refine sm_iconst (-1 : Int32) ii_ho_speaker_17 (by decide) ?_
    exact sm_iret ii_ho_speaker_18 rfl
  · refine sm_iload_n ii_ho_speaker_8 rfl ?_
    refine sm_bipush (6 : Int32) ii_ho_speaker_9 (by decide) ?_
    refine sm_csI [.int a2, .int (6 : Int32)] [] rfl ii_ho_speaker_11 ml_ho_81 (mf_ho_isWithin) (mv_ho_isWithin) (Nat.le_of_ble_eq_true rfl) rfl rfl rfl (mc_ho_isWithin (a2) ((6 : Int32)) w2) (fun x3 w4 => ?_)
    refine sm_if_ne 19 ii_ho_speaker_14 (by decide) ?_ ?_
    · refine sm_iconst (-1 : Int32) ii_ho_speaker_17 (by decide) ?_
      exact sm_iret ii_ho_speaker_18 rfl
    · refine sm_aload_n ii_ho_speaker_19 rfl ?_
      refine sm_getR 60 ii_ho_speaker_20 fl_ho_54 (k := 0) rfl ?_
      refine sm_aload_n ii_ho_speaker_23 rfl ?_
      refine sm_getR 36 ii_ho_speaker_24 fl_ho_31 (k := 0) rfl ?_
      refine sm_iload_n ii_ho_speaker_27 rfl ?_
      refine sm_iload_n ii_ho_speaker_28 rfl ?_
      refine sm_cvI [.int a1, .int a2] [.ref 60] rfl ii_ho_speaker_29 ml_ho_122 (mf_hs_factOf) (mv_hs_factOf) (Nat.le_of_ble_eq_true rfl) rfl 1 rfl rfl rfl rfl (mc_hs_factOf (a1) (a2) w4) (fun x5 w6 => ?_)
      refine sm_putI ii_ho_speaker_32 fp_ho_70 (k := 60) rfl (fun w7 => ?_)
      refine sm_iconst (1 : Int32) ii_ho_speaker_35 (by decide) ?_
      exact sm_iret ii_ho_speaker_36 rfl
set_option maxHeartbeats 4000000 in
set_option maxRecDepth 100000 in
theorem mc_ho_speaker {E : Nat × (Nat → Int32)} (a1 : Int32) (a2 : Int32) (w : sm_Mem) : sm_MC E mi_ho_speaker [.ref 0, .int a1, .int a2] w (ff_ho_speaker a1 a2 w) := sm_MC_of E (by decide +kernel) rfl (Nat.le_of_ble_eq_true rfl) (ss_ho_speaker_0 a1 a2 w)
abbrev mi_la_told : sm_MI := (⟨"HerOrdersLaw", "told", "(LHerOrders;II)I"⟩, method_18_code, 3, (some .int), 4)
set_option maxRecDepth 100000 in
theorem mf_la_told : sm_MF mi_la_told 3 := ⟨List.mem_of_getElem? (i := 866) (by decide +kernel), List.mem_of_getElem? (i := 68) (by decide +kernel), ⟨by decide, by decide⟩, by decide +kernel⟩
set_option maxRecDepth 100000 in
theorem mv_la_told : sm_MFS mi_la_told := List.mem_of_getElem? (i := 865) (by decide +kernel)
set_option maxRecDepth 100000 in
theorem ii_la_told_0 : sm_D method_18_code 0 1 1 (.aload_n 0) := ⟨by decide +kernel, rfl⟩
set_option maxRecDepth 100000 in
theorem ii_la_told_1 : sm_D method_18_code 1 1 2 (.iload_n 1) := ⟨by decide +kernel, rfl⟩
set_option maxRecDepth 100000 in
theorem ii_la_told_2 : sm_D method_18_code 2 1 3 (.iload_n 2) := ⟨by decide +kernel, rfl⟩
set_option maxRecDepth 100000 in
theorem ii_la_told_3 : sm_D method_18_code 3 3 6 (.invokevirtual 75) := ⟨by decide +kernel, rfl⟩
set_option maxRecDepth 100000 in
theorem ii_la_told_6 : sm_D method_18_code 6 1 7 (.iconst 1) := ⟨by decide +kernel, rfl⟩
set_option maxRecDepth 100000 in
theorem ii_la_told_7 : sm_D method_18_code 7 3 10 (.if_icmp .ne 10) := ⟨by decide +kernel, rfl⟩
set_option maxRecDepth 100000 in
theorem ii_la_told_10 : sm_D method_18_code 10 1 11 (.aload_n 0) := ⟨by decide +kernel, rfl⟩
set_option maxRecDepth 100000 in
theorem ii_la_told_11 : sm_D method_18_code 11 3 14 (.invokevirtual 78) := ⟨by decide +kernel, rfl⟩
set_option maxRecDepth 100000 in
theorem ii_la_told_14 : sm_D method_18_code 14 3 17 (.goto 5) := ⟨by decide +kernel, rfl⟩
set_option maxRecDepth 100000 in
theorem ii_la_told_17 : sm_D method_18_code 17 2 19 (.bipush (-99)) := ⟨by decide +kernel, rfl⟩
set_option maxRecDepth 100000 in
theorem ii_la_told_19 : sm_D method_18_code 19 1 20 (.ireturn) := ⟨by decide +kernel, rfl⟩
noncomputable def ff_la_told  (a1 : Int32) (a2 : Int32) (w : sm_Mem) : sm_R := (sm_cI (ff_ho_speaker (a1) (a2) w) fun x1 w2 => (if x1 = (1 : Int32) then (sm_cI (ff_ho_asked  w2) fun x3 w4 => (some (.int x3, w4))) else (some (.int (-99 : Int32), w2))))
set_option maxHeartbeats 4000000 in
set_option maxRecDepth 100000 in
theorem ss_la_told_0 {E : Nat × (Nat → Int32)}  (a1 : Int32) (a2 : Int32) (w : sm_Mem) : sm_Sim E (mi_la_told) 0 [some (.ref 0), some (.int a1), some (.int a2)] [] w (ff_la_told  a1 a2 w) := by
  unfold ff_la_told
  refine sm_aload_n ii_la_told_0 rfl ?_
  refine sm_iload_n ii_la_told_1 rfl ?_
  refine sm_iload_n ii_la_told_2 rfl ?_
  refine sm_cvI [.int a1, .int a2] [] rfl ii_la_told_3 ml_la_75 (mf_ho_speaker) (mv_ho_speaker) (Nat.le_of_ble_eq_true rfl) rfl 6 rfl rfl rfl rfl (mc_ho_speaker (a1) (a2) w) (fun x1 w2 => ?_)
  refine sm_iconst (1 : Int32) ii_la_told_6 (by decide) ?_
  refine sm_icmp_ne 17 ii_la_told_7 (by decide) ?_ ?_
  · refine sm_aload_n ii_la_told_10 rfl ?_
    refine sm_cvI [] [] rfl ii_la_told_11 ml_la_78 (mf_ho_asked) (mv_ho_asked) (Nat.le_of_ble_eq_true rfl) rfl 6 rfl rfl rfl rfl (mc_ho_asked  w2) (fun x3 w4 => ?_)
    refine sm_goto 19 ii_la_told_14 (by decide) ?_
    exact sm_iret ii_la_told_19 rfl
  · refine sm_bipush (-99 : Int32) ii_la_told_17 (by decide) ?_
    exact sm_iret ii_la_told_19 rfl
set_option maxHeartbeats 4000000 in
set_option maxRecDepth 100000 in
theorem mc_la_told {E : Nat × (Nat → Int32)} (a1 : Int32) (a2 : Int32) (w : sm_Mem) : sm_MC E mi_la_told [.ref 0, .int a1, .int a2] w (ff_la_told a1 a2 w) := sm_MC_of E (by decide +kernel) rfl (Nat.le_of_ble_eq_true rfl) (ss_la_told_0 a1 a2 w)
abbrev mi_ho_what : sm_MI := (⟨"HerOrders", "what", "(I)I"⟩, prog_1_method_22_code, 2, (some .int), 4)
set_option maxRecDepth 100000 in
theorem mf_ho_what : sm_MF mi_ho_what 1 := ⟨List.mem_of_getElem? (i := 481) (by decide +kernel), List.mem_of_getElem? (i := 69) (by decide +kernel), ⟨by decide, by decide⟩, by decide +kernel⟩
set_option maxRecDepth 100000 in
theorem mv_ho_what : sm_MFV mi_ho_what := ⟨List.mem_of_getElem? (i := 479) (by decide +kernel), List.mem_of_getElem? (i := 480) (by decide +kernel)⟩
set_option maxRecDepth 100000 in
theorem ii_ho_what_0 : sm_D prog_1_method_22_code 0 1 1 (.aload_n 0) := ⟨by decide +kernel, rfl⟩
set_option maxRecDepth 100000 in
theorem ii_ho_what_1 : sm_D prog_1_method_22_code 1 1 2 (.iload_n 1) := ⟨by decide +kernel, rfl⟩
set_option maxRecDepth 100000 in
theorem ii_ho_what_2 : sm_D prog_1_method_22_code 2 3 5 (.invokevirtual 118) := ⟨by decide +kernel, rfl⟩
set_option maxRecDepth 100000 in
theorem ii_ho_what_5 : sm_D prog_1_method_22_code 5 3 8 (.ifCond .eq 14) := ⟨by decide +kernel, rfl⟩
set_option maxRecDepth 100000 in
theorem ii_ho_what_8 : sm_D prog_1_method_22_code 8 1 9 (.aload_n 0) := ⟨by decide +kernel, rfl⟩
set_option maxRecDepth 100000 in
theorem ii_ho_what_9 : sm_D prog_1_method_22_code 9 3 12 (.getfield 31) := ⟨by decide +kernel, rfl⟩
set_option maxRecDepth 100000 in
theorem ii_ho_what_12 : sm_D prog_1_method_22_code 12 1 13 (.iload_n 1) := ⟨by decide +kernel, rfl⟩
set_option maxRecDepth 100000 in
theorem ii_ho_what_13 : sm_D prog_1_method_22_code 13 3 16 (.invokevirtual 183) := ⟨by decide +kernel, rfl⟩
set_option maxRecDepth 100000 in
theorem ii_ho_what_16 : sm_D prog_1_method_22_code 16 3 19 (.goto 4) := ⟨by decide +kernel, rfl⟩
set_option maxRecDepth 100000 in
theorem ii_ho_what_19 : sm_D prog_1_method_22_code 19 1 20 (.iconst (-1)) := ⟨by decide +kernel, rfl⟩
set_option maxRecDepth 100000 in
theorem ii_ho_what_20 : sm_D prog_1_method_22_code 20 1 21 (.ireturn) := ⟨by decide +kernel, rfl⟩
noncomputable def ff_ho_what  (a1 : Int32) (w : sm_Mem) : sm_R := (sm_cI (ff_ho_isSpeaker (a1) w) fun x1 w2 => (if x1 = (0 : Int32) then (some (.int (-1 : Int32), w2)) else (sm_cI (ff_hs_sayable (a1) w2) fun x3 w4 => (some (.int x3, w4)))))
set_option maxHeartbeats 4000000 in
set_option maxRecDepth 100000 in
theorem ss_ho_what_0 {E : Nat × (Nat → Int32)}  (a1 : Int32) (w : sm_Mem) : sm_Sim E (mi_ho_what) 0 [some (.ref 0), some (.int a1)] [] w (ff_ho_what  a1 w) := by
  unfold ff_ho_what
  refine sm_aload_n ii_ho_what_0 rfl ?_
  refine sm_iload_n ii_ho_what_1 rfl ?_
  refine sm_cvI [.int a1] [] rfl ii_ho_what_2 ml_ho_118 (mf_ho_isSpeaker) (mv_ho_isSpeaker) (Nat.le_of_ble_eq_true rfl) rfl 6 rfl rfl rfl rfl (mc_ho_isSpeaker (a1) w) (fun x1 w2 => ?_)
  refine sm_if_eq 19 ii_ho_what_5 (by decide) ?_ ?_
  · refine sm_iconst (-1 : Int32) ii_ho_what_19 (by decide) ?_
    exact sm_iret ii_ho_what_20 rfl
  · refine sm_aload_n ii_ho_what_8 rfl ?_
    refine sm_getR 36 ii_ho_what_9 fl_ho_31 (k := 0) rfl ?_
    refine sm_iload_n ii_ho_what_12 rfl ?_
    refine sm_cvI [.int a1] [] rfl ii_ho_what_13 ml_ho_183 (mf_hs_sayable) (mv_hs_sayable) (Nat.le_of_ble_eq_true rfl) rfl 1 rfl rfl rfl rfl (mc_hs_sayable (a1) w2) (fun x3 w4 => ?_)
    refine sm_goto 20 ii_ho_what_16 (by decide) ?_
    exact sm_iret ii_ho_what_20 rfl
set_option maxHeartbeats 4000000 in
set_option maxRecDepth 100000 in
theorem mc_ho_what {E : Nat × (Nat → Int32)} (a1 : Int32) (w : sm_Mem) : sm_MC E mi_ho_what [.ref 0, .int a1] w (ff_ho_what a1 w) := sm_MC_of E (by decide +kernel) rfl (Nat.le_of_ble_eq_true rfl) (ss_ho_what_0 a1 w)
abbrev mi_ho_who : sm_MI := (⟨"HerOrders", "who", "(I)I"⟩, prog_1_method_21_code, 4, (some .int), 3)
set_option maxRecDepth 100000 in
theorem mf_ho_who : sm_MF mi_ho_who 1 := ⟨List.mem_of_getElem? (i := 477) (by decide +kernel), List.mem_of_getElem? (i := 69) (by decide +kernel), ⟨by decide, by decide⟩, by decide +kernel⟩
set_option maxRecDepth 100000 in
theorem mv_ho_who : sm_MFV mi_ho_who := ⟨List.mem_of_getElem? (i := 475) (by decide +kernel), List.mem_of_getElem? (i := 476) (by decide +kernel)⟩
set_option maxRecDepth 100000 in
theorem ii_ho_who_0 : sm_D prog_1_method_21_code 0 1 1 (.iload_n 1) := ⟨by decide +kernel, rfl⟩
set_option maxRecDepth 100000 in
theorem ii_ho_who_1 : sm_D prog_1_method_21_code 1 2 3 (.bipush 6) := ⟨by decide +kernel, rfl⟩
set_option maxRecDepth 100000 in
theorem ii_ho_who_3 : sm_D prog_1_method_21_code 3 3 6 (.invokestatic 81) := ⟨by decide +kernel, rfl⟩
set_option maxRecDepth 100000 in
theorem ii_ho_who_6 : sm_D prog_1_method_21_code 6 3 9 (.ifCond .ne 5) := ⟨by decide +kernel, rfl⟩
set_option maxRecDepth 100000 in
theorem ii_ho_who_9 : sm_D prog_1_method_21_code 9 1 10 (.iconst (-1)) := ⟨by decide +kernel, rfl⟩
set_option maxRecDepth 100000 in
theorem ii_ho_who_10 : sm_D prog_1_method_21_code 10 1 11 (.ireturn) := ⟨by decide +kernel, rfl⟩
set_option maxRecDepth 100000 in
theorem ii_ho_who_11 : sm_D prog_1_method_21_code 11 1 12 (.iconst 0) := ⟨by decide +kernel, rfl⟩
set_option maxRecDepth 100000 in
theorem ii_ho_who_12 : sm_D prog_1_method_21_code 12 1 13 (.istore_n 2) := ⟨by decide +kernel, rfl⟩
set_option maxRecDepth 100000 in
theorem ii_ho_who_13 : sm_D prog_1_method_21_code 13 1 14 (.iconst 0) := ⟨by decide +kernel, rfl⟩
set_option maxRecDepth 100000 in
theorem ii_ho_who_14 : sm_D prog_1_method_21_code 14 1 15 (.istore_n 3) := ⟨by decide +kernel, rfl⟩
set_option maxRecDepth 100000 in
theorem ii_ho_who_15 : sm_D prog_1_method_21_code 15 1 16 (.iload_n 3) := ⟨by decide +kernel, rfl⟩
set_option maxRecDepth 100000 in
theorem ii_ho_who_16 : sm_D prog_1_method_21_code 16 1 17 (.aload_n 0) := ⟨by decide +kernel, rfl⟩
set_option maxRecDepth 100000 in
theorem ii_ho_who_17 : sm_D prog_1_method_21_code 17 3 20 (.getfield 31) := ⟨by decide +kernel, rfl⟩
set_option maxRecDepth 100000 in
theorem ii_ho_who_20 : sm_D prog_1_method_21_code 20 3 23 (.getfield 115) := ⟨by decide +kernel, rfl⟩
set_option maxRecDepth 100000 in
theorem ii_ho_who_23 : sm_D prog_1_method_21_code 23 3 26 (.if_icmp .ge 27) := ⟨by decide +kernel, rfl⟩
set_option maxRecDepth 100000 in
theorem ii_ho_who_26 : sm_D prog_1_method_21_code 26 1 27 (.aload_n 0) := ⟨by decide +kernel, rfl⟩
set_option maxRecDepth 100000 in
theorem ii_ho_who_27 : sm_D prog_1_method_21_code 27 3 30 (.getfield 31) := ⟨by decide +kernel, rfl⟩
set_option maxRecDepth 100000 in
theorem ii_ho_who_30 : sm_D prog_1_method_21_code 30 1 31 (.iload_n 3) := ⟨by decide +kernel, rfl⟩
set_option maxRecDepth 100000 in
theorem ii_ho_who_31 : sm_D prog_1_method_21_code 31 1 32 (.iload_n 1) := ⟨by decide +kernel, rfl⟩
set_option maxRecDepth 100000 in
theorem ii_ho_who_32 : sm_D prog_1_method_21_code 32 3 35 (.invokevirtual 152) := ⟨by decide +kernel, rfl⟩
set_option maxRecDepth 100000 in
theorem ii_ho_who_35 : sm_D prog_1_method_21_code 35 3 38 (.ifCond .eq 9) := ⟨by decide +kernel, rfl⟩
set_option maxRecDepth 100000 in
theorem ii_ho_who_38 : sm_D prog_1_method_21_code 38 1 39 (.iload_n 2) := ⟨by decide +kernel, rfl⟩
set_option maxRecDepth 100000 in
theorem ii_ho_who_39 : sm_D prog_1_method_21_code 39 1 40 (.iconst 1) := ⟨by decide +kernel, rfl⟩
set_option maxRecDepth 100000 in
theorem ii_ho_who_40 : sm_D prog_1_method_21_code 40 1 41 (.iload_n 3) := ⟨by decide +kernel, rfl⟩
set_option maxRecDepth 100000 in
theorem ii_ho_who_41 : sm_D prog_1_method_21_code 41 1 42 (.ishl) := ⟨by decide +kernel, rfl⟩
set_option maxRecDepth 100000 in
theorem ii_ho_who_42 : sm_D prog_1_method_21_code 42 1 43 (.ior) := ⟨by decide +kernel, rfl⟩
set_option maxRecDepth 100000 in
theorem ii_ho_who_43 : sm_D prog_1_method_21_code 43 1 44 (.istore_n 2) := ⟨by decide +kernel, rfl⟩
set_option maxRecDepth 100000 in
theorem ii_ho_who_44 : sm_D prog_1_method_21_code 44 3 47 (.iinc 3 1) := ⟨by decide +kernel, rfl⟩
set_option maxRecDepth 100000 in
theorem ii_ho_who_47 : sm_D prog_1_method_21_code 47 3 50 (.goto (-32)) := ⟨by decide +kernel, rfl⟩
set_option maxRecDepth 100000 in
theorem ii_ho_who_50 : sm_D prog_1_method_21_code 50 1 51 (.iload_n 2) := ⟨by decide +kernel, rfl⟩
set_option maxRecDepth 100000 in
theorem ii_ho_who_51 : sm_D prog_1_method_21_code 51 1 52 (.ireturn) := ⟨by decide +kernel, rfl⟩
noncomputable def ff_ho_who_15_b  (self15 : Int32 → Int32 → Int32 → sm_Mem → sm_R) (a1 : Int32) (a2 : Int32) (a3 : Int32) (w : sm_Mem) : sm_R := (if (w.1 36 0) ≤ a3 then (some (.int a2, w)) else (sm_cI (ff_hs_can (a3) (a1) w) fun x1 w2 => (if x1 = (0 : Int32) then self15 (a1) (a2) ((a3 + (1 : Int32))) w2 else self15 (a1) ((a2 ||| ((1 : Int32) <<< (a3 &&& (31 : Int32))))) ((a3 + (1 : Int32))) w2)))
noncomputable def ff_ho_who_15_f  : Nat → Int32 → Int32 → Int32 → sm_Mem → sm_R
  | 0, _, _, _, _ => none
  | n + 1, a1, a2, a3, w => ff_ho_who_15_b  (ff_ho_who_15_f  n) a1 a2 a3 w
noncomputable def ff_ho_who_15  (a1 : Int32) (a2 : Int32) (a3 : Int32) (w : sm_Mem) : sm_R := ff_ho_who_15_f  sm_N a1 a2 a3 w
set_option maxHeartbeats 4000000 in
set_option maxRecDepth 100000 in
theorem ss_ho_who_15_b {E : Nat × (Nat → Int32)}  (self15 : Int32 → Int32 → Int32 → sm_Mem → sm_R) (hself15 : ∀ (a1 : Int32) (a2 : Int32) (a3 : Int32) (w : sm_Mem), sm_Sim E (mi_ho_who) 15 [some (.ref 0), some (.int a1), some (.int a2), some (.int a3)] [] w (self15 a1 a2 a3 w)) (a1 : Int32) (a2 : Int32) (a3 : Int32) (w : sm_Mem) : sm_Sim E (mi_ho_who) 15 [some (.ref 0), some (.int a1), some (.int a2), some (.int a3)] [] w (ff_ho_who_15_b  self15 a1 a2 a3 w) := by
  unfold ff_ho_who_15_b
  refine sm_iload_n ii_ho_who_15 rfl ?_
  refine sm_aload_n ii_ho_who_16 rfl ?_
  refine sm_getR 36 ii_ho_who_17 fl_ho_31 (k := 0) rfl ?_
  refine sm_getI ii_ho_who_20 fl_ho_115 (k := 36) rfl ?_
  refine sm_icmp_ge 50 ii_ho_who_23 (by decide) ?_ ?_
  · refine sm_iload_n ii_ho_who_50 rfl ?_
    exact sm_iret ii_ho_who_51 rfl
  · refine sm_aload_n ii_ho_who_26 rfl ?_
    refine sm_getR 36 ii_ho_who_27 fl_ho_31 (k := 0) rfl ?_
    refine sm_iload_n ii_ho_who_30 rfl ?_
    refine sm_iload_n ii_ho_who_31 rfl ?_
    refine sm_cvI [.int a3, .int a1] [] rfl ii_ho_who_32 ml_ho_152 (mf_hs_can) (mv_hs_can) (Nat.le_of_ble_eq_true rfl) rfl 1 rfl rfl rfl rfl (mc_hs_can (a3) (a1) w) (fun x1 w2 => ?_)
    refine sm_if_eq 44 ii_ho_who_35 (by decide) ?_ ?_
    · refine sm_iinc (a3 + (1 : Int32)) [some (.ref 0), some (.int a1), some (.int a2), some (.int (a3 + (1 : Int32)))] ii_ho_who_44 rfl rfl rfl rfl ?_
      refine sm_goto 15 ii_ho_who_47 (by decide) ?_
      exact hself15 (a1) (a2) ((a3 + (1 : Int32))) w2
    · refine sm_iload_n ii_ho_who_38 rfl ?_
      refine sm_iconst (1 : Int32) ii_ho_who_39 (by decide) ?_
      refine sm_iload_n ii_ho_who_40 rfl ?_
      refine sm_ishl ii_ho_who_41 ?_
      refine sm_ior ii_ho_who_42 ?_
      refine sm_istore_n [some (.ref 0), some (.int a1), some (.int (a2 ||| ((1 : Int32) <<< (a3 &&& (31 : Int32))))), some (.int a3)] ii_ho_who_43 rfl rfl ?_
      refine sm_iinc (a3 + (1 : Int32)) [some (.ref 0), some (.int a1), some (.int (a2 ||| ((1 : Int32) <<< (a3 &&& (31 : Int32))))), some (.int (a3 + (1 : Int32)))] ii_ho_who_44 rfl rfl rfl rfl ?_
      refine sm_goto 15 ii_ho_who_47 (by decide) ?_
      exact hself15 (a1) ((a2 ||| ((1 : Int32) <<< (a3 &&& (31 : Int32))))) ((a3 + (1 : Int32))) w2
set_option maxHeartbeats 4000000 in
set_option maxRecDepth 100000 in
theorem ss_ho_who_15_f {E : Nat × (Nat → Int32)}  : ∀ (n : Nat) (a1 : Int32) (a2 : Int32) (a3 : Int32) (w : sm_Mem), sm_Sim E (mi_ho_who) 15 [some (.ref 0), some (.int a1), some (.int a2), some (.int a3)] [] w (ff_ho_who_15_f  n a1 a2 a3 w)
  | 0, _, _, _, _ => fun _ _ h => by cases h
  | n + 1, a1, a2, a3, w => ss_ho_who_15_b  _ (ss_ho_who_15_f  n) a1 a2 a3 w
set_option maxHeartbeats 4000000 in
set_option maxRecDepth 100000 in
theorem ss_ho_who_15 {E : Nat × (Nat → Int32)}  (a1 : Int32) (a2 : Int32) (a3 : Int32) (w : sm_Mem) : sm_Sim E (mi_ho_who) 15 [some (.ref 0), some (.int a1), some (.int a2), some (.int a3)] [] w (ff_ho_who_15  a1 a2 a3 w) := ss_ho_who_15_f  sm_N a1 a2 a3 w
noncomputable def ff_ho_who  (a1 : Int32) (w : sm_Mem) : sm_R := (sm_cI (ff_ho_isWithin (a1) ((6 : Int32)) w) fun x3 w4 => (if x3 = (0 : Int32) then (some (.int (-1 : Int32), w4)) else ff_ho_who_15 (a1) ((0 : Int32)) ((0 : Int32)) w4))
set_option maxHeartbeats 4000000 in
set_option maxRecDepth 100000 in
theorem ss_ho_who_0 {E : Nat × (Nat → Int32)}  (a1 : Int32) (w : sm_Mem) : sm_Sim E (mi_ho_who) 0 [some (.ref 0), some (.int a1), none, none] [] w (ff_ho_who  a1 w) := by
  unfold ff_ho_who
  refine sm_iload_n ii_ho_who_0 rfl ?_
  refine sm_bipush (6 : Int32) ii_ho_who_1 (by decide) ?_
  refine sm_csI [.int a1, .int (6 : Int32)] [] rfl ii_ho_who_3 ml_ho_81 (mf_ho_isWithin) (mv_ho_isWithin) (Nat.le_of_ble_eq_true rfl) rfl rfl rfl (mc_ho_isWithin (a1) ((6 : Int32)) w) (fun x3 w4 => ?_)
  refine sm_if_ne 11 ii_ho_who_6 (by decide) ?_ ?_
  · refine sm_iconst (-1 : Int32) ii_ho_who_9 (by decide) ?_
    exact sm_iret ii_ho_who_10 rfl
  · refine sm_iconst (0 : Int32) ii_ho_who_11 (by decide) ?_
    refine sm_istore_n [some (.ref 0), some (.int a1), some (.int (0 : Int32)), none] ii_ho_who_12 rfl rfl ?_
    refine sm_iconst (0 : Int32) ii_ho_who_13 (by decide) ?_
    refine sm_istore_n [some (.ref 0), some (.int a1), some (.int (0 : Int32)), some (.int (0 : Int32))] ii_ho_who_14 rfl rfl ?_
    exact ss_ho_who_15 (a1) ((0 : Int32)) ((0 : Int32)) w4
set_option maxHeartbeats 4000000 in
set_option maxRecDepth 100000 in
theorem mc_ho_who {E : Nat × (Nat → Int32)} (a1 : Int32) (w : sm_Mem) : sm_MC E mi_ho_who [.ref 0, .int a1] w (ff_ho_who a1 w) := sm_MC_of E (by decide +kernel) rfl (Nat.le_of_ble_eq_true rfl) (ss_ho_who_0 a1 w)
abbrev mi_ho_undo : sm_MI := (⟨"HerOrders", "undo", "(I)I"⟩, prog_1_method_18_code, 3, (some .int), 4)
set_option maxRecDepth 100000 in
theorem mf_ho_undo : sm_MF mi_ho_undo 1 := ⟨List.mem_of_getElem? (i := 456) (by decide +kernel), List.mem_of_getElem? (i := 69) (by decide +kernel), ⟨by decide, by decide⟩, by decide +kernel⟩
set_option maxRecDepth 100000 in
theorem mv_ho_undo : sm_MFV mi_ho_undo := ⟨List.mem_of_getElem? (i := 454) (by decide +kernel), List.mem_of_getElem? (i := 455) (by decide +kernel)⟩
set_option maxRecDepth 100000 in
theorem ii_ho_undo_0 : sm_D prog_1_method_18_code 0 1 1 (.aload_n 0) := ⟨by decide +kernel, rfl⟩
set_option maxRecDepth 100000 in
theorem ii_ho_undo_1 : sm_D prog_1_method_18_code 1 3 4 (.getfield 31) := ⟨by decide +kernel, rfl⟩
set_option maxRecDepth 100000 in
theorem ii_ho_undo_4 : sm_D prog_1_method_18_code 4 3 7 (.getfield 171) := ⟨by decide +kernel, rfl⟩
set_option maxRecDepth 100000 in
theorem ii_ho_undo_7 : sm_D prog_1_method_18_code 7 3 10 (.getfield 114) := ⟨by decide +kernel, rfl⟩
set_option maxRecDepth 100000 in
theorem ii_ho_undo_10 : sm_D prog_1_method_18_code 10 1 11 (.istore_n 2) := ⟨by decide +kernel, rfl⟩
set_option maxRecDepth 100000 in
theorem ii_ho_undo_11 : sm_D prog_1_method_18_code 11 1 12 (.iload_n 1) := ⟨by decide +kernel, rfl⟩
set_option maxRecDepth 100000 in
theorem ii_ho_undo_12 : sm_D prog_1_method_18_code 12 3 15 (.ifCond .lt 8) := ⟨by decide +kernel, rfl⟩
set_option maxRecDepth 100000 in
theorem ii_ho_undo_15 : sm_D prog_1_method_18_code 15 1 16 (.iload_n 1) := ⟨by decide +kernel, rfl⟩
set_option maxRecDepth 100000 in
theorem ii_ho_undo_16 : sm_D prog_1_method_18_code 16 1 17 (.iload_n 2) := ⟨by decide +kernel, rfl⟩
set_option maxRecDepth 100000 in
theorem ii_ho_undo_17 : sm_D prog_1_method_18_code 17 3 20 (.if_icmp .le 5) := ⟨by decide +kernel, rfl⟩
set_option maxRecDepth 100000 in
theorem ii_ho_undo_20 : sm_D prog_1_method_18_code 20 1 21 (.iconst (-1)) := ⟨by decide +kernel, rfl⟩
set_option maxRecDepth 100000 in
theorem ii_ho_undo_21 : sm_D prog_1_method_18_code 21 1 22 (.ireturn) := ⟨by decide +kernel, rfl⟩
set_option maxRecDepth 100000 in
theorem ii_ho_undo_22 : sm_D prog_1_method_18_code 22 1 23 (.aload_n 0) := ⟨by decide +kernel, rfl⟩
set_option maxRecDepth 100000 in
theorem ii_ho_undo_23 : sm_D prog_1_method_18_code 23 3 26 (.getfield 31) := ⟨by decide +kernel, rfl⟩
set_option maxRecDepth 100000 in
theorem ii_ho_undo_26 : sm_D prog_1_method_18_code 26 1 27 (.iload_n 1) := ⟨by decide +kernel, rfl⟩
set_option maxRecDepth 100000 in
theorem ii_ho_undo_27 : sm_D prog_1_method_18_code 27 3 30 (.invokevirtual 175) := ⟨by decide +kernel, rfl⟩
set_option maxRecDepth 100000 in
theorem ii_ho_undo_30 : sm_D prog_1_method_18_code 30 1 31 (.iload_n 2) := ⟨by decide +kernel, rfl⟩
set_option maxRecDepth 100000 in
theorem ii_ho_undo_31 : sm_D prog_1_method_18_code 31 1 32 (.iload_n 1) := ⟨by decide +kernel, rfl⟩
set_option maxRecDepth 100000 in
theorem ii_ho_undo_32 : sm_D prog_1_method_18_code 32 1 33 (.isub) := ⟨by decide +kernel, rfl⟩
set_option maxRecDepth 100000 in
theorem ii_ho_undo_33 : sm_D prog_1_method_18_code 33 1 34 (.ireturn) := ⟨by decide +kernel, rfl⟩
noncomputable def ff_ho_undo  (a1 : Int32) (w : sm_Mem) : sm_R := (if a1 < (0 : Int32) then (some (.int (-1 : Int32), w)) else (if a1 ≤ (w.1 45 3) then (sm_cV (ff_hs_goBackTo (a1) w) fun w2 => (some (.int ((w.1 45 3) - a1), w2))) else (some (.int (-1 : Int32), w))))
set_option maxHeartbeats 4000000 in
set_option maxRecDepth 100000 in
theorem ss_ho_undo_0 {E : Nat × (Nat → Int32)}  (a1 : Int32) (w : sm_Mem) : sm_Sim E (mi_ho_undo) 0 [some (.ref 0), some (.int a1), none] [] w (ff_ho_undo  a1 w) := by
  unfold ff_ho_undo
  refine sm_aload_n ii_ho_undo_0 rfl ?_
  refine sm_getR 36 ii_ho_undo_1 fl_ho_31 (k := 0) rfl ?_
  refine sm_getR 45 ii_ho_undo_4 fl_ho_171 (k := 36) rfl ?_
  refine sm_getI ii_ho_undo_7 fl_ho_114 (k := 45) rfl ?_
  refine sm_istore_n [some (.ref 0), some (.int a1), some (.int (w.1 45 3))] ii_ho_undo_10 rfl rfl ?_
  refine sm_iload_n ii_ho_undo_11 rfl ?_
  refine sm_if_lt 20 ii_ho_undo_12 (by decide) ?_ ?_
  · refine sm_iconst (-1 : Int32) ii_ho_undo_20 (by decide) ?_
    exact sm_iret ii_ho_undo_21 rfl
  · refine sm_iload_n ii_ho_undo_15 rfl ?_
    refine sm_iload_n ii_ho_undo_16 rfl ?_
    refine sm_icmp_le 22 ii_ho_undo_17 (by decide) ?_ ?_
    · refine sm_aload_n ii_ho_undo_22 rfl ?_
      refine sm_getR 36 ii_ho_undo_23 fl_ho_31 (k := 0) rfl ?_
      refine sm_iload_n ii_ho_undo_26 rfl ?_
      refine sm_cvV [.int a1] [] rfl ii_ho_undo_27 ml_ho_175 (mf_hs_goBackTo) (mv_hs_goBackTo) (Nat.le_of_ble_eq_true rfl) rfl 1 rfl rfl rfl rfl (mc_hs_goBackTo (a1) w) (fun w2 => ?_)
      refine sm_iload_n ii_ho_undo_30 rfl ?_
      refine sm_iload_n ii_ho_undo_31 rfl ?_
      refine sm_isub ii_ho_undo_32 ?_
      exact sm_iret ii_ho_undo_33 rfl
    · refine sm_iconst (-1 : Int32) ii_ho_undo_20 (by decide) ?_
      exact sm_iret ii_ho_undo_21 rfl
set_option maxHeartbeats 4000000 in
set_option maxRecDepth 100000 in
theorem mc_ho_undo {E : Nat × (Nat → Int32)} (a1 : Int32) (w : sm_Mem) : sm_MC E mi_ho_undo [.ref 0, .int a1] w (ff_ho_undo a1 w) := sm_MC_of E (by decide +kernel) rfl (Nat.le_of_ble_eq_true rfl) (ss_ho_undo_0 a1 w)
abbrev mi_ho_row : sm_MI := (⟨"HerOrders", "row", "(II)I"⟩, prog_1_method_2_code, 3, (some .int), 3)
set_option maxRecDepth 100000 in
theorem mf_ho_row : sm_MF mi_ho_row 2 := ⟨List.mem_of_getElem? (i := 327) (by decide +kernel), List.mem_of_getElem? (i := 69) (by decide +kernel), ⟨by decide, by decide⟩, by decide +kernel⟩
set_option maxRecDepth 100000 in
theorem mv_ho_row : sm_MFV mi_ho_row := ⟨List.mem_of_getElem? (i := 325) (by decide +kernel), List.mem_of_getElem? (i := 326) (by decide +kernel)⟩
set_option maxRecDepth 100000 in
theorem ii_ho_row_0 : sm_D prog_1_method_2_code 0 1 1 (.aload_n 0) := ⟨by decide +kernel, rfl⟩
set_option maxRecDepth 100000 in
theorem ii_ho_row_1 : sm_D prog_1_method_2_code 1 1 2 (.aload_n 0) := ⟨by decide +kernel, rfl⟩
set_option maxRecDepth 100000 in
theorem ii_ho_row_2 : sm_D prog_1_method_2_code 2 3 5 (.getfield 11) := ⟨by decide +kernel, rfl⟩
set_option maxRecDepth 100000 in
theorem ii_ho_row_5 : sm_D prog_1_method_2_code 5 1 6 (.iload_n 1) := ⟨by decide +kernel, rfl⟩
set_option maxRecDepth 100000 in
theorem ii_ho_row_6 : sm_D prog_1_method_2_code 6 1 7 (.iload_n 2) := ⟨by decide +kernel, rfl⟩
set_option maxRecDepth 100000 in
theorem ii_ho_row_7 : sm_D prog_1_method_2_code 7 1 8 (.iconst 0) := ⟨by decide +kernel, rfl⟩
set_option maxRecDepth 100000 in
theorem ii_ho_row_8 : sm_D prog_1_method_2_code 8 3 11 (.invokevirtual 58) := ⟨by decide +kernel, rfl⟩
set_option maxRecDepth 100000 in
theorem ii_ho_row_11 : sm_D prog_1_method_2_code 11 1 12 (.ireturn) := ⟨by decide +kernel, rfl⟩
noncomputable def ff_ho_row  (a1 : Int32) (a2 : Int32) (w : sm_Mem) : sm_R := (sm_cI (ff_ho_make (1) (a1) (a2) ((0 : Int32)) w) fun x1 w2 => (some (.int x1, w2)))
set_option maxHeartbeats 4000000 in
set_option maxRecDepth 100000 in
theorem ss_ho_row_0 {E : Nat × (Nat → Int32)}  (a1 : Int32) (a2 : Int32) (w : sm_Mem) : sm_Sim E (mi_ho_row) 0 [some (.ref 0), some (.int a1), some (.int a2)] [] w (ff_ho_row  a1 a2 w) := by
  unfold ff_ho_row
  refine sm_aload_n ii_ho_row_0 rfl ?_
  refine sm_aload_n ii_ho_row_1 rfl ?_
  refine sm_getR 1 ii_ho_row_2 fl_ho_11 (k := 0) rfl ?_
  refine sm_iload_n ii_ho_row_5 rfl ?_
  refine sm_iload_n ii_ho_row_6 rfl ?_
  refine sm_iconst (0 : Int32) ii_ho_row_7 (by decide) ?_
  refine sm_cvI [.ref 1, .int a1, .int a2, .int (0 : Int32)] [] rfl ii_ho_row_8 ml_ho_58 (mf_ho_make) (mv_ho_make) (Nat.le_of_ble_eq_true rfl) rfl 6 rfl rfl rfl rfl (mc_ho_make (1) (a1) (a2) ((0 : Int32)) w) (fun x1 w2 => ?_)
  exact sm_iret ii_ho_row_11 rfl
set_option maxHeartbeats 4000000 in
set_option maxRecDepth 100000 in
theorem mc_ho_row {E : Nat × (Nat → Int32)} (a1 : Int32) (a2 : Int32) (w : sm_Mem) : sm_MC E mi_ho_row [.ref 0, .int a1, .int a2] w (ff_ho_row a1 a2 w) := sm_MC_of E (by decide +kernel) rfl (Nat.le_of_ble_eq_true rfl) (ss_ho_row_0 a1 a2 w)
abbrev mi_ho_lay : sm_MI := (⟨"HerOrders", "lay", "(III)I"⟩, prog_1_method_3_code, 5, (some .int), 4)
set_option maxRecDepth 100000 in
theorem mf_ho_lay : sm_MF mi_ho_lay 3 := ⟨List.mem_of_getElem? (i := 349) (by decide +kernel), List.mem_of_getElem? (i := 69) (by decide +kernel), ⟨by decide, by decide⟩, by decide +kernel⟩
set_option maxRecDepth 100000 in
theorem mv_ho_lay : sm_MFV mi_ho_lay := ⟨List.mem_of_getElem? (i := 347) (by decide +kernel), List.mem_of_getElem? (i := 348) (by decide +kernel)⟩
set_option maxRecDepth 100000 in
theorem ii_ho_lay_0 : sm_D prog_1_method_3_code 0 1 1 (.aload_n 0) := ⟨by decide +kernel, rfl⟩
set_option maxRecDepth 100000 in
theorem ii_ho_lay_1 : sm_D prog_1_method_3_code 1 1 2 (.aload_n 0) := ⟨by decide +kernel, rfl⟩
set_option maxRecDepth 100000 in
theorem ii_ho_lay_2 : sm_D prog_1_method_3_code 2 3 5 (.getfield 11) := ⟨by decide +kernel, rfl⟩
set_option maxRecDepth 100000 in
theorem ii_ho_lay_5 : sm_D prog_1_method_3_code 5 1 6 (.iload_n 1) := ⟨by decide +kernel, rfl⟩
set_option maxRecDepth 100000 in
theorem ii_ho_lay_6 : sm_D prog_1_method_3_code 6 1 7 (.iload_n 2) := ⟨by decide +kernel, rfl⟩
set_option maxRecDepth 100000 in
theorem ii_ho_lay_7 : sm_D prog_1_method_3_code 7 3 10 (.invokevirtual 62) := ⟨by decide +kernel, rfl⟩
set_option maxRecDepth 100000 in
theorem ii_ho_lay_10 : sm_D prog_1_method_3_code 10 2 12 (.istore 4) := ⟨by decide +kernel, rfl⟩
set_option maxRecDepth 100000 in
theorem ii_ho_lay_12 : sm_D prog_1_method_3_code 12 2 14 (.iload 4) := ⟨by decide +kernel, rfl⟩
set_option maxRecDepth 100000 in
theorem ii_ho_lay_14 : sm_D prog_1_method_3_code 14 3 17 (.ifCond .eq 6) := ⟨by decide +kernel, rfl⟩
set_option maxRecDepth 100000 in
theorem ii_ho_lay_17 : sm_D prog_1_method_3_code 17 2 19 (.iload 4) := ⟨by decide +kernel, rfl⟩
set_option maxRecDepth 100000 in
theorem ii_ho_lay_19 : sm_D prog_1_method_3_code 19 1 20 (.ireturn) := ⟨by decide +kernel, rfl⟩
set_option maxRecDepth 100000 in
theorem ii_ho_lay_20 : sm_D prog_1_method_3_code 20 1 21 (.aload_n 0) := ⟨by decide +kernel, rfl⟩
set_option maxRecDepth 100000 in
theorem ii_ho_lay_21 : sm_D prog_1_method_3_code 21 3 24 (.getfield 54) := ⟨by decide +kernel, rfl⟩
set_option maxRecDepth 100000 in
theorem ii_ho_lay_24 : sm_D prog_1_method_3_code 24 1 25 (.aload_n 0) := ⟨by decide +kernel, rfl⟩
set_option maxRecDepth 100000 in
theorem ii_ho_lay_25 : sm_D prog_1_method_3_code 25 3 28 (.getfield 11) := ⟨by decide +kernel, rfl⟩
set_option maxRecDepth 100000 in
theorem ii_ho_lay_28 : sm_D prog_1_method_3_code 28 1 29 (.iload_n 1) := ⟨by decide +kernel, rfl⟩
set_option maxRecDepth 100000 in
theorem ii_ho_lay_29 : sm_D prog_1_method_3_code 29 1 30 (.aaload) := ⟨by decide +kernel, rfl⟩
set_option maxRecDepth 100000 in
theorem ii_ho_lay_30 : sm_D prog_1_method_3_code 30 3 33 (.getfield 66) := ⟨by decide +kernel, rfl⟩
set_option maxRecDepth 100000 in
theorem ii_ho_lay_33 : sm_D prog_1_method_3_code 33 1 34 (.iload_n 2) := ⟨by decide +kernel, rfl⟩
set_option maxRecDepth 100000 in
theorem ii_ho_lay_34 : sm_D prog_1_method_3_code 34 1 35 (.iaload) := ⟨by decide +kernel, rfl⟩
set_option maxRecDepth 100000 in
theorem ii_ho_lay_35 : sm_D prog_1_method_3_code 35 3 38 (.putfield 70) := ⟨by decide +kernel, rfl⟩
set_option maxRecDepth 100000 in
theorem ii_ho_lay_38 : sm_D prog_1_method_3_code 38 1 39 (.aload_n 0) := ⟨by decide +kernel, rfl⟩
set_option maxRecDepth 100000 in
theorem ii_ho_lay_39 : sm_D prog_1_method_3_code 39 3 42 (.getfield 11) := ⟨by decide +kernel, rfl⟩
set_option maxRecDepth 100000 in
theorem ii_ho_lay_42 : sm_D prog_1_method_3_code 42 1 43 (.iload_n 1) := ⟨by decide +kernel, rfl⟩
set_option maxRecDepth 100000 in
theorem ii_ho_lay_43 : sm_D prog_1_method_3_code 43 1 44 (.aaload) := ⟨by decide +kernel, rfl⟩
set_option maxRecDepth 100000 in
theorem ii_ho_lay_44 : sm_D prog_1_method_3_code 44 3 47 (.getfield 66) := ⟨by decide +kernel, rfl⟩
set_option maxRecDepth 100000 in
theorem ii_ho_lay_47 : sm_D prog_1_method_3_code 47 1 48 (.iload_n 2) := ⟨by decide +kernel, rfl⟩
set_option maxRecDepth 100000 in
theorem ii_ho_lay_48 : sm_D prog_1_method_3_code 48 1 49 (.iload_n 3) := ⟨by decide +kernel, rfl⟩
set_option maxRecDepth 100000 in
theorem ii_ho_lay_49 : sm_D prog_1_method_3_code 49 1 50 (.iastore) := ⟨by decide +kernel, rfl⟩
set_option maxRecDepth 100000 in
theorem ii_ho_lay_50 : sm_D prog_1_method_3_code 50 1 51 (.iconst 1) := ⟨by decide +kernel, rfl⟩
set_option maxRecDepth 100000 in
theorem ii_ho_lay_51 : sm_D prog_1_method_3_code 51 1 52 (.ireturn) := ⟨by decide +kernel, rfl⟩
noncomputable def ff_ho_lay  (a1 : Int32) (a2 : Int32) (a3 : Int32) (w : sm_Mem) : sm_R := (sm_cI (ff_ho_refusalOfPlace (1) (a1) (a2) w) fun x1 w2 => (if x1 = (0 : Int32) then (Option.bind (sm_rr 1 a1) fun r3 => (Option.bind (sm_fk r3 2 0 2) fun r4 => (Option.bind (sm_rds w2 r4 a2) fun x5 => (sm_let (sm_wI w2 60 0 x5) fun w6 => (Option.bind (sm_rr 1 a1) fun r7 => (Option.bind (sm_fk r7 2 0 2) fun r8 => (Option.bind (sm_wrs w6 r8 a2 a3) fun w9 => (some (.int (1 : Int32), w9))))))))) else (some (.int x1, w2))))
set_option maxHeartbeats 4000000 in
set_option maxRecDepth 100000 in
theorem ss_ho_lay_0 {E : Nat × (Nat → Int32)}  (a1 : Int32) (a2 : Int32) (a3 : Int32) (w : sm_Mem) : sm_Sim E (mi_ho_lay) 0 [some (.ref 0), some (.int a1), some (.int a2), some (.int a3), none] [] w (ff_ho_lay  a1 a2 a3 w) := by
  unfold ff_ho_lay
  refine sm_aload_n ii_ho_lay_0 rfl ?_
  refine sm_aload_n ii_ho_lay_1 rfl ?_
  refine sm_getR 1 ii_ho_lay_2 fl_ho_11 (k := 0) rfl ?_
  refine sm_iload_n ii_ho_lay_5 rfl ?_
  refine sm_iload_n ii_ho_lay_6 rfl ?_
  refine sm_cvI [.ref 1, .int a1, .int a2] [] rfl ii_ho_lay_7 ml_ho_62 (mf_ho_refusalOfPlace) (mv_ho_refusalOfPlace) (Nat.le_of_ble_eq_true rfl) rfl 6 rfl rfl rfl rfl (mc_ho_refusalOfPlace (1) (a1) (a2) w) (fun x1 w2 => ?_)
  refine sm_istore [some (.ref 0), some (.int a1), some (.int a2), some (.int a3), some (.int x1)] ii_ho_lay_10 rfl rfl ?_
  refine sm_iload ii_ho_lay_12 rfl ?_
  refine sm_if_eq 20 ii_ho_lay_14 (by decide) ?_ ?_
  · refine sm_aload_n ii_ho_lay_20 rfl ?_
    refine sm_getR 60 ii_ho_lay_21 fl_ho_54 (k := 0) rfl ?_
    refine sm_aload_n ii_ho_lay_24 rfl ?_
    refine sm_getR 1 ii_ho_lay_25 fl_ho_11 (k := 0) rfl ?_
    refine sm_iload_n ii_ho_lay_28 rfl ?_
    refine sm_aald ii_ho_lay_29 (fun r3 => ?_)
    refine sm_getRs ii_ho_lay_30 fl_ho_66 (fun r4 => ?_)
    refine sm_iload_n ii_ho_lay_33 rfl ?_
    refine sm_ialds ii_ho_lay_34 (fun x5 => ?_)
    refine sm_putI ii_ho_lay_35 fp_ho_70 (k := 60) rfl (fun w6 => ?_)
    refine sm_aload_n ii_ho_lay_38 rfl ?_
    refine sm_getR 1 ii_ho_lay_39 fl_ho_11 (k := 0) rfl ?_
    refine sm_iload_n ii_ho_lay_42 rfl ?_
    refine sm_aald ii_ho_lay_43 (fun r7 => ?_)
    refine sm_getRs ii_ho_lay_44 fl_ho_66 (fun r8 => ?_)
    refine sm_iload_n ii_ho_lay_47 rfl ?_
    refine sm_iload_n ii_ho_lay_48 rfl ?_
    refine sm_iasts ii_ho_lay_49 (fun w9 => ?_)
    refine sm_iconst (1 : Int32) ii_ho_lay_50 (by decide) ?_
    exact sm_iret ii_ho_lay_51 rfl
  · refine sm_iload ii_ho_lay_17 rfl ?_
    exact sm_iret ii_ho_lay_19 rfl
set_option maxHeartbeats 4000000 in
set_option maxRecDepth 100000 in
theorem mc_ho_lay {E : Nat × (Nat → Int32)} (a1 : Int32) (a2 : Int32) (a3 : Int32) (w : sm_Mem) : sm_MC E mi_ho_lay [.ref 0, .int a1, .int a2, .int a3] w (ff_ho_lay a1 a2 a3 w) := sm_MC_of E (by decide +kernel) rfl (Nat.le_of_ble_eq_true rfl) (ss_ho_lay_0 a1 a2 a3 w)
abbrev mi_rw_isOfWords : sm_MI := (⟨"HerOrders$Row", "isOfWords", "()Z"⟩, prog_4_method_7_code, 2, (some .boolean), 2)
set_option maxRecDepth 100000 in
theorem mf_rw_isOfWords : sm_MF mi_rw_isOfWords 0 := ⟨List.mem_of_getElem? (i := 502) (by decide +kernel), List.mem_of_getElem? (i := 70) (by decide +kernel), ⟨by decide, by decide⟩, by decide +kernel⟩
set_option maxRecDepth 100000 in
theorem mv_rw_isOfWords : sm_MFV mi_rw_isOfWords := ⟨List.mem_of_getElem? (i := 501) (by decide +kernel), List.mem_of_getElem? (i := 22) (by decide +kernel)⟩
set_option maxRecDepth 100000 in
theorem ii_rw_isOfWords_0 : sm_D prog_4_method_7_code 0 1 1 (.iconst 0) := ⟨by decide +kernel, rfl⟩
set_option maxRecDepth 100000 in
theorem ii_rw_isOfWords_1 : sm_D prog_4_method_7_code 1 1 2 (.istore_n 1) := ⟨by decide +kernel, rfl⟩
set_option maxRecDepth 100000 in
theorem ii_rw_isOfWords_2 : sm_D prog_4_method_7_code 2 1 3 (.iload_n 1) := ⟨by decide +kernel, rfl⟩
set_option maxRecDepth 100000 in
theorem ii_rw_isOfWords_3 : sm_D prog_4_method_7_code 3 1 4 (.aload_n 0) := ⟨by decide +kernel, rfl⟩
set_option maxRecDepth 100000 in
theorem ii_rw_isOfWords_4 : sm_D prog_4_method_7_code 4 3 7 (.getfield 21) := ⟨by decide +kernel, rfl⟩
set_option maxRecDepth 100000 in
theorem ii_rw_isOfWords_7 : sm_D prog_4_method_7_code 7 3 10 (.if_icmp .ge 25) := ⟨by decide +kernel, rfl⟩
set_option maxRecDepth 100000 in
theorem ii_rw_isOfWords_10 : sm_D prog_4_method_7_code 10 1 11 (.aload_n 0) := ⟨by decide +kernel, rfl⟩
set_option maxRecDepth 100000 in
theorem ii_rw_isOfWords_11 : sm_D prog_4_method_7_code 11 3 14 (.getfield 15) := ⟨by decide +kernel, rfl⟩
set_option maxRecDepth 100000 in
theorem ii_rw_isOfWords_14 : sm_D prog_4_method_7_code 14 1 15 (.iload_n 1) := ⟨by decide +kernel, rfl⟩
set_option maxRecDepth 100000 in
theorem ii_rw_isOfWords_15 : sm_D prog_4_method_7_code 15 1 16 (.iaload) := ⟨by decide +kernel, rfl⟩
set_option maxRecDepth 100000 in
theorem ii_rw_isOfWords_16 : sm_D prog_4_method_7_code 16 2 18 (.bipush 6) := ⟨by decide +kernel, rfl⟩
set_option maxRecDepth 100000 in
theorem ii_rw_isOfWords_18 : sm_D prog_4_method_7_code 18 3 21 (.invokestatic 32) := ⟨by decide +kernel, rfl⟩
set_option maxRecDepth 100000 in
theorem ii_rw_isOfWords_21 : sm_D prog_4_method_7_code 21 3 24 (.ifCond .ne 5) := ⟨by decide +kernel, rfl⟩
set_option maxRecDepth 100000 in
theorem ii_rw_isOfWords_24 : sm_D prog_4_method_7_code 24 1 25 (.iconst 0) := ⟨by decide +kernel, rfl⟩
set_option maxRecDepth 100000 in
theorem ii_rw_isOfWords_25 : sm_D prog_4_method_7_code 25 1 26 (.ireturn) := ⟨by decide +kernel, rfl⟩
set_option maxRecDepth 100000 in
theorem ii_rw_isOfWords_26 : sm_D prog_4_method_7_code 26 3 29 (.iinc 1 1) := ⟨by decide +kernel, rfl⟩
set_option maxRecDepth 100000 in
theorem ii_rw_isOfWords_29 : sm_D prog_4_method_7_code 29 3 32 (.goto (-27)) := ⟨by decide +kernel, rfl⟩
set_option maxRecDepth 100000 in
theorem ii_rw_isOfWords_32 : sm_D prog_4_method_7_code 32 1 33 (.iconst 1) := ⟨by decide +kernel, rfl⟩
set_option maxRecDepth 100000 in
theorem ii_rw_isOfWords_33 : sm_D prog_4_method_7_code 33 1 34 (.ireturn) := ⟨by decide +kernel, rfl⟩
noncomputable def ff_rw_isOfWords_2_b  (self2 : Nat → Int32 → sm_Mem → sm_R) (a0 : Nat) (a1 : Int32) (w : sm_Mem) : sm_R := (Option.bind (sm_gI w a0 2 1) fun x1 => (if x1 ≤ a1 then (some (.int (1 : Int32), w)) else (Option.bind (sm_fk a0 2 0 2) fun r2 => (Option.bind (sm_rds w r2 a1) fun x3 => (sm_cI (ff_ho_isWithin (x3) ((6 : Int32)) w) fun x4 w5 => (if x4 = (0 : Int32) then (some (.int (0 : Int32), w5)) else self2 (a0) ((a1 + (1 : Int32))) w5))))))
noncomputable def ff_rw_isOfWords_2_f  : Nat → Nat → Int32 → sm_Mem → sm_R
  | 0, _, _, _ => none
  | n + 1, a0, a1, w => ff_rw_isOfWords_2_b  (ff_rw_isOfWords_2_f  n) a0 a1 w
noncomputable def ff_rw_isOfWords_2  (a0 : Nat) (a1 : Int32) (w : sm_Mem) : sm_R := ff_rw_isOfWords_2_f  sm_N a0 a1 w
set_option maxHeartbeats 4000000 in
set_option maxRecDepth 100000 in
theorem ss_rw_isOfWords_2_b {E : Nat × (Nat → Int32)}  (self2 : Nat → Int32 → sm_Mem → sm_R) (hself2 : ∀ (a0 : Nat) (a1 : Int32) (w : sm_Mem), sm_Sim E (mi_rw_isOfWords) 2 [some (.ref a0), some (.int a1)] [] w (self2 a0 a1 w)) (a0 : Nat) (a1 : Int32) (w : sm_Mem) : sm_Sim E (mi_rw_isOfWords) 2 [some (.ref a0), some (.int a1)] [] w (ff_rw_isOfWords_2_b  self2 a0 a1 w) := by
  unfold ff_rw_isOfWords_2_b
  refine sm_iload_n ii_rw_isOfWords_2 rfl ?_
  refine sm_aload_n ii_rw_isOfWords_3 rfl ?_
  refine sm_getIs ii_rw_isOfWords_4 fl_rw_21 (fun x1 => ?_)
  refine sm_icmp_ge 32 ii_rw_isOfWords_7 (by decide) ?_ ?_
  · refine sm_iconst (1 : Int32) ii_rw_isOfWords_32 (by decide) ?_
    exact sm_zret1 ii_rw_isOfWords_33 rfl (by decide)
  · refine sm_aload_n ii_rw_isOfWords_10 rfl ?_
    refine sm_getRs ii_rw_isOfWords_11 fl_rw_15 (fun r2 => ?_)
    refine sm_iload_n ii_rw_isOfWords_14 rfl ?_
    refine sm_ialds ii_rw_isOfWords_15 (fun x3 => ?_)
    refine sm_bipush (6 : Int32) ii_rw_isOfWords_16 (by decide) ?_
    refine sm_csI [.int x3, .int (6 : Int32)] [] rfl ii_rw_isOfWords_18 ml_rw_32 (mf_ho_isWithin) (mv_ho_isWithin) (Nat.le_of_ble_eq_true rfl) rfl rfl rfl (mc_ho_isWithin (x3) ((6 : Int32)) w) (fun x4 w5 => ?_)
    refine sm_if_ne 26 ii_rw_isOfWords_21 (by decide) ?_ ?_
    · refine sm_iconst (0 : Int32) ii_rw_isOfWords_24 (by decide) ?_
      exact sm_zret1 ii_rw_isOfWords_25 rfl (by decide)
    · refine sm_iinc (a1 + (1 : Int32)) [some (.ref a0), some (.int (a1 + (1 : Int32)))] ii_rw_isOfWords_26 rfl rfl rfl rfl ?_
      refine sm_goto 2 ii_rw_isOfWords_29 (by decide) ?_
      exact hself2 (a0) ((a1 + (1 : Int32))) w5
set_option maxHeartbeats 4000000 in
set_option maxRecDepth 100000 in
theorem ss_rw_isOfWords_2_f {E : Nat × (Nat → Int32)}  : ∀ (n : Nat) (a0 : Nat) (a1 : Int32) (w : sm_Mem), sm_Sim E (mi_rw_isOfWords) 2 [some (.ref a0), some (.int a1)] [] w (ff_rw_isOfWords_2_f  n a0 a1 w)
  | 0, _, _, _ => fun _ _ h => by cases h
  | n + 1, a0, a1, w => ss_rw_isOfWords_2_b  _ (ss_rw_isOfWords_2_f  n) a0 a1 w
set_option maxHeartbeats 4000000 in
set_option maxRecDepth 100000 in
theorem ss_rw_isOfWords_2 {E : Nat × (Nat → Int32)}  (a0 : Nat) (a1 : Int32) (w : sm_Mem) : sm_Sim E (mi_rw_isOfWords) 2 [some (.ref a0), some (.int a1)] [] w (ff_rw_isOfWords_2  a0 a1 w) := ss_rw_isOfWords_2_f  sm_N a0 a1 w
noncomputable def ff_rw_isOfWords  (a0 : Nat) (w : sm_Mem) : sm_R := ff_rw_isOfWords_2 (a0) ((0 : Int32)) w
set_option maxHeartbeats 4000000 in
set_option maxRecDepth 100000 in
theorem ss_rw_isOfWords_0 {E : Nat × (Nat → Int32)}  (a0 : Nat) (w : sm_Mem) : sm_Sim E (mi_rw_isOfWords) 0 [some (.ref a0), none] [] w (ff_rw_isOfWords  a0 w) := by
  unfold ff_rw_isOfWords
  refine sm_iconst (0 : Int32) ii_rw_isOfWords_0 (by decide) ?_
  refine sm_istore_n [some (.ref a0), some (.int (0 : Int32))] ii_rw_isOfWords_1 rfl rfl ?_
  exact ss_rw_isOfWords_2 (a0) ((0 : Int32)) w
set_option maxHeartbeats 4000000 in
set_option maxRecDepth 100000 in
theorem mc_rw_isOfWords {E : Nat × (Nat → Int32)} (a0 : Nat) (w : sm_Mem) : sm_MC E mi_rw_isOfWords [.ref a0] w (ff_rw_isOfWords a0 w) := sm_MC_of E (by decide +kernel) rfl (Nat.le_of_ble_eq_true rfl) (ss_rw_isOfWords_0 a0 w)
abbrev mi_ho_refusalOfWords : sm_MI := (⟨"HerOrders", "refusalOfWords", "(II)I"⟩, prog_1_method_50_code, 3, (some .int), 3)
set_option maxRecDepth 100000 in
theorem mf_ho_refusalOfWords : sm_MF mi_ho_refusalOfWords 2 := ⟨List.mem_of_getElem? (i := 498) (by decide +kernel), List.mem_of_getElem? (i := 69) (by decide +kernel), ⟨by decide, by decide⟩, by decide +kernel⟩
set_option maxRecDepth 100000 in
theorem mv_ho_refusalOfWords : sm_MFV mi_ho_refusalOfWords := ⟨List.mem_of_getElem? (i := 497) (by decide +kernel), List.mem_of_getElem? (i := 21) (by decide +kernel)⟩
set_option maxRecDepth 100000 in
theorem ii_ho_refusalOfWords_0 : sm_D prog_1_method_50_code 0 1 1 (.iload_n 1) := ⟨by decide +kernel, rfl⟩
set_option maxRecDepth 100000 in
theorem ii_ho_refusalOfWords_1 : sm_D prog_1_method_50_code 1 2 3 (.bipush 6) := ⟨by decide +kernel, rfl⟩
set_option maxRecDepth 100000 in
theorem ii_ho_refusalOfWords_3 : sm_D prog_1_method_50_code 3 3 6 (.invokestatic 81) := ⟨by decide +kernel, rfl⟩
set_option maxRecDepth 100000 in
theorem ii_ho_refusalOfWords_6 : sm_D prog_1_method_50_code 6 3 9 (.ifCond .ne 5) := ⟨by decide +kernel, rfl⟩
set_option maxRecDepth 100000 in
theorem ii_ho_refusalOfWords_9 : sm_D prog_1_method_50_code 9 1 10 (.iconst (-1)) := ⟨by decide +kernel, rfl⟩
set_option maxRecDepth 100000 in
theorem ii_ho_refusalOfWords_10 : sm_D prog_1_method_50_code 10 1 11 (.ireturn) := ⟨by decide +kernel, rfl⟩
set_option maxRecDepth 100000 in
theorem ii_ho_refusalOfWords_11 : sm_D prog_1_method_50_code 11 1 12 (.aload_n 0) := ⟨by decide +kernel, rfl⟩
set_option maxRecDepth 100000 in
theorem ii_ho_refusalOfWords_12 : sm_D prog_1_method_50_code 12 3 15 (.getfield 31) := ⟨by decide +kernel, rfl⟩
set_option maxRecDepth 100000 in
theorem ii_ho_refusalOfWords_15 : sm_D prog_1_method_50_code 15 3 18 (.getfield 115) := ⟨by decide +kernel, rfl⟩
set_option maxRecDepth 100000 in
theorem ii_ho_refusalOfWords_18 : sm_D prog_1_method_50_code 18 3 21 (.ifCond .ne 6) := ⟨by decide +kernel, rfl⟩
set_option maxRecDepth 100000 in
theorem ii_ho_refusalOfWords_21 : sm_D prog_1_method_50_code 21 2 23 (.bipush (-4)) := ⟨by decide +kernel, rfl⟩
set_option maxRecDepth 100000 in
theorem ii_ho_refusalOfWords_23 : sm_D prog_1_method_50_code 23 1 24 (.ireturn) := ⟨by decide +kernel, rfl⟩
set_option maxRecDepth 100000 in
theorem ii_ho_refusalOfWords_24 : sm_D prog_1_method_50_code 24 1 25 (.aload_n 0) := ⟨by decide +kernel, rfl⟩
set_option maxRecDepth 100000 in
theorem ii_ho_refusalOfWords_25 : sm_D prog_1_method_50_code 25 3 28 (.getfield 11) := ⟨by decide +kernel, rfl⟩
set_option maxRecDepth 100000 in
theorem ii_ho_refusalOfWords_28 : sm_D prog_1_method_50_code 28 1 29 (.iload_n 1) := ⟨by decide +kernel, rfl⟩
set_option maxRecDepth 100000 in
theorem ii_ho_refusalOfWords_29 : sm_D prog_1_method_50_code 29 1 30 (.aaload) := ⟨by decide +kernel, rfl⟩
set_option maxRecDepth 100000 in
theorem ii_ho_refusalOfWords_30 : sm_D prog_1_method_50_code 30 3 33 (.invokevirtual 89) := ⟨by decide +kernel, rfl⟩
set_option maxRecDepth 100000 in
theorem ii_ho_refusalOfWords_33 : sm_D prog_1_method_50_code 33 3 36 (.ifCond .eq 12) := ⟨by decide +kernel, rfl⟩
set_option maxRecDepth 100000 in
theorem ii_ho_refusalOfWords_36 : sm_D prog_1_method_50_code 36 1 37 (.aload_n 0) := ⟨by decide +kernel, rfl⟩
set_option maxRecDepth 100000 in
theorem ii_ho_refusalOfWords_37 : sm_D prog_1_method_50_code 37 3 40 (.getfield 54) := ⟨by decide +kernel, rfl⟩
set_option maxRecDepth 100000 in
theorem ii_ho_refusalOfWords_40 : sm_D prog_1_method_50_code 40 1 41 (.iconst 1) := ⟨by decide +kernel, rfl⟩
set_option maxRecDepth 100000 in
theorem ii_ho_refusalOfWords_41 : sm_D prog_1_method_50_code 41 3 44 (.invokevirtual 85) := ⟨by decide +kernel, rfl⟩
set_option maxRecDepth 100000 in
theorem ii_ho_refusalOfWords_44 : sm_D prog_1_method_50_code 44 1 45 (.ireturn) := ⟨by decide +kernel, rfl⟩
set_option maxRecDepth 100000 in
theorem ii_ho_refusalOfWords_45 : sm_D prog_1_method_50_code 45 1 46 (.aload_n 0) := ⟨by decide +kernel, rfl⟩
set_option maxRecDepth 100000 in
theorem ii_ho_refusalOfWords_46 : sm_D prog_1_method_50_code 46 3 49 (.getfield 11) := ⟨by decide +kernel, rfl⟩
set_option maxRecDepth 100000 in
theorem ii_ho_refusalOfWords_49 : sm_D prog_1_method_50_code 49 1 50 (.iload_n 1) := ⟨by decide +kernel, rfl⟩
set_option maxRecDepth 100000 in
theorem ii_ho_refusalOfWords_50 : sm_D prog_1_method_50_code 50 1 51 (.aaload) := ⟨by decide +kernel, rfl⟩
set_option maxRecDepth 100000 in
theorem ii_ho_refusalOfWords_51 : sm_D prog_1_method_50_code 51 3 54 (.getfield 78) := ⟨by decide +kernel, rfl⟩
set_option maxRecDepth 100000 in
theorem ii_ho_refusalOfWords_54 : sm_D prog_1_method_50_code 54 1 55 (.iload_n 2) := ⟨by decide +kernel, rfl⟩
set_option maxRecDepth 100000 in
theorem ii_ho_refusalOfWords_55 : sm_D prog_1_method_50_code 55 3 58 (.if_icmp .le 12) := ⟨by decide +kernel, rfl⟩
set_option maxRecDepth 100000 in
theorem ii_ho_refusalOfWords_58 : sm_D prog_1_method_50_code 58 1 59 (.aload_n 0) := ⟨by decide +kernel, rfl⟩
set_option maxRecDepth 100000 in
theorem ii_ho_refusalOfWords_59 : sm_D prog_1_method_50_code 59 3 62 (.getfield 54) := ⟨by decide +kernel, rfl⟩
set_option maxRecDepth 100000 in
theorem ii_ho_refusalOfWords_62 : sm_D prog_1_method_50_code 62 1 63 (.iconst 5) := ⟨by decide +kernel, rfl⟩
set_option maxRecDepth 100000 in
theorem ii_ho_refusalOfWords_63 : sm_D prog_1_method_50_code 63 3 66 (.invokevirtual 85) := ⟨by decide +kernel, rfl⟩
set_option maxRecDepth 100000 in
theorem ii_ho_refusalOfWords_66 : sm_D prog_1_method_50_code 66 1 67 (.ireturn) := ⟨by decide +kernel, rfl⟩
set_option maxRecDepth 100000 in
theorem ii_ho_refusalOfWords_67 : sm_D prog_1_method_50_code 67 1 68 (.aload_n 0) := ⟨by decide +kernel, rfl⟩
set_option maxRecDepth 100000 in
theorem ii_ho_refusalOfWords_68 : sm_D prog_1_method_50_code 68 3 71 (.getfield 11) := ⟨by decide +kernel, rfl⟩
set_option maxRecDepth 100000 in
theorem ii_ho_refusalOfWords_71 : sm_D prog_1_method_50_code 71 1 72 (.iload_n 1) := ⟨by decide +kernel, rfl⟩
set_option maxRecDepth 100000 in
theorem ii_ho_refusalOfWords_72 : sm_D prog_1_method_50_code 72 1 73 (.aaload) := ⟨by decide +kernel, rfl⟩
set_option maxRecDepth 100000 in
theorem ii_ho_refusalOfWords_73 : sm_D prog_1_method_50_code 73 3 76 (.invokevirtual 325) := ⟨by decide +kernel, rfl⟩
set_option maxRecDepth 100000 in
theorem ii_ho_refusalOfWords_76 : sm_D prog_1_method_50_code 76 3 79 (.ifCond .eq 7) := ⟨by decide +kernel, rfl⟩
set_option maxRecDepth 100000 in
theorem ii_ho_refusalOfWords_79 : sm_D prog_1_method_50_code 79 1 80 (.iconst 0) := ⟨by decide +kernel, rfl⟩
set_option maxRecDepth 100000 in
theorem ii_ho_refusalOfWords_80 : sm_D prog_1_method_50_code 80 3 83 (.goto 11) := ⟨by decide +kernel, rfl⟩
set_option maxRecDepth 100000 in
theorem ii_ho_refusalOfWords_83 : sm_D prog_1_method_50_code 83 1 84 (.aload_n 0) := ⟨by decide +kernel, rfl⟩
set_option maxRecDepth 100000 in
theorem ii_ho_refusalOfWords_84 : sm_D prog_1_method_50_code 84 3 87 (.getfield 54) := ⟨by decide +kernel, rfl⟩
set_option maxRecDepth 100000 in
theorem ii_ho_refusalOfWords_87 : sm_D prog_1_method_50_code 87 1 88 (.iconst 3) := ⟨by decide +kernel, rfl⟩
set_option maxRecDepth 100000 in
theorem ii_ho_refusalOfWords_88 : sm_D prog_1_method_50_code 88 3 91 (.invokevirtual 85) := ⟨by decide +kernel, rfl⟩
set_option maxRecDepth 100000 in
theorem ii_ho_refusalOfWords_91 : sm_D prog_1_method_50_code 91 1 92 (.ireturn) := ⟨by decide +kernel, rfl⟩
noncomputable def ff_ho_refusalOfWords  (a1 : Int32) (a2 : Int32) (w : sm_Mem) : sm_R := (sm_cI (ff_ho_isWithin (a1) ((6 : Int32)) w) fun x1 w2 => (if x1 = (0 : Int32) then (some (.int (-1 : Int32), w2)) else (if (w2.1 36 0) = (0 : Int32) then (some (.int (-4 : Int32), w2)) else (Option.bind (sm_rr 1 a1) fun r3 => (sm_cI (sm_rc r3 2 (ff_rw_isMissing (r3) w2)) fun x4 w5 => (if x4 = (0 : Int32) then (Option.bind (sm_rr 1 a1) fun r6 => (Option.bind (sm_gI w5 r6 2 1) fun x7 => (if x7 ≤ a2 then (Option.bind (sm_rr 1 a1) fun r8 => (sm_cI (sm_rc r8 2 (ff_rw_isOfWords (r8) w5)) fun x9 w10 => (if x9 = (0 : Int32) then (sm_cI (ff_td_refuse ((3 : Int32)) w10) fun x11 w12 => (some (.int x11, w12))) else (some (.int (0 : Int32), w10))))) else (sm_cI (ff_td_refuse ((5 : Int32)) w5) fun x13 w14 => (some (.int x13, w14)))))) else (sm_cI (ff_td_refuse ((1 : Int32)) w5) fun x15 w16 => (some (.int x15, w16)))))))))
set_option maxHeartbeats 4000000 in
set_option maxRecDepth 100000 in
theorem ss_ho_refusalOfWords_0 {E : Nat × (Nat → Int32)}  (a1 : Int32) (a2 : Int32) (w : sm_Mem) : sm_Sim E (mi_ho_refusalOfWords) 0 [some (.ref 0), some (.int a1), some (.int a2)] [] w (ff_ho_refusalOfWords  a1 a2 w) := by
  unfold ff_ho_refusalOfWords
  refine sm_iload_n ii_ho_refusalOfWords_0 rfl ?_
  refine sm_bipush (6 : Int32) ii_ho_refusalOfWords_1 (by decide) ?_
  refine sm_csI [.int a1, .int (6 : Int32)] [] rfl ii_ho_refusalOfWords_3 ml_ho_81 (mf_ho_isWithin) (mv_ho_isWithin) (Nat.le_of_ble_eq_true rfl) rfl rfl rfl (mc_ho_isWithin (a1) ((6 : Int32)) w) (fun x1 w2 => ?_)
  refine sm_if_ne 11 ii_ho_refusalOfWords_6 (by decide) ?_ ?_
  · refine sm_iconst (-1 : Int32) ii_ho_refusalOfWords_9 (by decide) ?_
    exact sm_iret ii_ho_refusalOfWords_10 rfl
  · refine sm_aload_n ii_ho_refusalOfWords_11 rfl ?_
    refine sm_getR 36 ii_ho_refusalOfWords_12 fl_ho_31 (k := 0) rfl ?_
    refine sm_getI ii_ho_refusalOfWords_15 fl_ho_115 (k := 36) rfl ?_
    refine sm_if_ne 24 ii_ho_refusalOfWords_18 (by decide) ?_ ?_
    · refine sm_bipush (-4 : Int32) ii_ho_refusalOfWords_21 (by decide) ?_
      exact sm_iret ii_ho_refusalOfWords_23 rfl
    · refine sm_aload_n ii_ho_refusalOfWords_24 rfl ?_
      refine sm_getR 1 ii_ho_refusalOfWords_25 fl_ho_11 (k := 0) rfl ?_
      refine sm_iload_n ii_ho_refusalOfWords_28 rfl ?_
      refine sm_aald ii_ho_refusalOfWords_29 (fun r3 => ?_)
      refine sm_dvI [] [] rfl ii_ho_refusalOfWords_30 ml_ho_89 (mf_rw_isMissing) (mv_rw_isMissing) (Nat.le_of_ble_eq_true rfl) rfl 2 rfl rfl rfl (mc_rw_isMissing (r3) w2) (fun x4 w5 => ?_)
      refine sm_if_eq 45 ii_ho_refusalOfWords_33 (by decide) ?_ ?_
      · refine sm_aload_n ii_ho_refusalOfWords_45 rfl ?_
        refine sm_getR 1 ii_ho_refusalOfWords_46 fl_ho_11 (k := 0) rfl ?_
        refine sm_iload_n ii_ho_refusalOfWords_49 rfl ?_
        refine sm_aald ii_ho_refusalOfWords_50 (fun r6 => ?_)
        refine sm_getIs ii_ho_refusalOfWords_51 fl_ho_78 (fun x7 => ?_)
        refine sm_iload_n ii_ho_refusalOfWords_54 rfl ?_
        refine sm_icmp_le 67 ii_ho_refusalOfWords_55 (by decide) ?_ ?_
        · refine sm_aload_n ii_ho_refusalOfWords_67 rfl ?_
          refine sm_getR 1 ii_ho_refusalOfWords_68 fl_ho_11 (k := 0) rfl ?_
          refine sm_iload_n ii_ho_refusalOfWords_71 rfl ?_
          refine sm_aald ii_ho_refusalOfWords_72 (fun r8 => ?_)
          refine sm_dvI [] [] rfl ii_ho_refusalOfWords_73 ml_ho_325 (mf_rw_isOfWords) (mv_rw_isOfWords) (Nat.le_of_ble_eq_true rfl) rfl 2 rfl rfl rfl (mc_rw_isOfWords (r8) w5) (fun x9 w10 => ?_)
          refine sm_if_eq 83 ii_ho_refusalOfWords_76 (by decide) ?_ ?_
          · refine sm_aload_n ii_ho_refusalOfWords_83 rfl ?_
            refine sm_getR 60 ii_ho_refusalOfWords_84 fl_ho_54 (k := 0) rfl ?_
            refine sm_iconst (3 : Int32) ii_ho_refusalOfWords_87 (by decide) ?_
            refine sm_cvI [.int (3 : Int32)] [] rfl ii_ho_refusalOfWords_88 ml_ho_85 (mf_td_refuse) (mv_td_refuse) (Nat.le_of_ble_eq_true rfl) rfl 3 rfl rfl rfl rfl (mc_td_refuse ((3 : Int32)) w10) (fun x11 w12 => ?_)
            exact sm_iret ii_ho_refusalOfWords_91 rfl
          · refine sm_iconst (0 : Int32) ii_ho_refusalOfWords_79 (by decide) ?_
            refine sm_goto 91 ii_ho_refusalOfWords_80 (by decide) ?_
            exact sm_iret ii_ho_refusalOfWords_91 rfl
        · refine sm_aload_n ii_ho_refusalOfWords_58 rfl ?_
          refine sm_getR 60 ii_ho_refusalOfWords_59 fl_ho_54 (k := 0) rfl ?_
          refine sm_iconst (5 : Int32) ii_ho_refusalOfWords_62 (by decide) ?_
          refine sm_cvI [.int (5 : Int32)] [] rfl ii_ho_refusalOfWords_63 ml_ho_85 (mf_td_refuse) (mv_td_refuse) (Nat.le_of_ble_eq_true rfl) rfl 3 rfl rfl rfl rfl (mc_td_refuse ((5 : Int32)) w5) (fun x13 w14 => ?_)
          exact sm_iret ii_ho_refusalOfWords_66 rfl
      · refine sm_aload_n ii_ho_refusalOfWords_36 rfl ?_
        refine sm_getR 60 ii_ho_refusalOfWords_37 fl_ho_54 (k := 0) rfl ?_
        refine sm_iconst (1 : Int32) ii_ho_refusalOfWords_40 (by decide) ?_
        refine sm_cvI [.int (1 : Int32)] [] rfl ii_ho_refusalOfWords_41 ml_ho_85 (mf_td_refuse) (mv_td_refuse) (Nat.le_of_ble_eq_true rfl) rfl 3 rfl rfl rfl rfl (mc_td_refuse ((1 : Int32)) w5) (fun x15 w16 => ?_)
        exact sm_iret ii_ho_refusalOfWords_44 rfl
set_option maxHeartbeats 4000000 in
set_option maxRecDepth 100000 in
theorem mc_ho_refusalOfWords {E : Nat × (Nat → Int32)} (a1 : Int32) (a2 : Int32) (w : sm_Mem) : sm_MC E mi_ho_refusalOfWords [.ref 0, .int a1, .int a2] w (ff_ho_refusalOfWords a1 a2 w) := sm_MC_of E (by decide +kernel) rfl (Nat.le_of_ble_eq_true rfl) (ss_ho_refusalOfWords_0 a1 a2 w)
abbrev mi_wy_clear : sm_MI := (⟨"HerOrders$Ways", "clear", "(I)V"⟩, prog_7_method_4_code, 3, none, 1)
set_option maxRecDepth 100000 in
theorem mf_wy_clear : sm_MF mi_wy_clear 1 := ⟨List.mem_of_getElem? (i := 513) (by decide +kernel), List.mem_of_getElem? (i := 74) (by decide +kernel), ⟨by decide, by decide⟩, by decide +kernel⟩
set_option maxRecDepth 100000 in
theorem mv_wy_clear : sm_MFV mi_wy_clear := ⟨List.mem_of_getElem? (i := 512) (by decide +kernel), List.mem_of_getElem? (i := 24) (by decide +kernel)⟩
set_option maxRecDepth 100000 in
theorem ii_wy_clear_0 : sm_D prog_7_method_4_code 0 1 1 (.aload_n 0) := ⟨by decide +kernel, rfl⟩
set_option maxRecDepth 100000 in
theorem ii_wy_clear_1 : sm_D prog_7_method_4_code 1 1 2 (.iload_n 1) := ⟨by decide +kernel, rfl⟩
set_option maxRecDepth 100000 in
theorem ii_wy_clear_2 : sm_D prog_7_method_4_code 2 3 5 (.putfield 63) := ⟨by decide +kernel, rfl⟩
set_option maxRecDepth 100000 in
theorem ii_wy_clear_5 : sm_D prog_7_method_4_code 5 1 6 (.iconst 0) := ⟨by decide +kernel, rfl⟩
set_option maxRecDepth 100000 in
theorem ii_wy_clear_6 : sm_D prog_7_method_4_code 6 1 7 (.istore_n 2) := ⟨by decide +kernel, rfl⟩
set_option maxRecDepth 100000 in
theorem ii_wy_clear_7 : sm_D prog_7_method_4_code 7 1 8 (.iload_n 2) := ⟨by decide +kernel, rfl⟩
set_option maxRecDepth 100000 in
theorem ii_wy_clear_8 : sm_D prog_7_method_4_code 8 1 9 (.iconst 5) := ⟨by decide +kernel, rfl⟩
set_option maxRecDepth 100000 in
theorem ii_wy_clear_9 : sm_D prog_7_method_4_code 9 3 12 (.if_icmp .gt 16) := ⟨by decide +kernel, rfl⟩
set_option maxRecDepth 100000 in
theorem ii_wy_clear_12 : sm_D prog_7_method_4_code 12 1 13 (.aload_n 0) := ⟨by decide +kernel, rfl⟩
set_option maxRecDepth 100000 in
theorem ii_wy_clear_13 : sm_D prog_7_method_4_code 13 3 16 (.getfield 25) := ⟨by decide +kernel, rfl⟩
set_option maxRecDepth 100000 in
theorem ii_wy_clear_16 : sm_D prog_7_method_4_code 16 1 17 (.iload_n 2) := ⟨by decide +kernel, rfl⟩
set_option maxRecDepth 100000 in
theorem ii_wy_clear_17 : sm_D prog_7_method_4_code 17 1 18 (.iconst 0) := ⟨by decide +kernel, rfl⟩
set_option maxRecDepth 100000 in
theorem ii_wy_clear_18 : sm_D prog_7_method_4_code 18 1 19 (.iastore) := ⟨by decide +kernel, rfl⟩
set_option maxRecDepth 100000 in
theorem ii_wy_clear_19 : sm_D prog_7_method_4_code 19 3 22 (.iinc 2 1) := ⟨by decide +kernel, rfl⟩
set_option maxRecDepth 100000 in
theorem ii_wy_clear_22 : sm_D prog_7_method_4_code 22 3 25 (.goto (-15)) := ⟨by decide +kernel, rfl⟩
set_option maxRecDepth 100000 in
theorem ii_wy_clear_25 : sm_D prog_7_method_4_code 25 1 26 (.iconst 0) := ⟨by decide +kernel, rfl⟩
set_option maxRecDepth 100000 in
theorem ii_wy_clear_26 : sm_D prog_7_method_4_code 26 1 27 (.istore_n 2) := ⟨by decide +kernel, rfl⟩
set_option maxRecDepth 100000 in
theorem ii_wy_clear_27 : sm_D prog_7_method_4_code 27 1 28 (.iload_n 2) := ⟨by decide +kernel, rfl⟩
set_option maxRecDepth 100000 in
theorem ii_wy_clear_28 : sm_D prog_7_method_4_code 28 1 29 (.aload_n 0) := ⟨by decide +kernel, rfl⟩
set_option maxRecDepth 100000 in
theorem ii_wy_clear_29 : sm_D prog_7_method_4_code 29 3 32 (.getfield 28) := ⟨by decide +kernel, rfl⟩
set_option maxRecDepth 100000 in
theorem ii_wy_clear_32 : sm_D prog_7_method_4_code 32 1 33 (.arraylength) := ⟨by decide +kernel, rfl⟩
set_option maxRecDepth 100000 in
theorem ii_wy_clear_33 : sm_D prog_7_method_4_code 33 3 36 (.if_icmp .ge 17) := ⟨by decide +kernel, rfl⟩
set_option maxRecDepth 100000 in
theorem ii_wy_clear_36 : sm_D prog_7_method_4_code 36 1 37 (.aload_n 0) := ⟨by decide +kernel, rfl⟩
set_option maxRecDepth 100000 in
theorem ii_wy_clear_37 : sm_D prog_7_method_4_code 37 3 40 (.getfield 28) := ⟨by decide +kernel, rfl⟩
set_option maxRecDepth 100000 in
theorem ii_wy_clear_40 : sm_D prog_7_method_4_code 40 1 41 (.iload_n 2) := ⟨by decide +kernel, rfl⟩
set_option maxRecDepth 100000 in
theorem ii_wy_clear_41 : sm_D prog_7_method_4_code 41 2 43 (.bipush (-9)) := ⟨by decide +kernel, rfl⟩
set_option maxRecDepth 100000 in
theorem ii_wy_clear_43 : sm_D prog_7_method_4_code 43 1 44 (.iastore) := ⟨by decide +kernel, rfl⟩
set_option maxRecDepth 100000 in
theorem ii_wy_clear_44 : sm_D prog_7_method_4_code 44 3 47 (.iinc 2 1) := ⟨by decide +kernel, rfl⟩
set_option maxRecDepth 100000 in
theorem ii_wy_clear_47 : sm_D prog_7_method_4_code 47 3 50 (.goto (-20)) := ⟨by decide +kernel, rfl⟩
set_option maxRecDepth 100000 in
theorem ii_wy_clear_50 : sm_D prog_7_method_4_code 50 1 51 (.aload_n 0) := ⟨by decide +kernel, rfl⟩
set_option maxRecDepth 100000 in
theorem ii_wy_clear_51 : sm_D prog_7_method_4_code 51 2 53 (.bipush (-9)) := ⟨by decide +kernel, rfl⟩
set_option maxRecDepth 100000 in
theorem ii_wy_clear_53 : sm_D prog_7_method_4_code 53 3 56 (.putfield 66) := ⟨by decide +kernel, rfl⟩
set_option maxRecDepth 100000 in
theorem ii_wy_clear_56 : sm_D prog_7_method_4_code 56 1 57 (.aload_n 0) := ⟨by decide +kernel, rfl⟩
set_option maxRecDepth 100000 in
theorem ii_wy_clear_57 : sm_D prog_7_method_4_code 57 2 59 (.bipush (-9)) := ⟨by decide +kernel, rfl⟩
set_option maxRecDepth 100000 in
theorem ii_wy_clear_59 : sm_D prog_7_method_4_code 59 3 62 (.putfield 69) := ⟨by decide +kernel, rfl⟩
set_option maxRecDepth 100000 in
theorem ii_wy_clear_62 : sm_D prog_7_method_4_code 62 1 63 (.aload_n 0) := ⟨by decide +kernel, rfl⟩
set_option maxRecDepth 100000 in
theorem ii_wy_clear_63 : sm_D prog_7_method_4_code 63 1 64 (.iconst (-1)) := ⟨by decide +kernel, rfl⟩
set_option maxRecDepth 100000 in
theorem ii_wy_clear_64 : sm_D prog_7_method_4_code 64 3 67 (.putfield 72) := ⟨by decide +kernel, rfl⟩
set_option maxRecDepth 100000 in
theorem ii_wy_clear_67 : sm_D prog_7_method_4_code 67 1 68 (.aload_n 0) := ⟨by decide +kernel, rfl⟩
set_option maxRecDepth 100000 in
theorem ii_wy_clear_68 : sm_D prog_7_method_4_code 68 1 69 (.iconst 0) := ⟨by decide +kernel, rfl⟩
set_option maxRecDepth 100000 in
theorem ii_wy_clear_69 : sm_D prog_7_method_4_code 69 3 72 (.putfield 75) := ⟨by decide +kernel, rfl⟩
set_option maxRecDepth 100000 in
theorem ii_wy_clear_72 : sm_D prog_7_method_4_code 72 1 73 (.aload_n 0) := ⟨by decide +kernel, rfl⟩
set_option maxRecDepth 100000 in
theorem ii_wy_clear_73 : sm_D prog_7_method_4_code 73 2 75 (.bipush (-9)) := ⟨by decide +kernel, rfl⟩
set_option maxRecDepth 100000 in
theorem ii_wy_clear_75 : sm_D prog_7_method_4_code 75 3 78 (.putfield 78) := ⟨by decide +kernel, rfl⟩
set_option maxRecDepth 100000 in
theorem ii_wy_clear_78 : sm_D prog_7_method_4_code 78 1 79 (.return_) := ⟨by decide +kernel, rfl⟩
noncomputable def ff_wy_clear_27_b  (self27 : Int32 → sm_Mem → sm_R) (a2 : Int32) (w : sm_Mem) : sm_R := (Option.bind (sm_al 54) fun x1 => (if x1 ≤ a2 then (sm_let (sm_wI w 49 8 (-9 : Int32)) fun w2 => (sm_let (sm_wI w2 49 9 (-9 : Int32)) fun w3 => (sm_let (sm_wI w3 49 10 (-1 : Int32)) fun w4 => (sm_let (sm_wI w4 49 11 (0 : Int32)) fun w5 => (sm_let (sm_wI w5 49 13 (-9 : Int32)) fun w6 => (some (.null, w6))))))) else (Option.bind (sm_wr w 54 64 a2 (-9 : Int32)) fun w7 => self27 ((a2 + (1 : Int32))) w7)))
noncomputable def ff_wy_clear_27_f  : Nat → Int32 → sm_Mem → sm_R
  | 0, _, _ => none
  | n + 1, a2, w => ff_wy_clear_27_b  (ff_wy_clear_27_f  n) a2 w
noncomputable def ff_wy_clear_27  (a2 : Int32) (w : sm_Mem) : sm_R := ff_wy_clear_27_f  sm_N a2 w
set_option maxHeartbeats 4000000 in
set_option maxRecDepth 100000 in
theorem ss_wy_clear_27_b {E : Nat × (Nat → Int32)}  (self27 : Int32 → sm_Mem → sm_R) (hself27 : ∀ (a2 : Int32) (w : sm_Mem), sm_Sim E (mi_wy_clear) 27 [some (.ref 49), none, some (.int a2)] [] w (self27 a2 w)) (a2 : Int32) (w : sm_Mem) : sm_Sim E (mi_wy_clear) 27 [some (.ref 49), none, some (.int a2)] [] w (ff_wy_clear_27_b  self27 a2 w) := by
  unfold ff_wy_clear_27_b
  refine sm_iload_n ii_wy_clear_27 rfl ?_
  refine sm_aload_n ii_wy_clear_28 rfl ?_
  refine sm_getR 54 ii_wy_clear_29 fl_wy_28 (k := 49) rfl ?_
  refine sm_alen ii_wy_clear_32 (fun x1 => ?_)
  refine sm_icmp_ge 50 ii_wy_clear_33 (by decide) ?_ ?_
  · refine sm_aload_n ii_wy_clear_50 rfl ?_
    refine sm_bipush (-9 : Int32) ii_wy_clear_51 (by decide) ?_
    refine sm_putI ii_wy_clear_53 fp_wy_66 (k := 49) rfl (fun w2 => ?_)
    refine sm_aload_n ii_wy_clear_56 rfl ?_
    refine sm_bipush (-9 : Int32) ii_wy_clear_57 (by decide) ?_
    refine sm_putI ii_wy_clear_59 fp_wy_69 (k := 49) rfl (fun w3 => ?_)
    refine sm_aload_n ii_wy_clear_62 rfl ?_
    refine sm_iconst (-1 : Int32) ii_wy_clear_63 (by decide) ?_
    refine sm_putI ii_wy_clear_64 fp_wy_72 (k := 49) rfl (fun w4 => ?_)
    refine sm_aload_n ii_wy_clear_67 rfl ?_
    refine sm_iconst (0 : Int32) ii_wy_clear_68 (by decide) ?_
    refine sm_putI ii_wy_clear_69 fp_wy_75 (k := 49) rfl (fun w5 => ?_)
    refine sm_aload_n ii_wy_clear_72 rfl ?_
    refine sm_bipush (-9 : Int32) ii_wy_clear_73 (by decide) ?_
    refine sm_putI ii_wy_clear_75 fp_wy_78 (k := 49) rfl (fun w6 => ?_)
    exact sm_vret ii_wy_clear_78 rfl
  · refine sm_aload_n ii_wy_clear_36 rfl ?_
    refine sm_getR 54 ii_wy_clear_37 fl_wy_28 (k := 49) rfl ?_
    refine sm_iload_n ii_wy_clear_40 rfl ?_
    refine sm_bipush (-9 : Int32) ii_wy_clear_41 (by decide) ?_
    refine sm_iast ii_wy_clear_43 (k := 54) rfl (fun w7 => ?_)
    refine sm_iinc (a2 + (1 : Int32)) [some (.ref 49), none, some (.int (a2 + (1 : Int32)))] ii_wy_clear_44 rfl rfl rfl rfl ?_
    refine sm_goto 27 ii_wy_clear_47 (by decide) ?_
    exact hself27 ((a2 + (1 : Int32))) w7
set_option maxHeartbeats 4000000 in
set_option maxRecDepth 100000 in
theorem ss_wy_clear_27_f {E : Nat × (Nat → Int32)}  : ∀ (n : Nat) (a2 : Int32) (w : sm_Mem), sm_Sim E (mi_wy_clear) 27 [some (.ref 49), none, some (.int a2)] [] w (ff_wy_clear_27_f  n a2 w)
  | 0, _, _ => fun _ _ h => by cases h
  | n + 1, a2, w => ss_wy_clear_27_b  _ (ss_wy_clear_27_f  n) a2 w
set_option maxHeartbeats 4000000 in
set_option maxRecDepth 100000 in
theorem ss_wy_clear_27 {E : Nat × (Nat → Int32)}  (a2 : Int32) (w : sm_Mem) : sm_Sim E (mi_wy_clear) 27 [some (.ref 49), none, some (.int a2)] [] w (ff_wy_clear_27  a2 w) := ss_wy_clear_27_f  sm_N a2 w
noncomputable def ff_wy_clear_7_b  (self7 : Int32 → sm_Mem → sm_R) (a2 : Int32) (w : sm_Mem) : sm_R := (if (5 : Int32) < a2 then ff_wy_clear_27 ((0 : Int32)) w else (Option.bind (sm_wr w 53 6 a2 (0 : Int32)) fun w8 => self7 ((a2 + (1 : Int32))) w8))
noncomputable def ff_wy_clear_7_f  : Nat → Int32 → sm_Mem → sm_R
  | 0, _, _ => none
  | n + 1, a2, w => ff_wy_clear_7_b  (ff_wy_clear_7_f  n) a2 w
noncomputable def ff_wy_clear_7  (a2 : Int32) (w : sm_Mem) : sm_R := ff_wy_clear_7_f  sm_N a2 w
set_option maxHeartbeats 4000000 in
set_option maxRecDepth 100000 in
theorem ss_wy_clear_7_b {E : Nat × (Nat → Int32)}  (self7 : Int32 → sm_Mem → sm_R) (hself7 : ∀ (a2 : Int32) (w : sm_Mem), sm_Sim E (mi_wy_clear) 7 [some (.ref 49), none, some (.int a2)] [] w (self7 a2 w)) (a2 : Int32) (w : sm_Mem) : sm_Sim E (mi_wy_clear) 7 [some (.ref 49), none, some (.int a2)] [] w (ff_wy_clear_7_b  self7 a2 w) := by
  unfold ff_wy_clear_7_b
  refine sm_iload_n ii_wy_clear_7 rfl ?_
  refine sm_iconst (5 : Int32) ii_wy_clear_8 (by decide) ?_
  refine sm_icmp_gt 25 ii_wy_clear_9 (by decide) ?_ ?_
  · refine sm_iconst (0 : Int32) ii_wy_clear_25 (by decide) ?_
    refine sm_istore_n [some (.ref 49), none, some (.int (0 : Int32))] ii_wy_clear_26 rfl rfl ?_
    exact ss_wy_clear_27 ((0 : Int32)) w
  · refine sm_aload_n ii_wy_clear_12 rfl ?_
    refine sm_getR 53 ii_wy_clear_13 fl_wy_25 (k := 49) rfl ?_
    refine sm_iload_n ii_wy_clear_16 rfl ?_
    refine sm_iconst (0 : Int32) ii_wy_clear_17 (by decide) ?_
    refine sm_iast ii_wy_clear_18 (k := 53) rfl (fun w8 => ?_)
    refine sm_iinc (a2 + (1 : Int32)) [some (.ref 49), none, some (.int (a2 + (1 : Int32)))] ii_wy_clear_19 rfl rfl rfl rfl ?_
    refine sm_goto 7 ii_wy_clear_22 (by decide) ?_
    exact hself7 ((a2 + (1 : Int32))) w8
set_option maxHeartbeats 4000000 in
set_option maxRecDepth 100000 in
theorem ss_wy_clear_7_f {E : Nat × (Nat → Int32)}  : ∀ (n : Nat) (a2 : Int32) (w : sm_Mem), sm_Sim E (mi_wy_clear) 7 [some (.ref 49), none, some (.int a2)] [] w (ff_wy_clear_7_f  n a2 w)
  | 0, _, _ => fun _ _ h => by cases h
  | n + 1, a2, w => ss_wy_clear_7_b  _ (ss_wy_clear_7_f  n) a2 w
set_option maxHeartbeats 4000000 in
set_option maxRecDepth 100000 in
theorem ss_wy_clear_7 {E : Nat × (Nat → Int32)}  (a2 : Int32) (w : sm_Mem) : sm_Sim E (mi_wy_clear) 7 [some (.ref 49), none, some (.int a2)] [] w (ff_wy_clear_7  a2 w) := ss_wy_clear_7_f  sm_N a2 w
noncomputable def ff_wy_clear  (a1 : Int32) (w : sm_Mem) : sm_R := (sm_let (sm_wI w 49 12 a1) fun w9 => ff_wy_clear_7 ((0 : Int32)) w9)
set_option maxHeartbeats 4000000 in
set_option maxRecDepth 100000 in
theorem ss_wy_clear_0 {E : Nat × (Nat → Int32)}  (a1 : Int32) (w : sm_Mem) : sm_Sim E (mi_wy_clear) 0 [some (.ref 49), some (.int a1), none] [] w (ff_wy_clear  a1 w) := by
  unfold ff_wy_clear
  refine sm_aload_n ii_wy_clear_0 rfl ?_
  refine sm_iload_n ii_wy_clear_1 rfl ?_
  refine sm_putI ii_wy_clear_2 fp_wy_63 (k := 49) rfl (fun w9 => ?_)
  refine sm_iconst (0 : Int32) ii_wy_clear_5 (by decide) ?_
  refine sm_istore_n [some (.ref 49), some (.int a1), some (.int (0 : Int32))] ii_wy_clear_6 rfl rfl ?_
  refine sm_msk [true, false, true] [some (.ref 49), none, some (.int (0 : Int32))] rfl ?_
  exact ss_wy_clear_7 ((0 : Int32)) w9
set_option maxHeartbeats 4000000 in
set_option maxRecDepth 100000 in
theorem mc_wy_clear {E : Nat × (Nat → Int32)} (a1 : Int32) (w : sm_Mem) : sm_MC E mi_wy_clear [.ref 49, .int a1] w (ff_wy_clear a1 w) := sm_MC_of E (by decide +kernel) rfl (Nat.le_of_ble_eq_true rfl) (ss_wy_clear_0 a1 w)
