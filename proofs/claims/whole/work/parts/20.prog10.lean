/-! the program, by a program: functions of its methods and that the methods do them -/
set_option maxRecDepth 100000 in
theorem fl_ho_70 : sm_FL "HerOrders" 70 3 0 := ⟨RX3, TX3, 5, rfl, by decide, rfl, sm_inX3, Or.inr ⟨"HerOrders", List.mem_of_getElem? (i := 343) (by decide +kernel)⟩⟩
set_option maxRecDepth 100000 in
theorem fl_ho_300 : sm_FL "HerOrders" 300 3 1 := ⟨RX3, TX3, 5, rfl, by decide, rfl, sm_inX3, Or.inr ⟨"HerOrders", List.mem_of_getElem? (i := 345) (by decide +kernel)⟩⟩
set_option maxRecDepth 100000 in
theorem fl_ho_304 : sm_FL "HerOrders" 304 3 2 := ⟨RX3, TX3, 5, rfl, by decide, rfl, sm_inX3, Or.inr ⟨"HerOrders", List.mem_of_getElem? (i := 347) (by decide +kernel)⟩⟩
set_option maxRecDepth 100000 in
theorem fl_mo_34 : sm_FL "HerOrdersModel" 34 7 11 := ⟨RX7, TX7, 30, rfl, by decide, rfl, sm_inX7, Or.inl (List.mem_of_getElem? (i := 953) (by decide +kernel))⟩
set_option maxRecDepth 100000 in
theorem ml_hs_132 : sm_ML "HerOrders$House" 132 ⟨"HerOrders", "isOf", "(II)Z"⟩ := Or.inr ⟨"HerOrders", List.mem_of_getElem? (i := 902) (by decide +kernel)⟩
set_option maxRecDepth 100000 in
theorem fl_ho_368 : sm_FL "HerOrders" 368 1 8 := ⟨RX1, TX1, 13, rfl, by decide, rfl, sm_inX1, Or.inr ⟨"HerOrders", List.mem_of_getElem? (i := 219) (by decide +kernel)⟩⟩
set_option maxRecDepth 100000 in
theorem ml_ho_371 : sm_ML "HerOrders" 371 ⟨"HerOrders$House", "breathLeft", "()I"⟩ := Or.inr ⟨"HerOrders", List.mem_of_getElem? (i := 890) (by decide +kernel)⟩
set_option maxRecDepth 100000 in
theorem ml_ho_374 : sm_ML "HerOrders" 374 ⟨"HerOrders$House", "sayableByAny", "()I"⟩ := Or.inr ⟨"HerOrders", List.mem_of_getElem? (i := 894) (by decide +kernel)⟩
set_option maxRecDepth 100000 in
theorem ml_ho_377 : sm_ML "HerOrders" 377 ⟨"HerOrders$House", "parrots", "()I"⟩ := Or.inr ⟨"HerOrders", List.mem_of_getElem? (i := 898) (by decide +kernel)⟩
set_option maxRecDepth 100000 in
theorem ml_ho_380 : sm_ML "HerOrders" 380 ⟨"HerOrders", "present", "([LHerOrders$Row;)I"⟩ := Or.inl (List.mem_of_getElem? (i := 903) (by decide +kernel))
set_option maxRecDepth 100000 in
theorem ml_ho_384 : sm_ML "HerOrders" 384 ⟨"HerOrders", "keptHouses", "()I"⟩ := Or.inl (List.mem_of_getElem? (i := 906) (by decide +kernel))
set_option maxRecDepth 100000 in
theorem ml_ho_307 : sm_ML "HerOrders" 307 ⟨"HerOrders", "tally", "(I)I"⟩ := Or.inl (List.mem_of_getElem? (i := 886) (by decide +kernel))
set_option maxRecDepth 100000 in
theorem ml_mo_308 : sm_ML "HerOrdersModel" 308 ⟨"HerOrdersModel", "isParrot", "(I)Z"⟩ := Or.inl (List.mem_of_getElem? (i := 1432) (by decide +kernel))
set_option maxRecDepth 100000 in
theorem ml_mo_311 : sm_ML "HerOrdersModel" 311 ⟨"HerOrdersModel", "sumOf", "(I)I"⟩ := Or.inl (List.mem_of_getElem? (i := 1428) (by decide +kernel))
set_option maxRecDepth 100000 in
theorem ml_mo_314 : sm_ML "HerOrdersModel" 314 ⟨"HerOrdersModel", "wordsNext", "()I"⟩ := Or.inl (List.mem_of_getElem? (i := 1435) (by decide +kernel))
set_option maxRecDepth 100000 in
theorem ml_mo_317 : sm_ML "HerOrdersModel" 317 ⟨"HerOrdersModel", "thereOf", "(I)I"⟩ := Or.inl (List.mem_of_getElem? (i := 1439) (by decide +kernel))
set_option maxRecDepth 100000 in
theorem ml_mo_322 : sm_ML "HerOrdersModel" 322 ⟨"HerOrdersModel", "countOf", "(I)I"⟩ := Or.inl (List.mem_of_getElem? (i := 1424) (by decide +kernel))
set_option maxRecDepth 100000 in
theorem fl_ho_310 : sm_FL "HerOrders" 310 3 3 := ⟨RX3, TX3, 5, rfl, by decide, rfl, sm_inX3, Or.inr ⟨"HerOrders", List.mem_of_getElem? (i := 349) (by decide +kernel)⟩⟩
set_option maxRecDepth 100000 in
theorem fl_mo_62 : sm_FL "HerOrdersModel" 62 7 12 := ⟨RX7, TX7, 30, rfl, by decide, rfl, sm_inX7, Or.inl (List.mem_of_getElem? (i := 954) (by decide +kernel))⟩
set_option maxRecDepth 100000 in
theorem fl_ho_313 : sm_FL "HerOrders" 313 3 4 := ⟨RX3, TX3, 5, rfl, by decide, rfl, sm_inX3, Or.inr ⟨"HerOrders", List.mem_of_getElem? (i := 351) (by decide +kernel)⟩⟩
set_option maxRecDepth 100000 in
theorem ml_hs_137 : sm_ML "HerOrders$House" 137 ⟨"HerOrders$House", "factOf", "(II)I"⟩ := Or.inl (List.mem_of_getElem? (i := 929) (by decide +kernel))
set_option maxRecDepth 100000 in
theorem ml_rw_36 : sm_ML "HerOrders$Row" 36 ⟨"HerOrders$Row", "isMissing", "()Z"⟩ := Or.inl (List.mem_of_getElem? (i := 934) (by decide +kernel))
set_option maxRecDepth 100000 in
theorem ml_ho_324 : sm_ML "HerOrders" 324 ⟨"HerOrders$Row", "mixedInto", "(J)J"⟩ := Or.inr ⟨"HerOrders", List.mem_of_getElem? (i := 930) (by decide +kernel)⟩
set_option maxRecDepth 100000 in
theorem ml_ho_320 : sm_ML "HerOrders" 320 ⟨"HerOrders$House", "mixedInto", "(J)J"⟩ := Or.inr ⟨"HerOrders", List.mem_of_getElem? (i := 924) (by decide +kernel)⟩
abbrev mi_mo_lots : sm_MI := (⟨"HerOrdersModel", "lots", "(II)I"⟩, prog_9_method_95_code, 8, (some .int), 4)
set_option maxRecDepth 100000 in
theorem mf_mo_lots : sm_MF mi_mo_lots 2 := ⟨List.mem_of_getElem? (i := 1399) (by decide +kernel), List.mem_of_getElem? (i := 132) (by decide +kernel), ⟨by decide, by decide⟩, by decide +kernel⟩
set_option maxRecDepth 100000 in
theorem mv_mo_lots : sm_MFV mi_mo_lots := ⟨List.mem_of_getElem? (i := 1397) (by decide +kernel), List.mem_of_getElem? (i := 1398) (by decide +kernel)⟩
set_option maxRecDepth 100000 in
theorem ii_mo_lots_0 : sm_D prog_9_method_95_code 0 1 1 (.iload_n 1) := ⟨by decide +kernel, rfl⟩
set_option maxRecDepth 100000 in
theorem ii_mo_lots_1 : sm_D prog_9_method_95_code 1 1 2 (.i2l) := ⟨by decide +kernel, rfl⟩
set_option maxRecDepth 100000 in
theorem ii_mo_lots_2 : sm_D prog_9_method_95_code 2 1 3 (.lconst 1) := ⟨by decide +kernel, rfl⟩
set_option maxRecDepth 100000 in
theorem ii_mo_lots_3 : sm_D prog_9_method_95_code 3 3 6 (.ldc2_w 294) := ⟨by decide +kernel, rfl⟩
set_option maxRecDepth 100000 in
theorem ii_mo_lots_6 : sm_D prog_9_method_95_code 6 3 9 (.invokestatic 71) := ⟨by decide +kernel, rfl⟩
set_option maxRecDepth 100000 in
theorem ii_mo_lots_9 : sm_D prog_9_method_95_code 9 3 12 (.ifCond .eq 15) := ⟨by decide +kernel, rfl⟩
set_option maxRecDepth 100000 in
theorem ii_mo_lots_12 : sm_D prog_9_method_95_code 12 1 13 (.iload_n 2) := ⟨by decide +kernel, rfl⟩
set_option maxRecDepth 100000 in
theorem ii_mo_lots_13 : sm_D prog_9_method_95_code 13 1 14 (.i2l) := ⟨by decide +kernel, rfl⟩
set_option maxRecDepth 100000 in
theorem ii_mo_lots_14 : sm_D prog_9_method_95_code 14 1 15 (.lconst 1) := ⟨by decide +kernel, rfl⟩
set_option maxRecDepth 100000 in
theorem ii_mo_lots_15 : sm_D prog_9_method_95_code 15 3 18 (.ldc2_w 296) := ⟨by decide +kernel, rfl⟩
set_option maxRecDepth 100000 in
theorem ii_mo_lots_18 : sm_D prog_9_method_95_code 18 3 21 (.invokestatic 71) := ⟨by decide +kernel, rfl⟩
set_option maxRecDepth 100000 in
theorem ii_mo_lots_21 : sm_D prog_9_method_95_code 21 3 24 (.ifCond .ne 5) := ⟨by decide +kernel, rfl⟩
set_option maxRecDepth 100000 in
theorem ii_mo_lots_24 : sm_D prog_9_method_95_code 24 1 25 (.iconst (-1)) := ⟨by decide +kernel, rfl⟩
set_option maxRecDepth 100000 in
theorem ii_mo_lots_25 : sm_D prog_9_method_95_code 25 1 26 (.ireturn) := ⟨by decide +kernel, rfl⟩
set_option maxRecDepth 100000 in
theorem ii_mo_lots_26 : sm_D prog_9_method_95_code 26 1 27 (.aload_n 0) := ⟨by decide +kernel, rfl⟩
set_option maxRecDepth 100000 in
theorem ii_mo_lots_27 : sm_D prog_9_method_95_code 27 3 30 (.getfield 135) := ⟨by decide +kernel, rfl⟩
set_option maxRecDepth 100000 in
theorem ii_mo_lots_30 : sm_D prog_9_method_95_code 30 3 33 (.ifCond .ne 6) := ⟨by decide +kernel, rfl⟩
set_option maxRecDepth 100000 in
theorem ii_mo_lots_33 : sm_D prog_9_method_95_code 33 2 35 (.bipush (-4)) := ⟨by decide +kernel, rfl⟩
set_option maxRecDepth 100000 in
theorem ii_mo_lots_35 : sm_D prog_9_method_95_code 35 1 36 (.ireturn) := ⟨by decide +kernel, rfl⟩
set_option maxRecDepth 100000 in
theorem ii_mo_lots_36 : sm_D prog_9_method_95_code 36 1 37 (.aload_n 0) := ⟨by decide +kernel, rfl⟩
set_option maxRecDepth 100000 in
theorem ii_mo_lots_37 : sm_D prog_9_method_95_code 37 3 40 (.getfield 7) := ⟨by decide +kernel, rfl⟩
set_option maxRecDepth 100000 in
theorem ii_mo_lots_40 : sm_D prog_9_method_95_code 40 1 41 (.iconst 0) := ⟨by decide +kernel, rfl⟩
set_option maxRecDepth 100000 in
theorem ii_mo_lots_41 : sm_D prog_9_method_95_code 41 1 42 (.iaload) := ⟨by decide +kernel, rfl⟩
set_option maxRecDepth 100000 in
theorem ii_mo_lots_42 : sm_D prog_9_method_95_code 42 1 43 (.iload_n 1) := ⟨by decide +kernel, rfl⟩
set_option maxRecDepth 100000 in
theorem ii_mo_lots_43 : sm_D prog_9_method_95_code 43 1 44 (.iadd) := ⟨by decide +kernel, rfl⟩
set_option maxRecDepth 100000 in
theorem ii_mo_lots_44 : sm_D prog_9_method_95_code 44 2 46 (.bipush 40) := ⟨by decide +kernel, rfl⟩
set_option maxRecDepth 100000 in
theorem ii_mo_lots_46 : sm_D prog_9_method_95_code 46 3 49 (.if_icmp .le 6) := ⟨by decide +kernel, rfl⟩
set_option maxRecDepth 100000 in
theorem ii_mo_lots_49 : sm_D prog_9_method_95_code 49 2 51 (.bipush (-2)) := ⟨by decide +kernel, rfl⟩
set_option maxRecDepth 100000 in
theorem ii_mo_lots_51 : sm_D prog_9_method_95_code 51 1 52 (.ireturn) := ⟨by decide +kernel, rfl⟩
set_option maxRecDepth 100000 in
theorem ii_mo_lots_52 : sm_D prog_9_method_95_code 52 1 53 (.iload_n 2) := ⟨by decide +kernel, rfl⟩
set_option maxRecDepth 100000 in
theorem ii_mo_lots_53 : sm_D prog_9_method_95_code 53 1 54 (.i2l) := ⟨by decide +kernel, rfl⟩
set_option maxRecDepth 100000 in
theorem ii_mo_lots_54 : sm_D prog_9_method_95_code 54 1 55 (.lstore_n 3) := ⟨by decide +kernel, rfl⟩
set_option maxRecDepth 100000 in
theorem ii_mo_lots_55 : sm_D prog_9_method_95_code 55 1 56 (.iconst 0) := ⟨by decide +kernel, rfl⟩
set_option maxRecDepth 100000 in
theorem ii_mo_lots_56 : sm_D prog_9_method_95_code 56 2 58 (.istore 5) := ⟨by decide +kernel, rfl⟩
set_option maxRecDepth 100000 in
theorem ii_mo_lots_58 : sm_D prog_9_method_95_code 58 2 60 (.iload 5) := ⟨by decide +kernel, rfl⟩
set_option maxRecDepth 100000 in
theorem ii_mo_lots_60 : sm_D prog_9_method_95_code 60 1 61 (.iload_n 1) := ⟨by decide +kernel, rfl⟩
set_option maxRecDepth 100000 in
theorem ii_mo_lots_61 : sm_D prog_9_method_95_code 61 3 64 (.if_icmp .ge 96) := ⟨by decide +kernel, rfl⟩
set_option maxRecDepth 100000 in
theorem ii_mo_lots_64 : sm_D prog_9_method_95_code 64 1 65 (.lload_n 3) := ⟨by decide +kernel, rfl⟩
set_option maxRecDepth 100000 in
theorem ii_mo_lots_65 : sm_D prog_9_method_95_code 65 3 68 (.ldc2_w 298) := ⟨by decide +kernel, rfl⟩
set_option maxRecDepth 100000 in
theorem ii_mo_lots_68 : sm_D prog_9_method_95_code 68 1 69 (.lmul) := ⟨by decide +kernel, rfl⟩
set_option maxRecDepth 100000 in
theorem ii_mo_lots_69 : sm_D prog_9_method_95_code 69 3 72 (.ldc2_w 300) := ⟨by decide +kernel, rfl⟩
set_option maxRecDepth 100000 in
theorem ii_mo_lots_72 : sm_D prog_9_method_95_code 72 1 73 (.lrem) := ⟨by decide +kernel, rfl⟩
set_option maxRecDepth 100000 in
theorem ii_mo_lots_73 : sm_D prog_9_method_95_code 73 1 74 (.lstore_n 3) := ⟨by decide +kernel, rfl⟩
set_option maxRecDepth 100000 in
theorem ii_mo_lots_74 : sm_D prog_9_method_95_code 74 1 75 (.lload_n 3) := ⟨by decide +kernel, rfl⟩
set_option maxRecDepth 100000 in
theorem ii_mo_lots_75 : sm_D prog_9_method_95_code 75 3 78 (.ldc2_w 302) := ⟨by decide +kernel, rfl⟩
set_option maxRecDepth 100000 in
theorem ii_mo_lots_78 : sm_D prog_9_method_95_code 78 1 79 (.ldiv) := ⟨by decide +kernel, rfl⟩
set_option maxRecDepth 100000 in
theorem ii_mo_lots_79 : sm_D prog_9_method_95_code 79 1 80 (.aload_n 0) := ⟨by decide +kernel, rfl⟩
set_option maxRecDepth 100000 in
theorem ii_mo_lots_80 : sm_D prog_9_method_95_code 80 3 83 (.getfield 135) := ⟨by decide +kernel, rfl⟩
set_option maxRecDepth 100000 in
theorem ii_mo_lots_83 : sm_D prog_9_method_95_code 83 1 84 (.i2l) := ⟨by decide +kernel, rfl⟩
set_option maxRecDepth 100000 in
theorem ii_mo_lots_84 : sm_D prog_9_method_95_code 84 1 85 (.lrem) := ⟨by decide +kernel, rfl⟩
set_option maxRecDepth 100000 in
theorem ii_mo_lots_85 : sm_D prog_9_method_95_code 85 1 86 (.l2i) := ⟨by decide +kernel, rfl⟩
set_option maxRecDepth 100000 in
theorem ii_mo_lots_86 : sm_D prog_9_method_95_code 86 2 88 (.istore 6) := ⟨by decide +kernel, rfl⟩
set_option maxRecDepth 100000 in
theorem ii_mo_lots_88 : sm_D prog_9_method_95_code 88 1 89 (.lload_n 3) := ⟨by decide +kernel, rfl⟩
set_option maxRecDepth 100000 in
theorem ii_mo_lots_89 : sm_D prog_9_method_95_code 89 3 92 (.ldc2_w 304) := ⟨by decide +kernel, rfl⟩
set_option maxRecDepth 100000 in
theorem ii_mo_lots_92 : sm_D prog_9_method_95_code 92 1 93 (.ldiv) := ⟨by decide +kernel, rfl⟩
set_option maxRecDepth 100000 in
theorem ii_mo_lots_93 : sm_D prog_9_method_95_code 93 3 96 (.ldc2_w 306) := ⟨by decide +kernel, rfl⟩
set_option maxRecDepth 100000 in
theorem ii_mo_lots_96 : sm_D prog_9_method_95_code 96 1 97 (.lrem) := ⟨by decide +kernel, rfl⟩
set_option maxRecDepth 100000 in
theorem ii_mo_lots_97 : sm_D prog_9_method_95_code 97 1 98 (.l2i) := ⟨by decide +kernel, rfl⟩
set_option maxRecDepth 100000 in
theorem ii_mo_lots_98 : sm_D prog_9_method_95_code 98 2 100 (.istore 7) := ⟨by decide +kernel, rfl⟩
set_option maxRecDepth 100000 in
theorem ii_mo_lots_100 : sm_D prog_9_method_95_code 100 1 101 (.aload_n 0) := ⟨by decide +kernel, rfl⟩
set_option maxRecDepth 100000 in
theorem ii_mo_lots_101 : sm_D prog_9_method_95_code 101 1 102 (.iconst 0) := ⟨by decide +kernel, rfl⟩
set_option maxRecDepth 100000 in
theorem ii_mo_lots_102 : sm_D prog_9_method_95_code 102 2 104 (.iload 6) := ⟨by decide +kernel, rfl⟩
set_option maxRecDepth 100000 in
theorem ii_mo_lots_104 : sm_D prog_9_method_95_code 104 2 106 (.iload 7) := ⟨by decide +kernel, rfl⟩
set_option maxRecDepth 100000 in
theorem ii_mo_lots_106 : sm_D prog_9_method_95_code 106 3 109 (.invokevirtual 157) := ⟨by decide +kernel, rfl⟩
set_option maxRecDepth 100000 in
theorem ii_mo_lots_109 : sm_D prog_9_method_95_code 109 3 112 (.ifCond .eq 19) := ⟨by decide +kernel, rfl⟩
set_option maxRecDepth 100000 in
theorem ii_mo_lots_112 : sm_D prog_9_method_95_code 112 1 113 (.aload_n 0) := ⟨by decide +kernel, rfl⟩
set_option maxRecDepth 100000 in
theorem ii_mo_lots_113 : sm_D prog_9_method_95_code 113 3 116 (.invokevirtual 187) := ⟨by decide +kernel, rfl⟩
set_option maxRecDepth 100000 in
theorem ii_mo_lots_116 : sm_D prog_9_method_95_code 116 1 117 (.aload_n 0) := ⟨by decide +kernel, rfl⟩
set_option maxRecDepth 100000 in
theorem ii_mo_lots_117 : sm_D prog_9_method_95_code 117 1 118 (.iconst 0) := ⟨by decide +kernel, rfl⟩
set_option maxRecDepth 100000 in
theorem ii_mo_lots_118 : sm_D prog_9_method_95_code 118 2 120 (.iload 6) := ⟨by decide +kernel, rfl⟩
set_option maxRecDepth 100000 in
theorem ii_mo_lots_120 : sm_D prog_9_method_95_code 120 2 122 (.iload 7) := ⟨by decide +kernel, rfl⟩
set_option maxRecDepth 100000 in
theorem ii_mo_lots_122 : sm_D prog_9_method_95_code 122 3 125 (.invokevirtual 190) := ⟨by decide +kernel, rfl⟩
set_option maxRecDepth 100000 in
theorem ii_mo_lots_125 : sm_D prog_9_method_95_code 125 3 128 (.goto 26) := ⟨by decide +kernel, rfl⟩
set_option maxRecDepth 100000 in
theorem ii_mo_lots_128 : sm_D prog_9_method_95_code 128 1 129 (.aload_n 0) := ⟨by decide +kernel, rfl⟩
set_option maxRecDepth 100000 in
theorem ii_mo_lots_129 : sm_D prog_9_method_95_code 129 3 132 (.getfield 7) := ⟨by decide +kernel, rfl⟩
set_option maxRecDepth 100000 in
theorem ii_mo_lots_132 : sm_D prog_9_method_95_code 132 1 133 (.iconst 2) := ⟨by decide +kernel, rfl⟩
set_option maxRecDepth 100000 in
theorem ii_mo_lots_133 : sm_D prog_9_method_95_code 133 1 134 (.iaload) := ⟨by decide +kernel, rfl⟩
set_option maxRecDepth 100000 in
theorem ii_mo_lots_134 : sm_D prog_9_method_95_code 134 1 135 (.iconst 3) := ⟨by decide +kernel, rfl⟩
set_option maxRecDepth 100000 in
theorem ii_mo_lots_135 : sm_D prog_9_method_95_code 135 3 138 (.if_icmp .le 11) := ⟨by decide +kernel, rfl⟩
set_option maxRecDepth 100000 in
theorem ii_mo_lots_138 : sm_D prog_9_method_95_code 138 1 139 (.aload_n 0) := ⟨by decide +kernel, rfl⟩
set_option maxRecDepth 100000 in
theorem ii_mo_lots_139 : sm_D prog_9_method_95_code 139 3 142 (.invokevirtual 194) := ⟨by decide +kernel, rfl⟩
set_option maxRecDepth 100000 in
theorem ii_mo_lots_142 : sm_D prog_9_method_95_code 142 1 143 (.pop) := ⟨by decide +kernel, rfl⟩
set_option maxRecDepth 100000 in
theorem ii_mo_lots_143 : sm_D prog_9_method_95_code 143 3 146 (.goto 8) := ⟨by decide +kernel, rfl⟩
set_option maxRecDepth 100000 in
theorem ii_mo_lots_146 : sm_D prog_9_method_95_code 146 1 147 (.aload_n 0) := ⟨by decide +kernel, rfl⟩
set_option maxRecDepth 100000 in
theorem ii_mo_lots_147 : sm_D prog_9_method_95_code 147 3 150 (.invokevirtual 197) := ⟨by decide +kernel, rfl⟩
set_option maxRecDepth 100000 in
theorem ii_mo_lots_150 : sm_D prog_9_method_95_code 150 1 151 (.pop) := ⟨by decide +kernel, rfl⟩
set_option maxRecDepth 100000 in
theorem ii_mo_lots_151 : sm_D prog_9_method_95_code 151 3 154 (.iinc 5 1) := ⟨by decide +kernel, rfl⟩
set_option maxRecDepth 100000 in
theorem ii_mo_lots_154 : sm_D prog_9_method_95_code 154 3 157 (.goto (-96)) := ⟨by decide +kernel, rfl⟩
set_option maxRecDepth 100000 in
theorem ii_mo_lots_157 : sm_D prog_9_method_95_code 157 1 158 (.aload_n 0) := ⟨by decide +kernel, rfl⟩
set_option maxRecDepth 100000 in
theorem ii_mo_lots_158 : sm_D prog_9_method_95_code 158 3 161 (.getfield 7) := ⟨by decide +kernel, rfl⟩
set_option maxRecDepth 100000 in
theorem ii_mo_lots_161 : sm_D prog_9_method_95_code 161 1 162 (.iconst 2) := ⟨by decide +kernel, rfl⟩
set_option maxRecDepth 100000 in
theorem ii_mo_lots_162 : sm_D prog_9_method_95_code 162 1 163 (.iaload) := ⟨by decide +kernel, rfl⟩
set_option maxRecDepth 100000 in
theorem ii_mo_lots_163 : sm_D prog_9_method_95_code 163 1 164 (.ireturn) := ⟨by decide +kernel, rfl⟩
noncomputable def ff_mo_lots_58_b  (self58 : Int32 → Int64 → Int32 → sm_Mem → sm_R) (a1 : Int32) (a3 : Int64) (a5 : Int32) (w : sm_Mem) : sm_R := (if a1 ≤ a5 then (Option.bind (sm_rd w 63 5184 (2 : Int32)) fun x1 => (some (.int x1, w))) else (if (2147483647 : Int64) = (0 : Int64) then none else (if (8 : Int64) = (0 : Int64) then none else (if (Int32.toInt64 (w.1 62 1)) = (0 : Int64) then none else (if (64 : Int64) = (0 : Int64) then none else (if (6 : Int64) = (0 : Int64) then none else (sm_cI (ff_mo_mayNext ((0 : Int32)) ((Int64.toInt32 ((((a3 * (48271 : Int64)) - (a3 * (48271 : Int64)) / (2147483647 : Int64) * (2147483647 : Int64)) / (8 : Int64)) - (((a3 * (48271 : Int64)) - (a3 * (48271 : Int64)) / (2147483647 : Int64) * (2147483647 : Int64)) / (8 : Int64)) / (Int32.toInt64 (w.1 62 1)) * (Int32.toInt64 (w.1 62 1))))) ((Int64.toInt32 ((((a3 * (48271 : Int64)) - (a3 * (48271 : Int64)) / (2147483647 : Int64) * (2147483647 : Int64)) / (64 : Int64)) - (((a3 * (48271 : Int64)) - (a3 * (48271 : Int64)) / (2147483647 : Int64) * (2147483647 : Int64)) / (64 : Int64)) / (6 : Int64) * (6 : Int64)))) w) fun x7 w8 => (if x7 = (0 : Int32) then (Option.bind (sm_rd w8 63 5184 (2 : Int32)) fun x9 => (if x9 ≤ (3 : Int32) then (sm_cI (ff_mo_doHour  w8) fun x10 w11 => self58 (a1) (((a3 * (48271 : Int64)) - (a3 * (48271 : Int64)) / (2147483647 : Int64) * (2147483647 : Int64))) ((a5 + (1 : Int32))) w11) else (sm_cI (ff_mo_doEnd  w8) fun x12 w13 => self58 (a1) (((a3 * (48271 : Int64)) - (a3 * (48271 : Int64)) / (2147483647 : Int64) * (2147483647 : Int64))) ((a5 + (1 : Int32))) w13))) else (sm_cV (ff_mo_keepPast  w8) fun w15 => (sm_cV (ff_mo_says ((0 : Int32)) ((Int64.toInt32 ((((a3 * (48271 : Int64)) - (a3 * (48271 : Int64)) / (2147483647 : Int64) * (2147483647 : Int64)) / (8 : Int64)) - (((a3 * (48271 : Int64)) - (a3 * (48271 : Int64)) / (2147483647 : Int64) * (2147483647 : Int64)) / (8 : Int64)) / (Int32.toInt64 (w.1 62 1)) * (Int32.toInt64 (w.1 62 1))))) ((Int64.toInt32 ((((a3 * (48271 : Int64)) - (a3 * (48271 : Int64)) / (2147483647 : Int64) * (2147483647 : Int64)) / (64 : Int64)) - (((a3 * (48271 : Int64)) - (a3 * (48271 : Int64)) / (2147483647 : Int64) * (2147483647 : Int64)) / (64 : Int64)) / (6 : Int64) * (6 : Int64)))) w15) fun w17 => self58 (a1) (((a3 * (48271 : Int64)) - (a3 * (48271 : Int64)) / (2147483647 : Int64) * (2147483647 : Int64))) ((a5 + (1 : Int32))) w17))))))))))
noncomputable def ff_mo_lots_58_f  : Nat → Int32 → Int64 → Int32 → sm_Mem → sm_R
  | 0, _, _, _, _ => none
  | n + 1, a1, a3, a5, w => ff_mo_lots_58_b  (ff_mo_lots_58_f  n) a1 a3 a5 w
noncomputable def ff_mo_lots_58  (a1 : Int32) (a3 : Int64) (a5 : Int32) (w : sm_Mem) : sm_R := ff_mo_lots_58_f  sm_N a1 a3 a5 w
set_option maxHeartbeats 4000000 in
set_option maxRecDepth 100000 in
theorem ss_mo_lots_58_b {E : Nat × (Nat → Int32)}  (self58 : Int32 → Int64 → Int32 → sm_Mem → sm_R) (hself58 : ∀ (a1 : Int32) (a3 : Int64) (a5 : Int32) (w : sm_Mem), sm_Sim E (mi_mo_lots) 58 [some (.ref 62), some (.int a1), none, some (.long a3), none, some (.int a5), none, none] [] w (self58 a1 a3 a5 w)) (a1 : Int32) (a3 : Int64) (a5 : Int32) (w : sm_Mem) : sm_Sim E (mi_mo_lots) 58 [some (.ref 62), some (.int a1), none, some (.long a3), none, some (.int a5), none, none] [] w (ff_mo_lots_58_b  self58 a1 a3 a5 w) := by
  unfold ff_mo_lots_58_b
  refine sm_iload ii_mo_lots_58 rfl ?_
  refine sm_iload_n ii_mo_lots_60 rfl ?_
  refine sm_icmp_ge 157 ii_mo_lots_61 (by decide) ?_ ?_
  · refine sm_aload_n ii_mo_lots_157 rfl ?_
    refine sm_getR 63 ii_mo_lots_158 fl_mo_7 (k := 62) rfl ?_
    refine sm_iconst (2 : Int32) ii_mo_lots_161 (by decide) ?_
    refine sm_iald ii_mo_lots_162 (k := 63) rfl (fun x1 => ?_)
    exact sm_iret ii_mo_lots_163 rfl
  · refine sm_lload_n ii_mo_lots_64 rfl ?_
    refine sm_ldc2 (48271 : Int64) ii_mo_lots_65 (List.mem_of_getElem? (i := 1402) (by decide +kernel)) ?_
    refine sm_lmul ii_mo_lots_68 ?_
    refine sm_ldc2 (2147483647 : Int64) ii_mo_lots_69 (List.mem_of_getElem? (i := 1403) (by decide +kernel)) ?_
    refine sm_lrem ii_mo_lots_72 ?_
    refine sm_lstore_n [some (.ref 62), some (.int a1), none, some (.long ((a3 * (48271 : Int64)) - (a3 * (48271 : Int64)) / (2147483647 : Int64) * (2147483647 : Int64))), none, some (.int a5), none, none] ii_mo_lots_73 rfl rfl ?_
    refine sm_lload_n ii_mo_lots_74 rfl ?_
    refine sm_ldc2 (8 : Int64) ii_mo_lots_75 (List.mem_of_getElem? (i := 1404) (by decide +kernel)) ?_
    refine sm_ldiv ii_mo_lots_78 ?_
    refine sm_aload_n ii_mo_lots_79 rfl ?_
    refine sm_getI ii_mo_lots_80 fl_mo_135 (k := 62) rfl ?_
    refine sm_i2l ii_mo_lots_83 ?_
    refine sm_lrem ii_mo_lots_84 ?_
    refine sm_l2i ii_mo_lots_85 ?_
    refine sm_istore [some (.ref 62), some (.int a1), none, some (.long ((a3 * (48271 : Int64)) - (a3 * (48271 : Int64)) / (2147483647 : Int64) * (2147483647 : Int64))), none, some (.int a5), some (.int (Int64.toInt32 ((((a3 * (48271 : Int64)) - (a3 * (48271 : Int64)) / (2147483647 : Int64) * (2147483647 : Int64)) / (8 : Int64)) - (((a3 * (48271 : Int64)) - (a3 * (48271 : Int64)) / (2147483647 : Int64) * (2147483647 : Int64)) / (8 : Int64)) / (Int32.toInt64 (w.1 62 1)) * (Int32.toInt64 (w.1 62 1))))), none] ii_mo_lots_86 rfl rfl ?_
    refine sm_lload_n ii_mo_lots_88 rfl ?_
    refine sm_ldc2 (64 : Int64) ii_mo_lots_89 (List.mem_of_getElem? (i := 1405) (by decide +kernel)) ?_
    refine sm_ldiv ii_mo_lots_92 ?_
    refine sm_ldc2 (6 : Int64) ii_mo_lots_93 (List.mem_of_getElem? (i := 1406) (by decide +kernel)) ?_
    refine sm_lrem ii_mo_lots_96 ?_
    refine sm_l2i ii_mo_lots_97 ?_
    refine sm_istore [some (.ref 62), some (.int a1), none, some (.long ((a3 * (48271 : Int64)) - (a3 * (48271 : Int64)) / (2147483647 : Int64) * (2147483647 : Int64))), none, some (.int a5), some (.int (Int64.toInt32 ((((a3 * (48271 : Int64)) - (a3 * (48271 : Int64)) / (2147483647 : Int64) * (2147483647 : Int64)) / (8 : Int64)) - (((a3 * (48271 : Int64)) - (a3 * (48271 : Int64)) / (2147483647 : Int64) * (2147483647 : Int64)) / (8 : Int64)) / (Int32.toInt64 (w.1 62 1)) * (Int32.toInt64 (w.1 62 1))))), some (.int (Int64.toInt32 ((((a3 * (48271 : Int64)) - (a3 * (48271 : Int64)) / (2147483647 : Int64) * (2147483647 : Int64)) / (64 : Int64)) - (((a3 * (48271 : Int64)) - (a3 * (48271 : Int64)) / (2147483647 : Int64) * (2147483647 : Int64)) / (64 : Int64)) / (6 : Int64) * (6 : Int64))))] ii_mo_lots_98 rfl rfl ?_
    refine sm_aload_n ii_mo_lots_100 rfl ?_
    refine sm_iconst (0 : Int32) ii_mo_lots_101 (by decide) ?_
    refine sm_iload ii_mo_lots_102 rfl ?_
    refine sm_iload ii_mo_lots_104 rfl ?_
    refine sm_cvI [.int (0 : Int32), .int (Int64.toInt32 ((((a3 * (48271 : Int64)) - (a3 * (48271 : Int64)) / (2147483647 : Int64) * (2147483647 : Int64)) / (8 : Int64)) - (((a3 * (48271 : Int64)) - (a3 * (48271 : Int64)) / (2147483647 : Int64) * (2147483647 : Int64)) / (8 : Int64)) / (Int32.toInt64 (w.1 62 1)) * (Int32.toInt64 (w.1 62 1)))), .int (Int64.toInt32 ((((a3 * (48271 : Int64)) - (a3 * (48271 : Int64)) / (2147483647 : Int64) * (2147483647 : Int64)) / (64 : Int64)) - (((a3 * (48271 : Int64)) - (a3 * (48271 : Int64)) / (2147483647 : Int64) * (2147483647 : Int64)) / (64 : Int64)) / (6 : Int64) * (6 : Int64)))] [] rfl ii_mo_lots_106 ml_mo_157 (mf_mo_mayNext) (mv_mo_mayNext) (Nat.le_of_ble_eq_true rfl) rfl 7 rfl rfl rfl rfl (mc_mo_mayNext ((0 : Int32)) ((Int64.toInt32 ((((a3 * (48271 : Int64)) - (a3 * (48271 : Int64)) / (2147483647 : Int64) * (2147483647 : Int64)) / (8 : Int64)) - (((a3 * (48271 : Int64)) - (a3 * (48271 : Int64)) / (2147483647 : Int64) * (2147483647 : Int64)) / (8 : Int64)) / (Int32.toInt64 (w.1 62 1)) * (Int32.toInt64 (w.1 62 1))))) ((Int64.toInt32 ((((a3 * (48271 : Int64)) - (a3 * (48271 : Int64)) / (2147483647 : Int64) * (2147483647 : Int64)) / (64 : Int64)) - (((a3 * (48271 : Int64)) - (a3 * (48271 : Int64)) / (2147483647 : Int64) * (2147483647 : Int64)) / (64 : Int64)) / (6 : Int64) * (6 : Int64)))) w) (fun x7 w8 => ?_)
    refine sm_if_eq 128 ii_mo_lots_109 (by decide) ?_ ?_
    · refine sm_aload_n ii_mo_lots_128 rfl ?_
      refine sm_getR 63 ii_mo_lots_129 fl_mo_7 (k := 62) rfl ?_
      refine sm_iconst (2 : Int32) ii_mo_lots_132 (by decide) ?_
      refine sm_iald ii_mo_lots_133 (k := 63) rfl (fun x9 => ?_)
      refine sm_iconst (3 : Int32) ii_mo_lots_134 (by decide) ?_
      refine sm_icmp_le 146 ii_mo_lots_135 (by decide) ?_ ?_
      · refine sm_aload_n ii_mo_lots_146 rfl ?_
        refine sm_cvI [] [] rfl ii_mo_lots_147 ml_mo_197 (mf_mo_doHour) (mv_mo_doHour) (Nat.le_of_ble_eq_true rfl) rfl 7 rfl rfl rfl rfl (mc_mo_doHour  w8) (fun x10 w11 => ?_)
        refine sm_pop ii_mo_lots_150 ?_
        refine sm_iinc (a5 + (1 : Int32)) [some (.ref 62), some (.int a1), none, some (.long ((a3 * (48271 : Int64)) - (a3 * (48271 : Int64)) / (2147483647 : Int64) * (2147483647 : Int64))), none, some (.int (a5 + (1 : Int32))), some (.int (Int64.toInt32 ((((a3 * (48271 : Int64)) - (a3 * (48271 : Int64)) / (2147483647 : Int64) * (2147483647 : Int64)) / (8 : Int64)) - (((a3 * (48271 : Int64)) - (a3 * (48271 : Int64)) / (2147483647 : Int64) * (2147483647 : Int64)) / (8 : Int64)) / (Int32.toInt64 (w.1 62 1)) * (Int32.toInt64 (w.1 62 1))))), some (.int (Int64.toInt32 ((((a3 * (48271 : Int64)) - (a3 * (48271 : Int64)) / (2147483647 : Int64) * (2147483647 : Int64)) / (64 : Int64)) - (((a3 * (48271 : Int64)) - (a3 * (48271 : Int64)) / (2147483647 : Int64) * (2147483647 : Int64)) / (64 : Int64)) / (6 : Int64) * (6 : Int64))))] ii_mo_lots_151 rfl rfl rfl rfl ?_
        refine sm_goto 58 ii_mo_lots_154 (by decide) ?_
        refine sm_msk [true, true, false, true, false, true, false, false] [some (.ref 62), some (.int a1), none, some (.long ((a3 * (48271 : Int64)) - (a3 * (48271 : Int64)) / (2147483647 : Int64) * (2147483647 : Int64))), none, some (.int (a5 + (1 : Int32))), none, none] rfl ?_
        exact hself58 (a1) (((a3 * (48271 : Int64)) - (a3 * (48271 : Int64)) / (2147483647 : Int64) * (2147483647 : Int64))) ((a5 + (1 : Int32))) w11
      · refine sm_aload_n ii_mo_lots_138 rfl ?_
        refine sm_cvI [] [] rfl ii_mo_lots_139 ml_mo_194 (mf_mo_doEnd) (mv_mo_doEnd) (Nat.le_of_ble_eq_true rfl) rfl 7 rfl rfl rfl rfl (mc_mo_doEnd  w8) (fun x12 w13 => ?_)
        refine sm_pop ii_mo_lots_142 ?_
        refine sm_goto 151 ii_mo_lots_143 (by decide) ?_
        refine sm_iinc (a5 + (1 : Int32)) [some (.ref 62), some (.int a1), none, some (.long ((a3 * (48271 : Int64)) - (a3 * (48271 : Int64)) / (2147483647 : Int64) * (2147483647 : Int64))), none, some (.int (a5 + (1 : Int32))), some (.int (Int64.toInt32 ((((a3 * (48271 : Int64)) - (a3 * (48271 : Int64)) / (2147483647 : Int64) * (2147483647 : Int64)) / (8 : Int64)) - (((a3 * (48271 : Int64)) - (a3 * (48271 : Int64)) / (2147483647 : Int64) * (2147483647 : Int64)) / (8 : Int64)) / (Int32.toInt64 (w.1 62 1)) * (Int32.toInt64 (w.1 62 1))))), some (.int (Int64.toInt32 ((((a3 * (48271 : Int64)) - (a3 * (48271 : Int64)) / (2147483647 : Int64) * (2147483647 : Int64)) / (64 : Int64)) - (((a3 * (48271 : Int64)) - (a3 * (48271 : Int64)) / (2147483647 : Int64) * (2147483647 : Int64)) / (64 : Int64)) / (6 : Int64) * (6 : Int64))))] ii_mo_lots_151 rfl rfl rfl rfl ?_
        refine sm_goto 58 ii_mo_lots_154 (by decide) ?_
        refine sm_msk [true, true, false, true, false, true, false, false] [some (.ref 62), some (.int a1), none, some (.long ((a3 * (48271 : Int64)) - (a3 * (48271 : Int64)) / (2147483647 : Int64) * (2147483647 : Int64))), none, some (.int (a5 + (1 : Int32))), none, none] rfl ?_
        exact hself58 (a1) (((a3 * (48271 : Int64)) - (a3 * (48271 : Int64)) / (2147483647 : Int64) * (2147483647 : Int64))) ((a5 + (1 : Int32))) w13
    · refine sm_aload_n ii_mo_lots_112 rfl ?_
      refine sm_cvV [] [] rfl ii_mo_lots_113 ml_mo_187 (mf_mo_keepPast) (mv_mo_keepPast) (Nat.le_of_ble_eq_true rfl) rfl 7 rfl rfl rfl rfl (mc_mo_keepPast  w8) (fun w15 => ?_)
      refine sm_aload_n ii_mo_lots_116 rfl ?_
      refine sm_iconst (0 : Int32) ii_mo_lots_117 (by decide) ?_
      refine sm_iload ii_mo_lots_118 rfl ?_
      refine sm_iload ii_mo_lots_120 rfl ?_
      refine sm_cvV [.int (0 : Int32), .int (Int64.toInt32 ((((a3 * (48271 : Int64)) - (a3 * (48271 : Int64)) / (2147483647 : Int64) * (2147483647 : Int64)) / (8 : Int64)) - (((a3 * (48271 : Int64)) - (a3 * (48271 : Int64)) / (2147483647 : Int64) * (2147483647 : Int64)) / (8 : Int64)) / (Int32.toInt64 (w.1 62 1)) * (Int32.toInt64 (w.1 62 1)))), .int (Int64.toInt32 ((((a3 * (48271 : Int64)) - (a3 * (48271 : Int64)) / (2147483647 : Int64) * (2147483647 : Int64)) / (64 : Int64)) - (((a3 * (48271 : Int64)) - (a3 * (48271 : Int64)) / (2147483647 : Int64) * (2147483647 : Int64)) / (64 : Int64)) / (6 : Int64) * (6 : Int64)))] [] rfl ii_mo_lots_122 ml_mo_190 (mf_mo_says) (mv_mo_says) (Nat.le_of_ble_eq_true rfl) rfl 7 rfl rfl rfl rfl (mc_mo_says ((0 : Int32)) ((Int64.toInt32 ((((a3 * (48271 : Int64)) - (a3 * (48271 : Int64)) / (2147483647 : Int64) * (2147483647 : Int64)) / (8 : Int64)) - (((a3 * (48271 : Int64)) - (a3 * (48271 : Int64)) / (2147483647 : Int64) * (2147483647 : Int64)) / (8 : Int64)) / (Int32.toInt64 (w.1 62 1)) * (Int32.toInt64 (w.1 62 1))))) ((Int64.toInt32 ((((a3 * (48271 : Int64)) - (a3 * (48271 : Int64)) / (2147483647 : Int64) * (2147483647 : Int64)) / (64 : Int64)) - (((a3 * (48271 : Int64)) - (a3 * (48271 : Int64)) / (2147483647 : Int64) * (2147483647 : Int64)) / (64 : Int64)) / (6 : Int64) * (6 : Int64)))) w15) (fun w17 => ?_)
      refine sm_goto 151 ii_mo_lots_125 (by decide) ?_
      refine sm_iinc (a5 + (1 : Int32)) [some (.ref 62), some (.int a1), none, some (.long ((a3 * (48271 : Int64)) - (a3 * (48271 : Int64)) / (2147483647 : Int64) * (2147483647 : Int64))), none, some (.int (a5 + (1 : Int32))), some (.int (Int64.toInt32 ((((a3 * (48271 : Int64)) - (a3 * (48271 : Int64)) / (2147483647 : Int64) * (2147483647 : Int64)) / (8 : Int64)) - (((a3 * (48271 : Int64)) - (a3 * (48271 : Int64)) / (2147483647 : Int64) * (2147483647 : Int64)) / (8 : Int64)) / (Int32.toInt64 (w.1 62 1)) * (Int32.toInt64 (w.1 62 1))))), some (.int (Int64.toInt32 ((((a3 * (48271 : Int64)) - (a3 * (48271 : Int64)) / (2147483647 : Int64) * (2147483647 : Int64)) / (64 : Int64)) - (((a3 * (48271 : Int64)) - (a3 * (48271 : Int64)) / (2147483647 : Int64) * (2147483647 : Int64)) / (64 : Int64)) / (6 : Int64) * (6 : Int64))))] ii_mo_lots_151 rfl rfl rfl rfl ?_
      refine sm_goto 58 ii_mo_lots_154 (by decide) ?_
      refine sm_msk [true, true, false, true, false, true, false, false] [some (.ref 62), some (.int a1), none, some (.long ((a3 * (48271 : Int64)) - (a3 * (48271 : Int64)) / (2147483647 : Int64) * (2147483647 : Int64))), none, some (.int (a5 + (1 : Int32))), none, none] rfl ?_
      exact hself58 (a1) (((a3 * (48271 : Int64)) - (a3 * (48271 : Int64)) / (2147483647 : Int64) * (2147483647 : Int64))) ((a5 + (1 : Int32))) w17
set_option maxHeartbeats 4000000 in
set_option maxRecDepth 100000 in
theorem ss_mo_lots_58_f {E : Nat × (Nat → Int32)}  : ∀ (n : Nat) (a1 : Int32) (a3 : Int64) (a5 : Int32) (w : sm_Mem), sm_Sim E (mi_mo_lots) 58 [some (.ref 62), some (.int a1), none, some (.long a3), none, some (.int a5), none, none] [] w (ff_mo_lots_58_f  n a1 a3 a5 w)
  | 0, _, _, _, _ => fun _ _ h => by cases h
  | n + 1, a1, a3, a5, w => ss_mo_lots_58_b  _ (ss_mo_lots_58_f  n) a1 a3 a5 w
set_option maxHeartbeats 4000000 in
set_option maxRecDepth 100000 in
theorem ss_mo_lots_58 {E : Nat × (Nat → Int32)}  (a1 : Int32) (a3 : Int64) (a5 : Int32) (w : sm_Mem) : sm_Sim E (mi_mo_lots) 58 [some (.ref 62), some (.int a1), none, some (.long a3), none, some (.int a5), none, none] [] w (ff_mo_lots_58  a1 a3 a5 w) := ss_mo_lots_58_f  sm_N a1 a3 a5 w
noncomputable def ff_mo_lots  (a1 : Int32) (a2 : Int32) (w : sm_Mem) : sm_R := (sm_cI (ff_mo_in ((Int32.toInt64 a1)) ((1 : Int64)) ((20 : Int64)) w) fun x18 w19 => (if x18 = (0 : Int32) then (some (.int (-1 : Int32), w19)) else (sm_cI (ff_mo_in ((Int32.toInt64 a2)) ((1 : Int64)) ((2147483646 : Int64)) w19) fun x20 w21 => (if x20 = (0 : Int32) then (some (.int (-1 : Int32), w21)) else (if (w21.1 62 1) = (0 : Int32) then (some (.int (-4 : Int32), w21)) else (Option.bind (sm_rd w21 63 5184 (0 : Int32)) fun x22 => (if (x22 + a1) ≤ (40 : Int32) then ff_mo_lots_58 (a1) ((Int32.toInt64 a2)) ((0 : Int32)) w21 else (some (.int (-2 : Int32), w21)))))))))
set_option maxHeartbeats 4000000 in
set_option maxRecDepth 100000 in
theorem ss_mo_lots_0 {E : Nat × (Nat → Int32)}  (a1 : Int32) (a2 : Int32) (w : sm_Mem) : sm_Sim E (mi_mo_lots) 0 [some (.ref 62), some (.int a1), some (.int a2), none, none, none, none, none] [] w (ff_mo_lots  a1 a2 w) := by
  unfold ff_mo_lots
  refine sm_iload_n ii_mo_lots_0 rfl ?_
  refine sm_i2l ii_mo_lots_1 ?_
  refine sm_lconst (1 : Int64) ii_mo_lots_2 (by decide) ?_
  refine sm_ldc2 (20 : Int64) ii_mo_lots_3 (List.mem_of_getElem? (i := 1400) (by decide +kernel)) ?_
  refine sm_csI [.long (Int32.toInt64 a1), .long (1 : Int64), .long (20 : Int64)] [] rfl ii_mo_lots_6 ml_mo_71 (mf_mo_in) (mv_mo_in) (Nat.le_of_ble_eq_true rfl) rfl rfl rfl (mc_mo_in ((Int32.toInt64 a1)) ((1 : Int64)) ((20 : Int64)) w) (fun x18 w19 => ?_)
  refine sm_if_eq 24 ii_mo_lots_9 (by decide) ?_ ?_
  · refine sm_iconst (-1 : Int32) ii_mo_lots_24 (by decide) ?_
    exact sm_iret ii_mo_lots_25 rfl
  · refine sm_iload_n ii_mo_lots_12 rfl ?_
    refine sm_i2l ii_mo_lots_13 ?_
    refine sm_lconst (1 : Int64) ii_mo_lots_14 (by decide) ?_
    refine sm_ldc2 (2147483646 : Int64) ii_mo_lots_15 (List.mem_of_getElem? (i := 1401) (by decide +kernel)) ?_
    refine sm_csI [.long (Int32.toInt64 a2), .long (1 : Int64), .long (2147483646 : Int64)] [] rfl ii_mo_lots_18 ml_mo_71 (mf_mo_in) (mv_mo_in) (Nat.le_of_ble_eq_true rfl) rfl rfl rfl (mc_mo_in ((Int32.toInt64 a2)) ((1 : Int64)) ((2147483646 : Int64)) w19) (fun x20 w21 => ?_)
    refine sm_if_ne 26 ii_mo_lots_21 (by decide) ?_ ?_
    · refine sm_iconst (-1 : Int32) ii_mo_lots_24 (by decide) ?_
      exact sm_iret ii_mo_lots_25 rfl
    · refine sm_aload_n ii_mo_lots_26 rfl ?_
      refine sm_getI ii_mo_lots_27 fl_mo_135 (k := 62) rfl ?_
      refine sm_if_ne 36 ii_mo_lots_30 (by decide) ?_ ?_
      · refine sm_bipush (-4 : Int32) ii_mo_lots_33 (by decide) ?_
        exact sm_iret ii_mo_lots_35 rfl
      · refine sm_aload_n ii_mo_lots_36 rfl ?_
        refine sm_getR 63 ii_mo_lots_37 fl_mo_7 (k := 62) rfl ?_
        refine sm_iconst (0 : Int32) ii_mo_lots_40 (by decide) ?_
        refine sm_iald ii_mo_lots_41 (k := 63) rfl (fun x22 => ?_)
        refine sm_iload_n ii_mo_lots_42 rfl ?_
        refine sm_iadd ii_mo_lots_43 ?_
        refine sm_bipush (40 : Int32) ii_mo_lots_44 (by decide) ?_
        refine sm_icmp_le 52 ii_mo_lots_46 (by decide) ?_ ?_
        · refine sm_iload_n ii_mo_lots_52 rfl ?_
          refine sm_i2l ii_mo_lots_53 ?_
          refine sm_lstore_n [some (.ref 62), some (.int a1), some (.int a2), some (.long (Int32.toInt64 a2)), none, none, none, none] ii_mo_lots_54 rfl rfl ?_
          refine sm_iconst (0 : Int32) ii_mo_lots_55 (by decide) ?_
          refine sm_istore [some (.ref 62), some (.int a1), some (.int a2), some (.long (Int32.toInt64 a2)), none, some (.int (0 : Int32)), none, none] ii_mo_lots_56 rfl rfl ?_
          refine sm_msk [true, true, false, true, false, true, false, false] [some (.ref 62), some (.int a1), none, some (.long (Int32.toInt64 a2)), none, some (.int (0 : Int32)), none, none] rfl ?_
          exact ss_mo_lots_58 (a1) ((Int32.toInt64 a2)) ((0 : Int32)) w21
        · refine sm_bipush (-2 : Int32) ii_mo_lots_49 (by decide) ?_
          exact sm_iret ii_mo_lots_51 rfl
set_option maxHeartbeats 4000000 in
set_option maxRecDepth 100000 in
theorem mc_mo_lots (a1 : Int32) (a2 : Int32) (w : sm_Mem) : sm_MC mi_mo_lots [.ref 62, .int a1, .int a2] w (ff_mo_lots a1 a2 w) := sm_MC_of (0, fun _ => 0) (by decide +kernel) (by decide) rfl (Nat.le_of_ble_eq_true rfl) (ss_mo_lots_0 a1 a2 w)
abbrev mi_ho_asked : sm_MI := (⟨"HerOrders", "asked", "()I"⟩, prog_1_method_39_code, 1, (some .int), 1)
set_option maxRecDepth 100000 in
theorem mf_ho_asked : sm_MF mi_ho_asked 0 := ⟨List.mem_of_getElem? (i := 873) (by decide +kernel), List.mem_of_getElem? (i := 124) (by decide +kernel), ⟨by decide, by decide⟩, by decide +kernel⟩
set_option maxRecDepth 100000 in
theorem mv_ho_asked : sm_MFV mi_ho_asked := ⟨List.mem_of_getElem? (i := 871) (by decide +kernel), List.mem_of_getElem? (i := 872) (by decide +kernel)⟩
set_option maxRecDepth 100000 in
theorem ii_ho_asked_0 : sm_D prog_1_method_39_code 0 1 1 (.aload_n 0) := ⟨by decide +kernel, rfl⟩
set_option maxRecDepth 100000 in
theorem ii_ho_asked_1 : sm_D prog_1_method_39_code 1 3 4 (.getfield 54) := ⟨by decide +kernel, rfl⟩
set_option maxRecDepth 100000 in
theorem ii_ho_asked_4 : sm_D prog_1_method_39_code 4 3 7 (.getfield 70) := ⟨by decide +kernel, rfl⟩
set_option maxRecDepth 100000 in
theorem ii_ho_asked_7 : sm_D prog_1_method_39_code 7 1 8 (.ireturn) := ⟨by decide +kernel, rfl⟩
noncomputable def ff_ho_asked   (w : sm_Mem) : sm_R := (some (.int (w.1 60 0), w))
set_option maxHeartbeats 4000000 in
set_option maxRecDepth 100000 in
theorem ss_ho_asked_0 {E : Nat × (Nat → Int32)}   (w : sm_Mem) : sm_Sim E (mi_ho_asked) 0 [some (.ref 0)] [] w (ff_ho_asked   w) := by
  unfold ff_ho_asked
  refine sm_aload_n ii_ho_asked_0 rfl ?_
  refine sm_getR 60 ii_ho_asked_1 fl_ho_54 (k := 0) rfl ?_
  refine sm_getI ii_ho_asked_4 fl_ho_70 (k := 60) rfl ?_
  exact sm_iret ii_ho_asked_7 rfl
set_option maxHeartbeats 4000000 in
set_option maxRecDepth 100000 in
theorem mc_ho_asked  (w : sm_Mem) : sm_MC mi_ho_asked [.ref 0] w (ff_ho_asked  w) := sm_MC_of (0, fun _ => 0) (by decide +kernel) (by decide) rfl (Nat.le_of_ble_eq_true rfl) (ss_ho_asked_0  w)
abbrev mi_mo_asked : sm_MI := (⟨"HerOrdersModel", "asked", "()I"⟩, prog_9_method_96_code, 1, (some .int), 1)
set_option maxRecDepth 100000 in
theorem mf_mo_asked : sm_MF mi_mo_asked 0 := ⟨List.mem_of_getElem? (i := 1410) (by decide +kernel), List.mem_of_getElem? (i := 132) (by decide +kernel), ⟨by decide, by decide⟩, by decide +kernel⟩
set_option maxRecDepth 100000 in
theorem mv_mo_asked : sm_MFV mi_mo_asked := ⟨List.mem_of_getElem? (i := 1408) (by decide +kernel), List.mem_of_getElem? (i := 1409) (by decide +kernel)⟩
set_option maxRecDepth 100000 in
theorem ii_mo_asked_0 : sm_D prog_9_method_96_code 0 1 1 (.aload_n 0) := ⟨by decide +kernel, rfl⟩
set_option maxRecDepth 100000 in
theorem ii_mo_asked_1 : sm_D prog_9_method_96_code 1 3 4 (.getfield 66) := ⟨by decide +kernel, rfl⟩
set_option maxRecDepth 100000 in
theorem ii_mo_asked_4 : sm_D prog_9_method_96_code 4 1 5 (.ireturn) := ⟨by decide +kernel, rfl⟩
noncomputable def ff_mo_asked   (w : sm_Mem) : sm_R := (some (.int (w.1 62 9), w))
set_option maxHeartbeats 4000000 in
set_option maxRecDepth 100000 in
theorem ss_mo_asked_0 {E : Nat × (Nat → Int32)}   (w : sm_Mem) : sm_Sim E (mi_mo_asked) 0 [some (.ref 62)] [] w (ff_mo_asked   w) := by
  unfold ff_mo_asked
  refine sm_aload_n ii_mo_asked_0 rfl ?_
  refine sm_getI ii_mo_asked_1 fl_mo_66 (k := 62) rfl ?_
  exact sm_iret ii_mo_asked_4 rfl
set_option maxHeartbeats 4000000 in
set_option maxRecDepth 100000 in
theorem mc_mo_asked  (w : sm_Mem) : sm_MC mi_mo_asked [.ref 62] w (ff_mo_asked  w) := sm_MC_of (0, fun _ => 0) (by decide +kernel) (by decide) rfl (Nat.le_of_ble_eq_true rfl) (ss_mo_asked_0  w)
abbrev mi_ho_upper : sm_MI := (⟨"HerOrders", "upper", "()J"⟩, prog_1_method_40_code, 1, (some .long), 1)
set_option maxRecDepth 100000 in
theorem mf_ho_upper : sm_MF mi_ho_upper 0 := ⟨List.mem_of_getElem? (i := 877) (by decide +kernel), List.mem_of_getElem? (i := 124) (by decide +kernel), ⟨by decide, by decide⟩, by decide +kernel⟩
set_option maxRecDepth 100000 in
theorem mv_ho_upper : sm_MFV mi_ho_upper := ⟨List.mem_of_getElem? (i := 875) (by decide +kernel), List.mem_of_getElem? (i := 876) (by decide +kernel)⟩
set_option maxRecDepth 100000 in
theorem ii_ho_upper_0 : sm_D prog_1_method_40_code 0 1 1 (.aload_n 0) := ⟨by decide +kernel, rfl⟩
set_option maxRecDepth 100000 in
theorem ii_ho_upper_1 : sm_D prog_1_method_40_code 1 3 4 (.getfield 54) := ⟨by decide +kernel, rfl⟩
set_option maxRecDepth 100000 in
theorem ii_ho_upper_4 : sm_D prog_1_method_40_code 4 3 7 (.getfield 300) := ⟨by decide +kernel, rfl⟩
set_option maxRecDepth 100000 in
theorem ii_ho_upper_7 : sm_D prog_1_method_40_code 7 1 8 (.lreturn) := ⟨by decide +kernel, rfl⟩
noncomputable def ff_ho_upper   (w : sm_Mem) : sm_R := (some (.long (w.2 60 1), w))
set_option maxHeartbeats 4000000 in
set_option maxRecDepth 100000 in
theorem ss_ho_upper_0 {E : Nat × (Nat → Int32)}   (w : sm_Mem) : sm_Sim E (mi_ho_upper) 0 [some (.ref 0)] [] w (ff_ho_upper   w) := by
  unfold ff_ho_upper
  refine sm_aload_n ii_ho_upper_0 rfl ?_
  refine sm_getR 60 ii_ho_upper_1 fl_ho_54 (k := 0) rfl ?_
  refine sm_getL ii_ho_upper_4 fl_ho_300 (k := 60) rfl ?_
  exact sm_lret ii_ho_upper_7 rfl
set_option maxHeartbeats 4000000 in
set_option maxRecDepth 100000 in
theorem mc_ho_upper  (w : sm_Mem) : sm_MC mi_ho_upper [.ref 0] w (ff_ho_upper  w) := sm_MC_of (0, fun _ => 0) (by decide +kernel) (by decide) rfl (Nat.le_of_ble_eq_true rfl) (ss_ho_upper_0  w)
abbrev mi_mo_upper : sm_MI := (⟨"HerOrdersModel", "upper", "()J"⟩, prog_9_method_97_code, 1, (some .long), 1)
set_option maxRecDepth 100000 in
theorem mf_mo_upper : sm_MF mi_mo_upper 0 := ⟨List.mem_of_getElem? (i := 1414) (by decide +kernel), List.mem_of_getElem? (i := 132) (by decide +kernel), ⟨by decide, by decide⟩, by decide +kernel⟩
set_option maxRecDepth 100000 in
theorem mv_mo_upper : sm_MFV mi_mo_upper := ⟨List.mem_of_getElem? (i := 1412) (by decide +kernel), List.mem_of_getElem? (i := 1413) (by decide +kernel)⟩
set_option maxRecDepth 100000 in
theorem ii_mo_upper_0 : sm_D prog_9_method_97_code 0 1 1 (.aload_n 0) := ⟨by decide +kernel, rfl⟩
set_option maxRecDepth 100000 in
theorem ii_mo_upper_1 : sm_D prog_9_method_97_code 1 3 4 (.getfield 245) := ⟨by decide +kernel, rfl⟩
set_option maxRecDepth 100000 in
theorem ii_mo_upper_4 : sm_D prog_9_method_97_code 4 1 5 (.lreturn) := ⟨by decide +kernel, rfl⟩
noncomputable def ff_mo_upper   (w : sm_Mem) : sm_R := (some (.long (w.2 62 10), w))
set_option maxHeartbeats 4000000 in
set_option maxRecDepth 100000 in
theorem ss_mo_upper_0 {E : Nat × (Nat → Int32)}   (w : sm_Mem) : sm_Sim E (mi_mo_upper) 0 [some (.ref 62)] [] w (ff_mo_upper   w) := by
  unfold ff_mo_upper
  refine sm_aload_n ii_mo_upper_0 rfl ?_
  refine sm_getL ii_mo_upper_1 fl_mo_245 (k := 62) rfl ?_
  exact sm_lret ii_mo_upper_4 rfl
set_option maxHeartbeats 4000000 in
set_option maxRecDepth 100000 in
theorem mc_mo_upper  (w : sm_Mem) : sm_MC mi_mo_upper [.ref 62] w (ff_mo_upper  w) := sm_MC_of (0, fun _ => 0) (by decide +kernel) (by decide) rfl (Nat.le_of_ble_eq_true rfl) (ss_mo_upper_0  w)
abbrev mi_ho_lower : sm_MI := (⟨"HerOrders", "lower", "()J"⟩, prog_1_method_41_code, 1, (some .long), 1)
set_option maxRecDepth 100000 in
theorem mf_ho_lower : sm_MF mi_ho_lower 0 := ⟨List.mem_of_getElem? (i := 881) (by decide +kernel), List.mem_of_getElem? (i := 124) (by decide +kernel), ⟨by decide, by decide⟩, by decide +kernel⟩
set_option maxRecDepth 100000 in
theorem mv_ho_lower : sm_MFV mi_ho_lower := ⟨List.mem_of_getElem? (i := 879) (by decide +kernel), List.mem_of_getElem? (i := 880) (by decide +kernel)⟩
set_option maxRecDepth 100000 in
theorem ii_ho_lower_0 : sm_D prog_1_method_41_code 0 1 1 (.aload_n 0) := ⟨by decide +kernel, rfl⟩
set_option maxRecDepth 100000 in
theorem ii_ho_lower_1 : sm_D prog_1_method_41_code 1 3 4 (.getfield 54) := ⟨by decide +kernel, rfl⟩
set_option maxRecDepth 100000 in
theorem ii_ho_lower_4 : sm_D prog_1_method_41_code 4 3 7 (.getfield 304) := ⟨by decide +kernel, rfl⟩
set_option maxRecDepth 100000 in
theorem ii_ho_lower_7 : sm_D prog_1_method_41_code 7 1 8 (.lreturn) := ⟨by decide +kernel, rfl⟩
noncomputable def ff_ho_lower   (w : sm_Mem) : sm_R := (some (.long (w.2 60 2), w))
set_option maxHeartbeats 4000000 in
set_option maxRecDepth 100000 in
theorem ss_ho_lower_0 {E : Nat × (Nat → Int32)}   (w : sm_Mem) : sm_Sim E (mi_ho_lower) 0 [some (.ref 0)] [] w (ff_ho_lower   w) := by
  unfold ff_ho_lower
  refine sm_aload_n ii_ho_lower_0 rfl ?_
  refine sm_getR 60 ii_ho_lower_1 fl_ho_54 (k := 0) rfl ?_
  refine sm_getL ii_ho_lower_4 fl_ho_304 (k := 60) rfl ?_
  exact sm_lret ii_ho_lower_7 rfl
set_option maxHeartbeats 4000000 in
set_option maxRecDepth 100000 in
theorem mc_ho_lower  (w : sm_Mem) : sm_MC mi_ho_lower [.ref 0] w (ff_ho_lower  w) := sm_MC_of (0, fun _ => 0) (by decide +kernel) (by decide) rfl (Nat.le_of_ble_eq_true rfl) (ss_ho_lower_0  w)
abbrev mi_mo_lower : sm_MI := (⟨"HerOrdersModel", "lower", "()J"⟩, prog_9_method_98_code, 1, (some .long), 1)
set_option maxRecDepth 100000 in
theorem mf_mo_lower : sm_MF mi_mo_lower 0 := ⟨List.mem_of_getElem? (i := 1418) (by decide +kernel), List.mem_of_getElem? (i := 132) (by decide +kernel), ⟨by decide, by decide⟩, by decide +kernel⟩
set_option maxRecDepth 100000 in
theorem mv_mo_lower : sm_MFV mi_mo_lower := ⟨List.mem_of_getElem? (i := 1416) (by decide +kernel), List.mem_of_getElem? (i := 1417) (by decide +kernel)⟩
set_option maxRecDepth 100000 in
theorem ii_mo_lower_0 : sm_D prog_9_method_98_code 0 1 1 (.aload_n 0) := ⟨by decide +kernel, rfl⟩
set_option maxRecDepth 100000 in
theorem ii_mo_lower_1 : sm_D prog_9_method_98_code 1 3 4 (.getfield 34) := ⟨by decide +kernel, rfl⟩
set_option maxRecDepth 100000 in
theorem ii_mo_lower_4 : sm_D prog_9_method_98_code 4 1 5 (.lreturn) := ⟨by decide +kernel, rfl⟩
noncomputable def ff_mo_lower   (w : sm_Mem) : sm_R := (some (.long (w.2 62 11), w))
set_option maxHeartbeats 4000000 in
set_option maxRecDepth 100000 in
theorem ss_mo_lower_0 {E : Nat × (Nat → Int32)}   (w : sm_Mem) : sm_Sim E (mi_mo_lower) 0 [some (.ref 62)] [] w (ff_mo_lower   w) := by
  unfold ff_mo_lower
  refine sm_aload_n ii_mo_lower_0 rfl ?_
  refine sm_getL ii_mo_lower_1 fl_mo_34 (k := 62) rfl ?_
  exact sm_lret ii_mo_lower_4 rfl
set_option maxHeartbeats 4000000 in
set_option maxRecDepth 100000 in
theorem mc_mo_lower  (w : sm_Mem) : sm_MC mi_mo_lower [.ref 62] w (ff_mo_lower  w) := sm_MC_of (0, fun _ => 0) (by decide +kernel) (by decide) rfl (Nat.le_of_ble_eq_true rfl) (ss_mo_lower_0  w)
abbrev mi_hs_breathLeft : sm_MI := (⟨"HerOrders$House", "breathLeft", "()I"⟩, prog_3_method_26_code, 3, (some .int), 1)
set_option maxRecDepth 100000 in
theorem mf_hs_breathLeft : sm_MF mi_hs_breathLeft 0 := ⟨List.mem_of_getElem? (i := 893) (by decide +kernel), List.mem_of_getElem? (i := 128) (by decide +kernel), ⟨by decide, by decide⟩, by decide +kernel⟩
set_option maxRecDepth 100000 in
theorem mv_hs_breathLeft : sm_MFV mi_hs_breathLeft := ⟨List.mem_of_getElem? (i := 892) (by decide +kernel), List.mem_of_getElem? (i := 67) (by decide +kernel)⟩
set_option maxRecDepth 100000 in
theorem ii_hs_breathLeft_0 : sm_D prog_3_method_26_code 0 1 1 (.iconst 0) := ⟨by decide +kernel, rfl⟩
set_option maxRecDepth 100000 in
theorem ii_hs_breathLeft_1 : sm_D prog_3_method_26_code 1 1 2 (.istore_n 1) := ⟨by decide +kernel, rfl⟩
set_option maxRecDepth 100000 in
theorem ii_hs_breathLeft_2 : sm_D prog_3_method_26_code 2 1 3 (.iconst 0) := ⟨by decide +kernel, rfl⟩
set_option maxRecDepth 100000 in
theorem ii_hs_breathLeft_3 : sm_D prog_3_method_26_code 3 1 4 (.istore_n 2) := ⟨by decide +kernel, rfl⟩
set_option maxRecDepth 100000 in
theorem ii_hs_breathLeft_4 : sm_D prog_3_method_26_code 4 1 5 (.iload_n 2) := ⟨by decide +kernel, rfl⟩
set_option maxRecDepth 100000 in
theorem ii_hs_breathLeft_5 : sm_D prog_3_method_26_code 5 1 6 (.aload_n 0) := ⟨by decide +kernel, rfl⟩
set_option maxRecDepth 100000 in
theorem ii_hs_breathLeft_6 : sm_D prog_3_method_26_code 6 3 9 (.getfield 45) := ⟨by decide +kernel, rfl⟩
set_option maxRecDepth 100000 in
theorem ii_hs_breathLeft_9 : sm_D prog_3_method_26_code 9 3 12 (.if_icmp .ge 18) := ⟨by decide +kernel, rfl⟩
set_option maxRecDepth 100000 in
theorem ii_hs_breathLeft_12 : sm_D prog_3_method_26_code 12 1 13 (.iload_n 1) := ⟨by decide +kernel, rfl⟩
set_option maxRecDepth 100000 in
theorem ii_hs_breathLeft_13 : sm_D prog_3_method_26_code 13 1 14 (.aload_n 0) := ⟨by decide +kernel, rfl⟩
set_option maxRecDepth 100000 in
theorem ii_hs_breathLeft_14 : sm_D prog_3_method_26_code 14 3 17 (.getfield 27) := ⟨by decide +kernel, rfl⟩
set_option maxRecDepth 100000 in
theorem ii_hs_breathLeft_17 : sm_D prog_3_method_26_code 17 1 18 (.iload_n 2) := ⟨by decide +kernel, rfl⟩
set_option maxRecDepth 100000 in
theorem ii_hs_breathLeft_18 : sm_D prog_3_method_26_code 18 1 19 (.iaload) := ⟨by decide +kernel, rfl⟩
set_option maxRecDepth 100000 in
theorem ii_hs_breathLeft_19 : sm_D prog_3_method_26_code 19 1 20 (.iadd) := ⟨by decide +kernel, rfl⟩
set_option maxRecDepth 100000 in
theorem ii_hs_breathLeft_20 : sm_D prog_3_method_26_code 20 1 21 (.istore_n 1) := ⟨by decide +kernel, rfl⟩
set_option maxRecDepth 100000 in
theorem ii_hs_breathLeft_21 : sm_D prog_3_method_26_code 21 3 24 (.iinc 2 1) := ⟨by decide +kernel, rfl⟩
set_option maxRecDepth 100000 in
theorem ii_hs_breathLeft_24 : sm_D prog_3_method_26_code 24 3 27 (.goto (-20)) := ⟨by decide +kernel, rfl⟩
set_option maxRecDepth 100000 in
theorem ii_hs_breathLeft_27 : sm_D prog_3_method_26_code 27 1 28 (.iload_n 1) := ⟨by decide +kernel, rfl⟩
set_option maxRecDepth 100000 in
theorem ii_hs_breathLeft_28 : sm_D prog_3_method_26_code 28 1 29 (.ireturn) := ⟨by decide +kernel, rfl⟩
noncomputable def ff_hs_breathLeft_4_b  (self4 : Int32 → Int32 → sm_Mem → sm_R) (a1 : Int32) (a2 : Int32) (w : sm_Mem) : sm_R := (if (w.1 36 0) ≤ a2 then (some (.int a1, w)) else (Option.bind (sm_rd w 42 6 a2) fun x1 => self4 ((a1 + x1)) ((a2 + (1 : Int32))) w))
noncomputable def ff_hs_breathLeft_4_f  : Nat → Int32 → Int32 → sm_Mem → sm_R
  | 0, _, _, _ => none
  | n + 1, a1, a2, w => ff_hs_breathLeft_4_b  (ff_hs_breathLeft_4_f  n) a1 a2 w
noncomputable def ff_hs_breathLeft_4  (a1 : Int32) (a2 : Int32) (w : sm_Mem) : sm_R := ff_hs_breathLeft_4_f  sm_N a1 a2 w
set_option maxHeartbeats 4000000 in
set_option maxRecDepth 100000 in
theorem ss_hs_breathLeft_4_b {E : Nat × (Nat → Int32)}  (self4 : Int32 → Int32 → sm_Mem → sm_R) (hself4 : ∀ (a1 : Int32) (a2 : Int32) (w : sm_Mem), sm_Sim E (mi_hs_breathLeft) 4 [some (.ref 36), some (.int a1), some (.int a2)] [] w (self4 a1 a2 w)) (a1 : Int32) (a2 : Int32) (w : sm_Mem) : sm_Sim E (mi_hs_breathLeft) 4 [some (.ref 36), some (.int a1), some (.int a2)] [] w (ff_hs_breathLeft_4_b  self4 a1 a2 w) := by
  unfold ff_hs_breathLeft_4_b
  refine sm_iload_n ii_hs_breathLeft_4 rfl ?_
  refine sm_aload_n ii_hs_breathLeft_5 rfl ?_
  refine sm_getI ii_hs_breathLeft_6 fl_hs_45 (k := 36) rfl ?_
  refine sm_icmp_ge 27 ii_hs_breathLeft_9 (by decide) ?_ ?_
  · refine sm_iload_n ii_hs_breathLeft_27 rfl ?_
    exact sm_iret ii_hs_breathLeft_28 rfl
  · refine sm_iload_n ii_hs_breathLeft_12 rfl ?_
    refine sm_aload_n ii_hs_breathLeft_13 rfl ?_
    refine sm_getR 42 ii_hs_breathLeft_14 fl_hs_27 (k := 36) rfl ?_
    refine sm_iload_n ii_hs_breathLeft_17 rfl ?_
    refine sm_iald ii_hs_breathLeft_18 (k := 42) rfl (fun x1 => ?_)
    refine sm_iadd ii_hs_breathLeft_19 ?_
    refine sm_istore_n [some (.ref 36), some (.int (a1 + x1)), some (.int a2)] ii_hs_breathLeft_20 rfl rfl ?_
    refine sm_iinc (a2 + (1 : Int32)) [some (.ref 36), some (.int (a1 + x1)), some (.int (a2 + (1 : Int32)))] ii_hs_breathLeft_21 rfl rfl rfl rfl ?_
    refine sm_goto 4 ii_hs_breathLeft_24 (by decide) ?_
    exact hself4 ((a1 + x1)) ((a2 + (1 : Int32))) w
set_option maxHeartbeats 4000000 in
set_option maxRecDepth 100000 in
theorem ss_hs_breathLeft_4_f {E : Nat × (Nat → Int32)}  : ∀ (n : Nat) (a1 : Int32) (a2 : Int32) (w : sm_Mem), sm_Sim E (mi_hs_breathLeft) 4 [some (.ref 36), some (.int a1), some (.int a2)] [] w (ff_hs_breathLeft_4_f  n a1 a2 w)
  | 0, _, _, _ => fun _ _ h => by cases h
  | n + 1, a1, a2, w => ss_hs_breathLeft_4_b  _ (ss_hs_breathLeft_4_f  n) a1 a2 w
set_option maxHeartbeats 4000000 in
set_option maxRecDepth 100000 in
theorem ss_hs_breathLeft_4 {E : Nat × (Nat → Int32)}  (a1 : Int32) (a2 : Int32) (w : sm_Mem) : sm_Sim E (mi_hs_breathLeft) 4 [some (.ref 36), some (.int a1), some (.int a2)] [] w (ff_hs_breathLeft_4  a1 a2 w) := ss_hs_breathLeft_4_f  sm_N a1 a2 w
noncomputable def ff_hs_breathLeft   (w : sm_Mem) : sm_R := ff_hs_breathLeft_4 ((0 : Int32)) ((0 : Int32)) w
set_option maxHeartbeats 4000000 in
set_option maxRecDepth 100000 in
theorem ss_hs_breathLeft_0 {E : Nat × (Nat → Int32)}   (w : sm_Mem) : sm_Sim E (mi_hs_breathLeft) 0 [some (.ref 36), none, none] [] w (ff_hs_breathLeft   w) := by
  unfold ff_hs_breathLeft
  refine sm_iconst (0 : Int32) ii_hs_breathLeft_0 (by decide) ?_
  refine sm_istore_n [some (.ref 36), some (.int (0 : Int32)), none] ii_hs_breathLeft_1 rfl rfl ?_
  refine sm_iconst (0 : Int32) ii_hs_breathLeft_2 (by decide) ?_
  refine sm_istore_n [some (.ref 36), some (.int (0 : Int32)), some (.int (0 : Int32))] ii_hs_breathLeft_3 rfl rfl ?_
  exact ss_hs_breathLeft_4 ((0 : Int32)) ((0 : Int32)) w
set_option maxHeartbeats 4000000 in
set_option maxRecDepth 100000 in
theorem mc_hs_breathLeft  (w : sm_Mem) : sm_MC mi_hs_breathLeft [.ref 36] w (ff_hs_breathLeft  w) := sm_MC_of (0, fun _ => 0) (by decide +kernel) (by decide) rfl (Nat.le_of_ble_eq_true rfl) (ss_hs_breathLeft_0  w)
abbrev mi_hs_sayableByAny : sm_MI := (⟨"HerOrders$House", "sayableByAny", "()I"⟩, prog_3_method_18_code, 3, (some .int), 4)
set_option maxRecDepth 100000 in
theorem mf_hs_sayableByAny : sm_MF mi_hs_sayableByAny 0 := ⟨List.mem_of_getElem? (i := 897) (by decide +kernel), List.mem_of_getElem? (i := 128) (by decide +kernel), ⟨by decide, by decide⟩, by decide +kernel⟩
set_option maxRecDepth 100000 in
theorem mv_hs_sayableByAny : sm_MFV mi_hs_sayableByAny := ⟨List.mem_of_getElem? (i := 896) (by decide +kernel), List.mem_of_getElem? (i := 68) (by decide +kernel)⟩
set_option maxRecDepth 100000 in
theorem ii_hs_sayableByAny_0 : sm_D prog_3_method_18_code 0 1 1 (.iconst 0) := ⟨by decide +kernel, rfl⟩
set_option maxRecDepth 100000 in
theorem ii_hs_sayableByAny_1 : sm_D prog_3_method_18_code 1 1 2 (.istore_n 1) := ⟨by decide +kernel, rfl⟩
set_option maxRecDepth 100000 in
theorem ii_hs_sayableByAny_2 : sm_D prog_3_method_18_code 2 1 3 (.iconst 0) := ⟨by decide +kernel, rfl⟩
set_option maxRecDepth 100000 in
theorem ii_hs_sayableByAny_3 : sm_D prog_3_method_18_code 3 1 4 (.istore_n 2) := ⟨by decide +kernel, rfl⟩
set_option maxRecDepth 100000 in
theorem ii_hs_sayableByAny_4 : sm_D prog_3_method_18_code 4 1 5 (.iload_n 2) := ⟨by decide +kernel, rfl⟩
set_option maxRecDepth 100000 in
theorem ii_hs_sayableByAny_5 : sm_D prog_3_method_18_code 5 1 6 (.aload_n 0) := ⟨by decide +kernel, rfl⟩
set_option maxRecDepth 100000 in
theorem ii_hs_sayableByAny_6 : sm_D prog_3_method_18_code 6 3 9 (.getfield 45) := ⟨by decide +kernel, rfl⟩
set_option maxRecDepth 100000 in
theorem ii_hs_sayableByAny_9 : sm_D prog_3_method_18_code 9 3 12 (.if_icmp .ge 17) := ⟨by decide +kernel, rfl⟩
set_option maxRecDepth 100000 in
theorem ii_hs_sayableByAny_12 : sm_D prog_3_method_18_code 12 1 13 (.iload_n 1) := ⟨by decide +kernel, rfl⟩
set_option maxRecDepth 100000 in
theorem ii_hs_sayableByAny_13 : sm_D prog_3_method_18_code 13 1 14 (.aload_n 0) := ⟨by decide +kernel, rfl⟩
set_option maxRecDepth 100000 in
theorem ii_hs_sayableByAny_14 : sm_D prog_3_method_18_code 14 1 15 (.iload_n 2) := ⟨by decide +kernel, rfl⟩
set_option maxRecDepth 100000 in
theorem ii_hs_sayableByAny_15 : sm_D prog_3_method_18_code 15 3 18 (.invokevirtual 126) := ⟨by decide +kernel, rfl⟩
set_option maxRecDepth 100000 in
theorem ii_hs_sayableByAny_18 : sm_D prog_3_method_18_code 18 1 19 (.ior) := ⟨by decide +kernel, rfl⟩
set_option maxRecDepth 100000 in
theorem ii_hs_sayableByAny_19 : sm_D prog_3_method_18_code 19 1 20 (.istore_n 1) := ⟨by decide +kernel, rfl⟩
set_option maxRecDepth 100000 in
theorem ii_hs_sayableByAny_20 : sm_D prog_3_method_18_code 20 3 23 (.iinc 2 1) := ⟨by decide +kernel, rfl⟩
set_option maxRecDepth 100000 in
theorem ii_hs_sayableByAny_23 : sm_D prog_3_method_18_code 23 3 26 (.goto (-19)) := ⟨by decide +kernel, rfl⟩
set_option maxRecDepth 100000 in
theorem ii_hs_sayableByAny_26 : sm_D prog_3_method_18_code 26 1 27 (.iload_n 1) := ⟨by decide +kernel, rfl⟩
set_option maxRecDepth 100000 in
theorem ii_hs_sayableByAny_27 : sm_D prog_3_method_18_code 27 1 28 (.ireturn) := ⟨by decide +kernel, rfl⟩
noncomputable def ff_hs_sayableByAny_4_b  (self4 : Int32 → Int32 → sm_Mem → sm_R) (a1 : Int32) (a2 : Int32) (w : sm_Mem) : sm_R := (if (w.1 36 0) ≤ a2 then (some (.int a1, w)) else (sm_cI (ff_hs_sayable (a2) w) fun x1 w2 => self4 ((a1 ||| x1)) ((a2 + (1 : Int32))) w2))
noncomputable def ff_hs_sayableByAny_4_f  : Nat → Int32 → Int32 → sm_Mem → sm_R
  | 0, _, _, _ => none
  | n + 1, a1, a2, w => ff_hs_sayableByAny_4_b  (ff_hs_sayableByAny_4_f  n) a1 a2 w
noncomputable def ff_hs_sayableByAny_4  (a1 : Int32) (a2 : Int32) (w : sm_Mem) : sm_R := ff_hs_sayableByAny_4_f  sm_N a1 a2 w
set_option maxHeartbeats 4000000 in
set_option maxRecDepth 100000 in
theorem ss_hs_sayableByAny_4_b {E : Nat × (Nat → Int32)}  (self4 : Int32 → Int32 → sm_Mem → sm_R) (hself4 : ∀ (a1 : Int32) (a2 : Int32) (w : sm_Mem), sm_Sim E (mi_hs_sayableByAny) 4 [some (.ref 36), some (.int a1), some (.int a2)] [] w (self4 a1 a2 w)) (a1 : Int32) (a2 : Int32) (w : sm_Mem) : sm_Sim E (mi_hs_sayableByAny) 4 [some (.ref 36), some (.int a1), some (.int a2)] [] w (ff_hs_sayableByAny_4_b  self4 a1 a2 w) := by
  unfold ff_hs_sayableByAny_4_b
  refine sm_iload_n ii_hs_sayableByAny_4 rfl ?_
  refine sm_aload_n ii_hs_sayableByAny_5 rfl ?_
  refine sm_getI ii_hs_sayableByAny_6 fl_hs_45 (k := 36) rfl ?_
  refine sm_icmp_ge 26 ii_hs_sayableByAny_9 (by decide) ?_ ?_
  · refine sm_iload_n ii_hs_sayableByAny_26 rfl ?_
    exact sm_iret ii_hs_sayableByAny_27 rfl
  · refine sm_iload_n ii_hs_sayableByAny_12 rfl ?_
    refine sm_aload_n ii_hs_sayableByAny_13 rfl ?_
    refine sm_iload_n ii_hs_sayableByAny_14 rfl ?_
    refine sm_cvI [.int a2] [.int a1] rfl ii_hs_sayableByAny_15 ml_hs_126 (mf_hs_sayable) (mv_hs_sayable) (Nat.le_of_ble_eq_true rfl) rfl 1 rfl rfl rfl rfl (mc_hs_sayable (a2) w) (fun x1 w2 => ?_)
    refine sm_ior ii_hs_sayableByAny_18 ?_
    refine sm_istore_n [some (.ref 36), some (.int (a1 ||| x1)), some (.int a2)] ii_hs_sayableByAny_19 rfl rfl ?_
    refine sm_iinc (a2 + (1 : Int32)) [some (.ref 36), some (.int (a1 ||| x1)), some (.int (a2 + (1 : Int32)))] ii_hs_sayableByAny_20 rfl rfl rfl rfl ?_
    refine sm_goto 4 ii_hs_sayableByAny_23 (by decide) ?_
    exact hself4 ((a1 ||| x1)) ((a2 + (1 : Int32))) w2
set_option maxHeartbeats 4000000 in
set_option maxRecDepth 100000 in
theorem ss_hs_sayableByAny_4_f {E : Nat × (Nat → Int32)}  : ∀ (n : Nat) (a1 : Int32) (a2 : Int32) (w : sm_Mem), sm_Sim E (mi_hs_sayableByAny) 4 [some (.ref 36), some (.int a1), some (.int a2)] [] w (ff_hs_sayableByAny_4_f  n a1 a2 w)
  | 0, _, _, _ => fun _ _ h => by cases h
  | n + 1, a1, a2, w => ss_hs_sayableByAny_4_b  _ (ss_hs_sayableByAny_4_f  n) a1 a2 w
set_option maxHeartbeats 4000000 in
set_option maxRecDepth 100000 in
theorem ss_hs_sayableByAny_4 {E : Nat × (Nat → Int32)}  (a1 : Int32) (a2 : Int32) (w : sm_Mem) : sm_Sim E (mi_hs_sayableByAny) 4 [some (.ref 36), some (.int a1), some (.int a2)] [] w (ff_hs_sayableByAny_4  a1 a2 w) := ss_hs_sayableByAny_4_f  sm_N a1 a2 w
noncomputable def ff_hs_sayableByAny   (w : sm_Mem) : sm_R := ff_hs_sayableByAny_4 ((0 : Int32)) ((0 : Int32)) w
set_option maxHeartbeats 4000000 in
set_option maxRecDepth 100000 in
theorem ss_hs_sayableByAny_0 {E : Nat × (Nat → Int32)}   (w : sm_Mem) : sm_Sim E (mi_hs_sayableByAny) 0 [some (.ref 36), none, none] [] w (ff_hs_sayableByAny   w) := by
  unfold ff_hs_sayableByAny
  refine sm_iconst (0 : Int32) ii_hs_sayableByAny_0 (by decide) ?_
  refine sm_istore_n [some (.ref 36), some (.int (0 : Int32)), none] ii_hs_sayableByAny_1 rfl rfl ?_
  refine sm_iconst (0 : Int32) ii_hs_sayableByAny_2 (by decide) ?_
  refine sm_istore_n [some (.ref 36), some (.int (0 : Int32)), some (.int (0 : Int32))] ii_hs_sayableByAny_3 rfl rfl ?_
  exact ss_hs_sayableByAny_4 ((0 : Int32)) ((0 : Int32)) w
set_option maxHeartbeats 4000000 in
set_option maxRecDepth 100000 in
theorem mc_hs_sayableByAny  (w : sm_Mem) : sm_MC mi_hs_sayableByAny [.ref 36] w (ff_hs_sayableByAny  w) := sm_MC_of (0, fun _ => 0) (by decide +kernel) (by decide) rfl (Nat.le_of_ble_eq_true rfl) (ss_hs_sayableByAny_0  w)
abbrev mi_hs_parrots : sm_MI := (⟨"HerOrders$House", "parrots", "()I"⟩, prog_3_method_27_code, 3, (some .int), 2)
set_option maxRecDepth 100000 in
theorem mf_hs_parrots : sm_MF mi_hs_parrots 0 := ⟨List.mem_of_getElem? (i := 901) (by decide +kernel), List.mem_of_getElem? (i := 128) (by decide +kernel), ⟨by decide, by decide⟩, by decide +kernel⟩
set_option maxRecDepth 100000 in
theorem mv_hs_parrots : sm_MFV mi_hs_parrots := ⟨List.mem_of_getElem? (i := 900) (by decide +kernel), List.mem_of_getElem? (i := 69) (by decide +kernel)⟩
set_option maxRecDepth 100000 in
theorem ii_hs_parrots_0 : sm_D prog_3_method_27_code 0 1 1 (.iconst 0) := ⟨by decide +kernel, rfl⟩
set_option maxRecDepth 100000 in
theorem ii_hs_parrots_1 : sm_D prog_3_method_27_code 1 1 2 (.istore_n 1) := ⟨by decide +kernel, rfl⟩
set_option maxRecDepth 100000 in
theorem ii_hs_parrots_2 : sm_D prog_3_method_27_code 2 1 3 (.iconst 0) := ⟨by decide +kernel, rfl⟩
set_option maxRecDepth 100000 in
theorem ii_hs_parrots_3 : sm_D prog_3_method_27_code 3 1 4 (.istore_n 2) := ⟨by decide +kernel, rfl⟩
set_option maxRecDepth 100000 in
theorem ii_hs_parrots_4 : sm_D prog_3_method_27_code 4 1 5 (.iload_n 2) := ⟨by decide +kernel, rfl⟩
set_option maxRecDepth 100000 in
theorem ii_hs_parrots_5 : sm_D prog_3_method_27_code 5 1 6 (.aload_n 0) := ⟨by decide +kernel, rfl⟩
set_option maxRecDepth 100000 in
theorem ii_hs_parrots_6 : sm_D prog_3_method_27_code 6 3 9 (.getfield 45) := ⟨by decide +kernel, rfl⟩
set_option maxRecDepth 100000 in
theorem ii_hs_parrots_9 : sm_D prog_3_method_27_code 9 3 12 (.if_icmp .ge 25) := ⟨by decide +kernel, rfl⟩
set_option maxRecDepth 100000 in
theorem ii_hs_parrots_12 : sm_D prog_3_method_27_code 12 1 13 (.aload_n 0) := ⟨by decide +kernel, rfl⟩
set_option maxRecDepth 100000 in
theorem ii_hs_parrots_13 : sm_D prog_3_method_27_code 13 3 16 (.getfield 9) := ⟨by decide +kernel, rfl⟩
set_option maxRecDepth 100000 in
theorem ii_hs_parrots_16 : sm_D prog_3_method_27_code 16 1 17 (.iload_n 2) := ⟨by decide +kernel, rfl⟩
set_option maxRecDepth 100000 in
theorem ii_hs_parrots_17 : sm_D prog_3_method_27_code 17 1 18 (.iaload) := ⟨by decide +kernel, rfl⟩
set_option maxRecDepth 100000 in
theorem ii_hs_parrots_18 : sm_D prog_3_method_27_code 18 1 19 (.iconst 1) := ⟨by decide +kernel, rfl⟩
set_option maxRecDepth 100000 in
theorem ii_hs_parrots_19 : sm_D prog_3_method_27_code 19 3 22 (.invokestatic 132) := ⟨by decide +kernel, rfl⟩
set_option maxRecDepth 100000 in
theorem ii_hs_parrots_22 : sm_D prog_3_method_27_code 22 3 25 (.ifCond .eq 6) := ⟨by decide +kernel, rfl⟩
set_option maxRecDepth 100000 in
theorem ii_hs_parrots_25 : sm_D prog_3_method_27_code 25 3 28 (.iinc 1 1) := ⟨by decide +kernel, rfl⟩
set_option maxRecDepth 100000 in
theorem ii_hs_parrots_28 : sm_D prog_3_method_27_code 28 3 31 (.iinc 2 1) := ⟨by decide +kernel, rfl⟩
set_option maxRecDepth 100000 in
theorem ii_hs_parrots_31 : sm_D prog_3_method_27_code 31 3 34 (.goto (-27)) := ⟨by decide +kernel, rfl⟩
set_option maxRecDepth 100000 in
theorem ii_hs_parrots_34 : sm_D prog_3_method_27_code 34 1 35 (.iload_n 1) := ⟨by decide +kernel, rfl⟩
set_option maxRecDepth 100000 in
theorem ii_hs_parrots_35 : sm_D prog_3_method_27_code 35 1 36 (.ireturn) := ⟨by decide +kernel, rfl⟩
noncomputable def ff_hs_parrots_4_b  (self4 : Int32 → Int32 → sm_Mem → sm_R) (a1 : Int32) (a2 : Int32) (w : sm_Mem) : sm_R := (if (w.1 36 0) ≤ a2 then (some (.int a1, w)) else (Option.bind (sm_rd w 37 6 a2) fun x1 => (sm_cI (ff_ho_isOf (x1) ((1 : Int32)) w) fun x2 w3 => (if x2 = (0 : Int32) then self4 (a1) ((a2 + (1 : Int32))) w3 else self4 ((a1 + (1 : Int32))) ((a2 + (1 : Int32))) w3))))
noncomputable def ff_hs_parrots_4_f  : Nat → Int32 → Int32 → sm_Mem → sm_R
  | 0, _, _, _ => none
  | n + 1, a1, a2, w => ff_hs_parrots_4_b  (ff_hs_parrots_4_f  n) a1 a2 w
noncomputable def ff_hs_parrots_4  (a1 : Int32) (a2 : Int32) (w : sm_Mem) : sm_R := ff_hs_parrots_4_f  sm_N a1 a2 w
set_option maxHeartbeats 4000000 in
set_option maxRecDepth 100000 in
theorem ss_hs_parrots_4_b {E : Nat × (Nat → Int32)}  (self4 : Int32 → Int32 → sm_Mem → sm_R) (hself4 : ∀ (a1 : Int32) (a2 : Int32) (w : sm_Mem), sm_Sim E (mi_hs_parrots) 4 [some (.ref 36), some (.int a1), some (.int a2)] [] w (self4 a1 a2 w)) (a1 : Int32) (a2 : Int32) (w : sm_Mem) : sm_Sim E (mi_hs_parrots) 4 [some (.ref 36), some (.int a1), some (.int a2)] [] w (ff_hs_parrots_4_b  self4 a1 a2 w) := by
  unfold ff_hs_parrots_4_b
  refine sm_iload_n ii_hs_parrots_4 rfl ?_
  refine sm_aload_n ii_hs_parrots_5 rfl ?_
  refine sm_getI ii_hs_parrots_6 fl_hs_45 (k := 36) rfl ?_
  refine sm_icmp_ge 34 ii_hs_parrots_9 (by decide) ?_ ?_
  · refine sm_iload_n ii_hs_parrots_34 rfl ?_
    exact sm_iret ii_hs_parrots_35 rfl
  · refine sm_aload_n ii_hs_parrots_12 rfl ?_
    refine sm_getR 37 ii_hs_parrots_13 fl_hs_9 (k := 36) rfl ?_
    refine sm_iload_n ii_hs_parrots_16 rfl ?_
    refine sm_iald ii_hs_parrots_17 (k := 37) rfl (fun x1 => ?_)
    refine sm_iconst (1 : Int32) ii_hs_parrots_18 (by decide) ?_
    refine sm_csI [.int x1, .int (1 : Int32)] [] rfl ii_hs_parrots_19 ml_hs_132 (mf_ho_isOf) (mv_ho_isOf) (Nat.le_of_ble_eq_true rfl) rfl rfl rfl (mc_ho_isOf (x1) ((1 : Int32)) w) (fun x2 w3 => ?_)
    refine sm_if_eq 28 ii_hs_parrots_22 (by decide) ?_ ?_
    · refine sm_iinc (a2 + (1 : Int32)) [some (.ref 36), some (.int a1), some (.int (a2 + (1 : Int32)))] ii_hs_parrots_28 rfl rfl rfl rfl ?_
      refine sm_goto 4 ii_hs_parrots_31 (by decide) ?_
      exact hself4 (a1) ((a2 + (1 : Int32))) w3
    · refine sm_iinc (a1 + (1 : Int32)) [some (.ref 36), some (.int (a1 + (1 : Int32))), some (.int a2)] ii_hs_parrots_25 rfl rfl rfl rfl ?_
      refine sm_iinc (a2 + (1 : Int32)) [some (.ref 36), some (.int (a1 + (1 : Int32))), some (.int (a2 + (1 : Int32)))] ii_hs_parrots_28 rfl rfl rfl rfl ?_
      refine sm_goto 4 ii_hs_parrots_31 (by decide) ?_
      exact hself4 ((a1 + (1 : Int32))) ((a2 + (1 : Int32))) w3
set_option maxHeartbeats 4000000 in
set_option maxRecDepth 100000 in
theorem ss_hs_parrots_4_f {E : Nat × (Nat → Int32)}  : ∀ (n : Nat) (a1 : Int32) (a2 : Int32) (w : sm_Mem), sm_Sim E (mi_hs_parrots) 4 [some (.ref 36), some (.int a1), some (.int a2)] [] w (ff_hs_parrots_4_f  n a1 a2 w)
  | 0, _, _, _ => fun _ _ h => by cases h
  | n + 1, a1, a2, w => ss_hs_parrots_4_b  _ (ss_hs_parrots_4_f  n) a1 a2 w
set_option maxHeartbeats 4000000 in
set_option maxRecDepth 100000 in
theorem ss_hs_parrots_4 {E : Nat × (Nat → Int32)}  (a1 : Int32) (a2 : Int32) (w : sm_Mem) : sm_Sim E (mi_hs_parrots) 4 [some (.ref 36), some (.int a1), some (.int a2)] [] w (ff_hs_parrots_4  a1 a2 w) := ss_hs_parrots_4_f  sm_N a1 a2 w
noncomputable def ff_hs_parrots   (w : sm_Mem) : sm_R := ff_hs_parrots_4 ((0 : Int32)) ((0 : Int32)) w
set_option maxHeartbeats 4000000 in
set_option maxRecDepth 100000 in
theorem ss_hs_parrots_0 {E : Nat × (Nat → Int32)}   (w : sm_Mem) : sm_Sim E (mi_hs_parrots) 0 [some (.ref 36), none, none] [] w (ff_hs_parrots   w) := by
  unfold ff_hs_parrots
  refine sm_iconst (0 : Int32) ii_hs_parrots_0 (by decide) ?_
  refine sm_istore_n [some (.ref 36), some (.int (0 : Int32)), none] ii_hs_parrots_1 rfl rfl ?_
  refine sm_iconst (0 : Int32) ii_hs_parrots_2 (by decide) ?_
  refine sm_istore_n [some (.ref 36), some (.int (0 : Int32)), some (.int (0 : Int32))] ii_hs_parrots_3 rfl rfl ?_
  exact ss_hs_parrots_4 ((0 : Int32)) ((0 : Int32)) w
set_option maxHeartbeats 4000000 in
set_option maxRecDepth 100000 in
theorem mc_hs_parrots  (w : sm_Mem) : sm_MC mi_hs_parrots [.ref 36] w (ff_hs_parrots  w) := sm_MC_of (0, fun _ => 0) (by decide +kernel) (by decide) rfl (Nat.le_of_ble_eq_true rfl) (ss_hs_parrots_0  w)
abbrev mi_ho_present : sm_MI := (⟨"HerOrders", "present", "([LHerOrders$Row;)I"⟩, prog_1_method_63_code, 3, (some .int), 2)
set_option maxRecDepth 100000 in
theorem mf_ho_present : sm_MF mi_ho_present 1 := ⟨List.mem_of_getElem? (i := 905) (by decide +kernel), List.mem_of_getElem? (i := 124) (by decide +kernel), ⟨by decide, by decide⟩, by decide +kernel⟩
set_option maxRecDepth 100000 in
theorem mv_ho_present : sm_MFS mi_ho_present := List.mem_of_getElem? (i := 904) (by decide +kernel)
set_option maxRecDepth 100000 in
theorem ii_ho_present_0 : sm_D prog_1_method_63_code 0 1 1 (.iconst 0) := ⟨by decide +kernel, rfl⟩
set_option maxRecDepth 100000 in
theorem ii_ho_present_1 : sm_D prog_1_method_63_code 1 1 2 (.istore_n 1) := ⟨by decide +kernel, rfl⟩
set_option maxRecDepth 100000 in
theorem ii_ho_present_2 : sm_D prog_1_method_63_code 2 1 3 (.iconst 0) := ⟨by decide +kernel, rfl⟩
set_option maxRecDepth 100000 in
theorem ii_ho_present_3 : sm_D prog_1_method_63_code 3 1 4 (.istore_n 2) := ⟨by decide +kernel, rfl⟩
set_option maxRecDepth 100000 in
theorem ii_ho_present_4 : sm_D prog_1_method_63_code 4 1 5 (.iload_n 2) := ⟨by decide +kernel, rfl⟩
set_option maxRecDepth 100000 in
theorem ii_ho_present_5 : sm_D prog_1_method_63_code 5 1 6 (.aload_n 0) := ⟨by decide +kernel, rfl⟩
set_option maxRecDepth 100000 in
theorem ii_ho_present_6 : sm_D prog_1_method_63_code 6 1 7 (.arraylength) := ⟨by decide +kernel, rfl⟩
set_option maxRecDepth 100000 in
theorem ii_ho_present_7 : sm_D prog_1_method_63_code 7 3 10 (.if_icmp .ge 21) := ⟨by decide +kernel, rfl⟩
set_option maxRecDepth 100000 in
theorem ii_ho_present_10 : sm_D prog_1_method_63_code 10 1 11 (.aload_n 0) := ⟨by decide +kernel, rfl⟩
set_option maxRecDepth 100000 in
theorem ii_ho_present_11 : sm_D prog_1_method_63_code 11 1 12 (.iload_n 2) := ⟨by decide +kernel, rfl⟩
set_option maxRecDepth 100000 in
theorem ii_ho_present_12 : sm_D prog_1_method_63_code 12 1 13 (.aaload) := ⟨by decide +kernel, rfl⟩
set_option maxRecDepth 100000 in
theorem ii_ho_present_13 : sm_D prog_1_method_63_code 13 3 16 (.invokevirtual 89) := ⟨by decide +kernel, rfl⟩
set_option maxRecDepth 100000 in
theorem ii_ho_present_16 : sm_D prog_1_method_63_code 16 3 19 (.ifCond .ne 6) := ⟨by decide +kernel, rfl⟩
set_option maxRecDepth 100000 in
theorem ii_ho_present_19 : sm_D prog_1_method_63_code 19 3 22 (.iinc 1 1) := ⟨by decide +kernel, rfl⟩
set_option maxRecDepth 100000 in
theorem ii_ho_present_22 : sm_D prog_1_method_63_code 22 3 25 (.iinc 2 1) := ⟨by decide +kernel, rfl⟩
set_option maxRecDepth 100000 in
theorem ii_ho_present_25 : sm_D prog_1_method_63_code 25 3 28 (.goto (-21)) := ⟨by decide +kernel, rfl⟩
set_option maxRecDepth 100000 in
theorem ii_ho_present_28 : sm_D prog_1_method_63_code 28 1 29 (.iload_n 1) := ⟨by decide +kernel, rfl⟩
set_option maxRecDepth 100000 in
theorem ii_ho_present_29 : sm_D prog_1_method_63_code 29 1 30 (.ireturn) := ⟨by decide +kernel, rfl⟩
noncomputable def ff_ho_present_4_b  (self4 : Nat → Int32 → Int32 → sm_Mem → sm_R) (a0 : Nat) (a1 : Int32) (a2 : Int32) (w : sm_Mem) : sm_R := (Option.bind (sm_al a0) fun x1 => (if x1 ≤ a2 then (some (.int a1, w)) else (Option.bind (sm_rr a0 a2) fun r2 => (sm_cI (sm_rc r2 2 (ff_rw_isMissing (r2) w)) fun x3 w4 => (if x3 = (0 : Int32) then self4 (a0) ((a1 + (1 : Int32))) ((a2 + (1 : Int32))) w4 else self4 (a0) (a1) ((a2 + (1 : Int32))) w4)))))
noncomputable def ff_ho_present_4_f  : Nat → Nat → Int32 → Int32 → sm_Mem → sm_R
  | 0, _, _, _, _ => none
  | n + 1, a0, a1, a2, w => ff_ho_present_4_b  (ff_ho_present_4_f  n) a0 a1 a2 w
noncomputable def ff_ho_present_4  (a0 : Nat) (a1 : Int32) (a2 : Int32) (w : sm_Mem) : sm_R := ff_ho_present_4_f  sm_N a0 a1 a2 w
set_option maxHeartbeats 4000000 in
set_option maxRecDepth 100000 in
theorem ss_ho_present_4_b {E : Nat × (Nat → Int32)}  (self4 : Nat → Int32 → Int32 → sm_Mem → sm_R) (hself4 : ∀ (a0 : Nat) (a1 : Int32) (a2 : Int32) (w : sm_Mem), sm_Sim E (mi_ho_present) 4 [some (.ref a0), some (.int a1), some (.int a2)] [] w (self4 a0 a1 a2 w)) (a0 : Nat) (a1 : Int32) (a2 : Int32) (w : sm_Mem) : sm_Sim E (mi_ho_present) 4 [some (.ref a0), some (.int a1), some (.int a2)] [] w (ff_ho_present_4_b  self4 a0 a1 a2 w) := by
  unfold ff_ho_present_4_b
  refine sm_iload_n ii_ho_present_4 rfl ?_
  refine sm_aload_n ii_ho_present_5 rfl ?_
  refine sm_alen ii_ho_present_6 (fun x1 => ?_)
  refine sm_icmp_ge 28 ii_ho_present_7 (by decide) ?_ ?_
  · refine sm_iload_n ii_ho_present_28 rfl ?_
    exact sm_iret ii_ho_present_29 rfl
  · refine sm_aload_n ii_ho_present_10 rfl ?_
    refine sm_iload_n ii_ho_present_11 rfl ?_
    refine sm_aald ii_ho_present_12 (fun r2 => ?_)
    refine sm_dvI [] [] rfl ii_ho_present_13 ml_ho_89 (mf_rw_isMissing) (mv_rw_isMissing) (Nat.le_of_ble_eq_true rfl) rfl 2 rfl rfl rfl (mc_rw_isMissing (r2) w) (fun x3 w4 => ?_)
    refine sm_if_ne 22 ii_ho_present_16 (by decide) ?_ ?_
    · refine sm_iinc (a1 + (1 : Int32)) [some (.ref a0), some (.int (a1 + (1 : Int32))), some (.int a2)] ii_ho_present_19 rfl rfl rfl rfl ?_
      refine sm_iinc (a2 + (1 : Int32)) [some (.ref a0), some (.int (a1 + (1 : Int32))), some (.int (a2 + (1 : Int32)))] ii_ho_present_22 rfl rfl rfl rfl ?_
      refine sm_goto 4 ii_ho_present_25 (by decide) ?_
      exact hself4 (a0) ((a1 + (1 : Int32))) ((a2 + (1 : Int32))) w4
    · refine sm_iinc (a2 + (1 : Int32)) [some (.ref a0), some (.int a1), some (.int (a2 + (1 : Int32)))] ii_ho_present_22 rfl rfl rfl rfl ?_
      refine sm_goto 4 ii_ho_present_25 (by decide) ?_
      exact hself4 (a0) (a1) ((a2 + (1 : Int32))) w4
set_option maxHeartbeats 4000000 in
set_option maxRecDepth 100000 in
theorem ss_ho_present_4_f {E : Nat × (Nat → Int32)}  : ∀ (n : Nat) (a0 : Nat) (a1 : Int32) (a2 : Int32) (w : sm_Mem), sm_Sim E (mi_ho_present) 4 [some (.ref a0), some (.int a1), some (.int a2)] [] w (ff_ho_present_4_f  n a0 a1 a2 w)
  | 0, _, _, _, _ => fun _ _ h => by cases h
  | n + 1, a0, a1, a2, w => ss_ho_present_4_b  _ (ss_ho_present_4_f  n) a0 a1 a2 w
set_option maxHeartbeats 4000000 in
set_option maxRecDepth 100000 in
theorem ss_ho_present_4 {E : Nat × (Nat → Int32)}  (a0 : Nat) (a1 : Int32) (a2 : Int32) (w : sm_Mem) : sm_Sim E (mi_ho_present) 4 [some (.ref a0), some (.int a1), some (.int a2)] [] w (ff_ho_present_4  a0 a1 a2 w) := ss_ho_present_4_f  sm_N a0 a1 a2 w
noncomputable def ff_ho_present  (a0 : Nat) (w : sm_Mem) : sm_R := ff_ho_present_4 (a0) ((0 : Int32)) ((0 : Int32)) w
set_option maxHeartbeats 4000000 in
set_option maxRecDepth 100000 in
theorem ss_ho_present_0 {E : Nat × (Nat → Int32)}  (a0 : Nat) (w : sm_Mem) : sm_Sim E (mi_ho_present) 0 [some (.ref a0), none, none] [] w (ff_ho_present  a0 w) := by
  unfold ff_ho_present
  refine sm_iconst (0 : Int32) ii_ho_present_0 (by decide) ?_
  refine sm_istore_n [some (.ref a0), some (.int (0 : Int32)), none] ii_ho_present_1 rfl rfl ?_
  refine sm_iconst (0 : Int32) ii_ho_present_2 (by decide) ?_
  refine sm_istore_n [some (.ref a0), some (.int (0 : Int32)), some (.int (0 : Int32))] ii_ho_present_3 rfl rfl ?_
  exact ss_ho_present_4 (a0) ((0 : Int32)) ((0 : Int32)) w
set_option maxHeartbeats 4000000 in
set_option maxRecDepth 100000 in
theorem mc_ho_present (a0 : Nat) (w : sm_Mem) : sm_MC mi_ho_present [.ref a0] w (ff_ho_present a0 w) := sm_MC_of (0, fun _ => 0) (by decide +kernel) (by decide) rfl (Nat.le_of_ble_eq_true rfl) (ss_ho_present_0 a0 w)
abbrev mi_ho_keptHouses : sm_MI := (⟨"HerOrders", "keptHouses", "()I"⟩, prog_1_method_64_code, 3, (some .int), 2)
set_option maxRecDepth 100000 in
theorem mf_ho_keptHouses : sm_MF mi_ho_keptHouses 0 := ⟨List.mem_of_getElem? (i := 909) (by decide +kernel), List.mem_of_getElem? (i := 124) (by decide +kernel), ⟨by decide, by decide⟩, by decide +kernel⟩
set_option maxRecDepth 100000 in
theorem mv_ho_keptHouses : sm_MFV mi_ho_keptHouses := ⟨List.mem_of_getElem? (i := 908) (by decide +kernel), List.mem_of_getElem? (i := 70) (by decide +kernel)⟩
set_option maxRecDepth 100000 in
theorem ii_ho_keptHouses_0 : sm_D prog_1_method_64_code 0 1 1 (.iconst 0) := ⟨by decide +kernel, rfl⟩
set_option maxRecDepth 100000 in
theorem ii_ho_keptHouses_1 : sm_D prog_1_method_64_code 1 1 2 (.istore_n 1) := ⟨by decide +kernel, rfl⟩
set_option maxRecDepth 100000 in
theorem ii_ho_keptHouses_2 : sm_D prog_1_method_64_code 2 1 3 (.iconst 0) := ⟨by decide +kernel, rfl⟩
set_option maxRecDepth 100000 in
theorem ii_ho_keptHouses_3 : sm_D prog_1_method_64_code 3 1 4 (.istore_n 2) := ⟨by decide +kernel, rfl⟩
set_option maxRecDepth 100000 in
theorem ii_ho_keptHouses_4 : sm_D prog_1_method_64_code 4 1 5 (.iload_n 2) := ⟨by decide +kernel, rfl⟩
set_option maxRecDepth 100000 in
theorem ii_ho_keptHouses_5 : sm_D prog_1_method_64_code 5 1 6 (.iconst 3) := ⟨by decide +kernel, rfl⟩
set_option maxRecDepth 100000 in
theorem ii_ho_keptHouses_6 : sm_D prog_1_method_64_code 6 3 9 (.if_icmp .ge 24) := ⟨by decide +kernel, rfl⟩
set_option maxRecDepth 100000 in
theorem ii_ho_keptHouses_9 : sm_D prog_1_method_64_code 9 1 10 (.aload_n 0) := ⟨by decide +kernel, rfl⟩
set_option maxRecDepth 100000 in
theorem ii_ho_keptHouses_10 : sm_D prog_1_method_64_code 10 3 13 (.getfield 23) := ⟨by decide +kernel, rfl⟩
set_option maxRecDepth 100000 in
theorem ii_ho_keptHouses_13 : sm_D prog_1_method_64_code 13 1 14 (.iload_n 2) := ⟨by decide +kernel, rfl⟩
set_option maxRecDepth 100000 in
theorem ii_ho_keptHouses_14 : sm_D prog_1_method_64_code 14 1 15 (.aaload) := ⟨by decide +kernel, rfl⟩
set_option maxRecDepth 100000 in
theorem ii_ho_keptHouses_15 : sm_D prog_1_method_64_code 15 3 18 (.invokevirtual 182) := ⟨by decide +kernel, rfl⟩
set_option maxRecDepth 100000 in
theorem ii_ho_keptHouses_18 : sm_D prog_1_method_64_code 18 3 21 (.ifCond .ne 6) := ⟨by decide +kernel, rfl⟩
set_option maxRecDepth 100000 in
theorem ii_ho_keptHouses_21 : sm_D prog_1_method_64_code 21 3 24 (.iinc 1 1) := ⟨by decide +kernel, rfl⟩
set_option maxRecDepth 100000 in
theorem ii_ho_keptHouses_24 : sm_D prog_1_method_64_code 24 3 27 (.iinc 2 1) := ⟨by decide +kernel, rfl⟩
set_option maxRecDepth 100000 in
theorem ii_ho_keptHouses_27 : sm_D prog_1_method_64_code 27 3 30 (.goto (-23)) := ⟨by decide +kernel, rfl⟩
set_option maxRecDepth 100000 in
theorem ii_ho_keptHouses_30 : sm_D prog_1_method_64_code 30 1 31 (.iload_n 1) := ⟨by decide +kernel, rfl⟩
set_option maxRecDepth 100000 in
theorem ii_ho_keptHouses_31 : sm_D prog_1_method_64_code 31 1 32 (.ireturn) := ⟨by decide +kernel, rfl⟩
noncomputable def ff_ho_keptHouses_4_b  (self4 : Int32 → Int32 → sm_Mem → sm_R) (a1 : Int32) (a2 : Int32) (w : sm_Mem) : sm_R := (if (3 : Int32) ≤ a2 then (some (.int a1, w)) else (Option.bind (sm_rr 23 a2) fun r1 => (sm_cI (sm_rc r1 0 (ff_de_isMissing (r1) w)) fun x2 w3 => (if x2 = (0 : Int32) then self4 ((a1 + (1 : Int32))) ((a2 + (1 : Int32))) w3 else self4 (a1) ((a2 + (1 : Int32))) w3))))
noncomputable def ff_ho_keptHouses_4_f  : Nat → Int32 → Int32 → sm_Mem → sm_R
  | 0, _, _, _ => none
  | n + 1, a1, a2, w => ff_ho_keptHouses_4_b  (ff_ho_keptHouses_4_f  n) a1 a2 w
noncomputable def ff_ho_keptHouses_4  (a1 : Int32) (a2 : Int32) (w : sm_Mem) : sm_R := ff_ho_keptHouses_4_f  sm_N a1 a2 w
set_option maxHeartbeats 4000000 in
set_option maxRecDepth 100000 in
theorem ss_ho_keptHouses_4_b {E : Nat × (Nat → Int32)}  (self4 : Int32 → Int32 → sm_Mem → sm_R) (hself4 : ∀ (a1 : Int32) (a2 : Int32) (w : sm_Mem), sm_Sim E (mi_ho_keptHouses) 4 [some (.ref 0), some (.int a1), some (.int a2)] [] w (self4 a1 a2 w)) (a1 : Int32) (a2 : Int32) (w : sm_Mem) : sm_Sim E (mi_ho_keptHouses) 4 [some (.ref 0), some (.int a1), some (.int a2)] [] w (ff_ho_keptHouses_4_b  self4 a1 a2 w) := by
  unfold ff_ho_keptHouses_4_b
  refine sm_iload_n ii_ho_keptHouses_4 rfl ?_
  refine sm_iconst (3 : Int32) ii_ho_keptHouses_5 (by decide) ?_
  refine sm_icmp_ge 30 ii_ho_keptHouses_6 (by decide) ?_ ?_
  · refine sm_iload_n ii_ho_keptHouses_30 rfl ?_
    exact sm_iret ii_ho_keptHouses_31 rfl
  · refine sm_aload_n ii_ho_keptHouses_9 rfl ?_
    refine sm_getR 23 ii_ho_keptHouses_10 fl_ho_23 (k := 0) rfl ?_
    refine sm_iload_n ii_ho_keptHouses_13 rfl ?_
    refine sm_aald ii_ho_keptHouses_14 (fun r1 => ?_)
    refine sm_dvI [] [] rfl ii_ho_keptHouses_15 ml_ho_182 (mf_de_isMissing) (mv_de_isMissing) (Nat.le_of_ble_eq_true rfl) rfl 0 rfl rfl rfl (mc_de_isMissing (r1) w) (fun x2 w3 => ?_)
    refine sm_if_ne 24 ii_ho_keptHouses_18 (by decide) ?_ ?_
    · refine sm_iinc (a1 + (1 : Int32)) [some (.ref 0), some (.int (a1 + (1 : Int32))), some (.int a2)] ii_ho_keptHouses_21 rfl rfl rfl rfl ?_
      refine sm_iinc (a2 + (1 : Int32)) [some (.ref 0), some (.int (a1 + (1 : Int32))), some (.int (a2 + (1 : Int32)))] ii_ho_keptHouses_24 rfl rfl rfl rfl ?_
      refine sm_goto 4 ii_ho_keptHouses_27 (by decide) ?_
      exact hself4 ((a1 + (1 : Int32))) ((a2 + (1 : Int32))) w3
    · refine sm_iinc (a2 + (1 : Int32)) [some (.ref 0), some (.int a1), some (.int (a2 + (1 : Int32)))] ii_ho_keptHouses_24 rfl rfl rfl rfl ?_
      refine sm_goto 4 ii_ho_keptHouses_27 (by decide) ?_
      exact hself4 (a1) ((a2 + (1 : Int32))) w3
set_option maxHeartbeats 4000000 in
set_option maxRecDepth 100000 in
theorem ss_ho_keptHouses_4_f {E : Nat × (Nat → Int32)}  : ∀ (n : Nat) (a1 : Int32) (a2 : Int32) (w : sm_Mem), sm_Sim E (mi_ho_keptHouses) 4 [some (.ref 0), some (.int a1), some (.int a2)] [] w (ff_ho_keptHouses_4_f  n a1 a2 w)
  | 0, _, _, _ => fun _ _ h => by cases h
  | n + 1, a1, a2, w => ss_ho_keptHouses_4_b  _ (ss_ho_keptHouses_4_f  n) a1 a2 w
set_option maxHeartbeats 4000000 in
set_option maxRecDepth 100000 in
theorem ss_ho_keptHouses_4 {E : Nat × (Nat → Int32)}  (a1 : Int32) (a2 : Int32) (w : sm_Mem) : sm_Sim E (mi_ho_keptHouses) 4 [some (.ref 0), some (.int a1), some (.int a2)] [] w (ff_ho_keptHouses_4  a1 a2 w) := ss_ho_keptHouses_4_f  sm_N a1 a2 w
noncomputable def ff_ho_keptHouses   (w : sm_Mem) : sm_R := ff_ho_keptHouses_4 ((0 : Int32)) ((0 : Int32)) w
set_option maxHeartbeats 4000000 in
set_option maxRecDepth 100000 in
theorem ss_ho_keptHouses_0 {E : Nat × (Nat → Int32)}   (w : sm_Mem) : sm_Sim E (mi_ho_keptHouses) 0 [some (.ref 0), none, none] [] w (ff_ho_keptHouses   w) := by
  unfold ff_ho_keptHouses
  refine sm_iconst (0 : Int32) ii_ho_keptHouses_0 (by decide) ?_
  refine sm_istore_n [some (.ref 0), some (.int (0 : Int32)), none] ii_ho_keptHouses_1 rfl rfl ?_
  refine sm_iconst (0 : Int32) ii_ho_keptHouses_2 (by decide) ?_
  refine sm_istore_n [some (.ref 0), some (.int (0 : Int32)), some (.int (0 : Int32))] ii_ho_keptHouses_3 rfl rfl ?_
  exact ss_ho_keptHouses_4 ((0 : Int32)) ((0 : Int32)) w
set_option maxHeartbeats 4000000 in
set_option maxRecDepth 100000 in
theorem mc_ho_keptHouses  (w : sm_Mem) : sm_MC mi_ho_keptHouses [.ref 0] w (ff_ho_keptHouses  w) := sm_MC_of (0, fun _ => 0) (by decide +kernel) (by decide) rfl (Nat.le_of_ble_eq_true rfl) (ss_ho_keptHouses_0  w)
abbrev mi_ho_tally : sm_MI := (⟨"HerOrders", "tally", "(I)I"⟩, prog_1_method_62_code, 2, (some .int), 5)
set_option maxRecDepth 100000 in
theorem mf_ho_tally : sm_MF mi_ho_tally 1 := ⟨List.mem_of_getElem? (i := 889) (by decide +kernel), List.mem_of_getElem? (i := 124) (by decide +kernel), ⟨by decide, by decide⟩, by decide +kernel⟩
set_option maxRecDepth 100000 in
theorem mv_ho_tally : sm_MFV mi_ho_tally := ⟨List.mem_of_getElem? (i := 888) (by decide +kernel), List.mem_of_getElem? (i := 66) (by decide +kernel)⟩
set_option maxRecDepth 100000 in
theorem ii_ho_tally_0 : sm_D prog_1_method_62_code 0 1 1 (.iload_n 1) := ⟨by decide +kernel, rfl⟩
set_option maxRecDepth 100000 in
theorem ii_ho_tally_1 : sm_D prog_1_method_62_code 1 55 56 (.tableswitch 138 0 9 #[55, 63, 71, 82, 90, 98, 106, 114, 122, 130]) := ⟨by decide +kernel, rfl⟩
set_option maxRecDepth 100000 in
theorem ii_ho_tally_56 : sm_D prog_1_method_62_code 56 1 57 (.aload_n 0) := ⟨by decide +kernel, rfl⟩
set_option maxRecDepth 100000 in
theorem ii_ho_tally_57 : sm_D prog_1_method_62_code 57 3 60 (.getfield 31) := ⟨by decide +kernel, rfl⟩
set_option maxRecDepth 100000 in
theorem ii_ho_tally_60 : sm_D prog_1_method_62_code 60 3 63 (.getfield 115) := ⟨by decide +kernel, rfl⟩
set_option maxRecDepth 100000 in
theorem ii_ho_tally_63 : sm_D prog_1_method_62_code 63 1 64 (.ireturn) := ⟨by decide +kernel, rfl⟩
set_option maxRecDepth 100000 in
theorem ii_ho_tally_64 : sm_D prog_1_method_62_code 64 1 65 (.aload_n 0) := ⟨by decide +kernel, rfl⟩
set_option maxRecDepth 100000 in
theorem ii_ho_tally_65 : sm_D prog_1_method_62_code 65 3 68 (.getfield 31) := ⟨by decide +kernel, rfl⟩
set_option maxRecDepth 100000 in
theorem ii_ho_tally_68 : sm_D prog_1_method_62_code 68 3 71 (.getfield 135) := ⟨by decide +kernel, rfl⟩
set_option maxRecDepth 100000 in
theorem ii_ho_tally_71 : sm_D prog_1_method_62_code 71 1 72 (.ireturn) := ⟨by decide +kernel, rfl⟩
set_option maxRecDepth 100000 in
theorem ii_ho_tally_72 : sm_D prog_1_method_62_code 72 1 73 (.aload_n 0) := ⟨by decide +kernel, rfl⟩
set_option maxRecDepth 100000 in
theorem ii_ho_tally_73 : sm_D prog_1_method_62_code 73 3 76 (.getfield 31) := ⟨by decide +kernel, rfl⟩
set_option maxRecDepth 100000 in
theorem ii_ho_tally_76 : sm_D prog_1_method_62_code 76 3 79 (.getfield 171) := ⟨by decide +kernel, rfl⟩
set_option maxRecDepth 100000 in
theorem ii_ho_tally_79 : sm_D prog_1_method_62_code 79 3 82 (.getfield 114) := ⟨by decide +kernel, rfl⟩
set_option maxRecDepth 100000 in
theorem ii_ho_tally_82 : sm_D prog_1_method_62_code 82 1 83 (.ireturn) := ⟨by decide +kernel, rfl⟩
set_option maxRecDepth 100000 in
theorem ii_ho_tally_83 : sm_D prog_1_method_62_code 83 1 84 (.aload_n 0) := ⟨by decide +kernel, rfl⟩
set_option maxRecDepth 100000 in
theorem ii_ho_tally_84 : sm_D prog_1_method_62_code 84 3 87 (.getfield 31) := ⟨by decide +kernel, rfl⟩
set_option maxRecDepth 100000 in
theorem ii_ho_tally_87 : sm_D prog_1_method_62_code 87 3 90 (.getfield 162) := ⟨by decide +kernel, rfl⟩
set_option maxRecDepth 100000 in
theorem ii_ho_tally_90 : sm_D prog_1_method_62_code 90 1 91 (.ireturn) := ⟨by decide +kernel, rfl⟩
set_option maxRecDepth 100000 in
theorem ii_ho_tally_91 : sm_D prog_1_method_62_code 91 1 92 (.aload_n 0) := ⟨by decide +kernel, rfl⟩
set_option maxRecDepth 100000 in
theorem ii_ho_tally_92 : sm_D prog_1_method_62_code 92 3 95 (.getfield 31) := ⟨by decide +kernel, rfl⟩
set_option maxRecDepth 100000 in
theorem ii_ho_tally_95 : sm_D prog_1_method_62_code 95 3 98 (.getfield 368) := ⟨by decide +kernel, rfl⟩
set_option maxRecDepth 100000 in
theorem ii_ho_tally_98 : sm_D prog_1_method_62_code 98 1 99 (.ireturn) := ⟨by decide +kernel, rfl⟩
set_option maxRecDepth 100000 in
theorem ii_ho_tally_99 : sm_D prog_1_method_62_code 99 1 100 (.aload_n 0) := ⟨by decide +kernel, rfl⟩
set_option maxRecDepth 100000 in
theorem ii_ho_tally_100 : sm_D prog_1_method_62_code 100 3 103 (.getfield 31) := ⟨by decide +kernel, rfl⟩
set_option maxRecDepth 100000 in
theorem ii_ho_tally_103 : sm_D prog_1_method_62_code 103 3 106 (.invokevirtual 371) := ⟨by decide +kernel, rfl⟩
set_option maxRecDepth 100000 in
theorem ii_ho_tally_106 : sm_D prog_1_method_62_code 106 1 107 (.ireturn) := ⟨by decide +kernel, rfl⟩
set_option maxRecDepth 100000 in
theorem ii_ho_tally_107 : sm_D prog_1_method_62_code 107 1 108 (.aload_n 0) := ⟨by decide +kernel, rfl⟩
set_option maxRecDepth 100000 in
theorem ii_ho_tally_108 : sm_D prog_1_method_62_code 108 3 111 (.getfield 31) := ⟨by decide +kernel, rfl⟩
set_option maxRecDepth 100000 in
theorem ii_ho_tally_111 : sm_D prog_1_method_62_code 111 3 114 (.invokevirtual 374) := ⟨by decide +kernel, rfl⟩
set_option maxRecDepth 100000 in
theorem ii_ho_tally_114 : sm_D prog_1_method_62_code 114 1 115 (.ireturn) := ⟨by decide +kernel, rfl⟩
set_option maxRecDepth 100000 in
theorem ii_ho_tally_115 : sm_D prog_1_method_62_code 115 1 116 (.aload_n 0) := ⟨by decide +kernel, rfl⟩
set_option maxRecDepth 100000 in
theorem ii_ho_tally_116 : sm_D prog_1_method_62_code 116 3 119 (.getfield 31) := ⟨by decide +kernel, rfl⟩
set_option maxRecDepth 100000 in
theorem ii_ho_tally_119 : sm_D prog_1_method_62_code 119 3 122 (.invokevirtual 377) := ⟨by decide +kernel, rfl⟩
set_option maxRecDepth 100000 in
theorem ii_ho_tally_122 : sm_D prog_1_method_62_code 122 1 123 (.ireturn) := ⟨by decide +kernel, rfl⟩
set_option maxRecDepth 100000 in
theorem ii_ho_tally_123 : sm_D prog_1_method_62_code 123 1 124 (.aload_n 0) := ⟨by decide +kernel, rfl⟩
set_option maxRecDepth 100000 in
theorem ii_ho_tally_124 : sm_D prog_1_method_62_code 124 3 127 (.getfield 11) := ⟨by decide +kernel, rfl⟩
set_option maxRecDepth 100000 in
theorem ii_ho_tally_127 : sm_D prog_1_method_62_code 127 3 130 (.invokestatic 380) := ⟨by decide +kernel, rfl⟩
set_option maxRecDepth 100000 in
theorem ii_ho_tally_130 : sm_D prog_1_method_62_code 130 1 131 (.ireturn) := ⟨by decide +kernel, rfl⟩
set_option maxRecDepth 100000 in
theorem ii_ho_tally_131 : sm_D prog_1_method_62_code 131 1 132 (.aload_n 0) := ⟨by decide +kernel, rfl⟩
set_option maxRecDepth 100000 in
theorem ii_ho_tally_132 : sm_D prog_1_method_62_code 132 3 135 (.getfield 18) := ⟨by decide +kernel, rfl⟩
set_option maxRecDepth 100000 in
theorem ii_ho_tally_135 : sm_D prog_1_method_62_code 135 3 138 (.invokestatic 380) := ⟨by decide +kernel, rfl⟩
set_option maxRecDepth 100000 in
theorem ii_ho_tally_138 : sm_D prog_1_method_62_code 138 1 139 (.ireturn) := ⟨by decide +kernel, rfl⟩
set_option maxRecDepth 100000 in
theorem ii_ho_tally_139 : sm_D prog_1_method_62_code 139 1 140 (.aload_n 0) := ⟨by decide +kernel, rfl⟩
set_option maxRecDepth 100000 in
theorem ii_ho_tally_140 : sm_D prog_1_method_62_code 140 3 143 (.invokevirtual 384) := ⟨by decide +kernel, rfl⟩
set_option maxRecDepth 100000 in
theorem ii_ho_tally_143 : sm_D prog_1_method_62_code 143 1 144 (.ireturn) := ⟨by decide +kernel, rfl⟩
noncomputable def ff_ho_tally  (a1 : Int32) (w : sm_Mem) : sm_R := (sm_sw a1 (0) [((some (.int (w.1 36 0), w))), ((some (.int (w.1 36 7), w))), ((some (.int (w.1 45 3), w))), ((some (.int (w.1 36 11), w))), ((some (.int (w.1 36 8), w))), ((sm_cI (ff_hs_breathLeft  w) fun x1 w2 => (some (.int x1, w2)))), ((sm_cI (ff_hs_sayableByAny  w) fun x3 w4 => (some (.int x3, w4)))), ((sm_cI (ff_hs_parrots  w) fun x5 w6 => (some (.int x5, w6)))), ((sm_cI (ff_ho_present (1) w) fun x7 w8 => (some (.int x7, w8)))), ((sm_cI (ff_ho_present (14) w) fun x9 w10 => (some (.int x9, w10))))] ((sm_cI (ff_ho_keptHouses  w) fun x11 w12 => (some (.int x11, w12)))))
set_option maxHeartbeats 4000000 in
set_option maxRecDepth 100000 in
theorem ss_ho_tally_0 {E : Nat × (Nat → Int32)}  (a1 : Int32) (w : sm_Mem) : sm_Sim E (mi_ho_tally) 0 [some (.ref 0), some (.int a1)] [] w (ff_ho_tally  a1 w) := by
  unfold ff_ho_tally
  refine sm_iload_n ii_ho_tally_0 rfl ?_
  refine sm_table [56, 64, 72, 83, 91, 99, 107, 115, 123, 131] 139 ii_ho_tally_1 rfl rfl rfl ⟨?_, ?_, ?_, ?_, ?_, ?_, ?_, ?_, ?_, ?_, trivial⟩ ?_
  · refine sm_aload_n ii_ho_tally_56 rfl ?_
    refine sm_getR 36 ii_ho_tally_57 fl_ho_31 (k := 0) rfl ?_
    refine sm_getI ii_ho_tally_60 fl_ho_115 (k := 36) rfl ?_
    exact sm_iret ii_ho_tally_63 rfl
  · refine sm_aload_n ii_ho_tally_64 rfl ?_
    refine sm_getR 36 ii_ho_tally_65 fl_ho_31 (k := 0) rfl ?_
    refine sm_getI ii_ho_tally_68 fl_ho_135 (k := 36) rfl ?_
    exact sm_iret ii_ho_tally_71 rfl
  · refine sm_aload_n ii_ho_tally_72 rfl ?_
    refine sm_getR 36 ii_ho_tally_73 fl_ho_31 (k := 0) rfl ?_
    refine sm_getR 45 ii_ho_tally_76 fl_ho_171 (k := 36) rfl ?_
    refine sm_getI ii_ho_tally_79 fl_ho_114 (k := 45) rfl ?_
    exact sm_iret ii_ho_tally_82 rfl
  · refine sm_aload_n ii_ho_tally_83 rfl ?_
    refine sm_getR 36 ii_ho_tally_84 fl_ho_31 (k := 0) rfl ?_
    refine sm_getI ii_ho_tally_87 fl_ho_162 (k := 36) rfl ?_
    exact sm_iret ii_ho_tally_90 rfl
  · refine sm_aload_n ii_ho_tally_91 rfl ?_
    refine sm_getR 36 ii_ho_tally_92 fl_ho_31 (k := 0) rfl ?_
    refine sm_getI ii_ho_tally_95 fl_ho_368 (k := 36) rfl ?_
    exact sm_iret ii_ho_tally_98 rfl
  · refine sm_aload_n ii_ho_tally_99 rfl ?_
    refine sm_getR 36 ii_ho_tally_100 fl_ho_31 (k := 0) rfl ?_
    refine sm_cvI [] [] rfl ii_ho_tally_103 ml_ho_371 (mf_hs_breathLeft) (mv_hs_breathLeft) (Nat.le_of_ble_eq_true rfl) rfl 1 rfl rfl rfl rfl (mc_hs_breathLeft  w) (fun x1 w2 => ?_)
    exact sm_iret ii_ho_tally_106 rfl
  · refine sm_aload_n ii_ho_tally_107 rfl ?_
    refine sm_getR 36 ii_ho_tally_108 fl_ho_31 (k := 0) rfl ?_
    refine sm_cvI [] [] rfl ii_ho_tally_111 ml_ho_374 (mf_hs_sayableByAny) (mv_hs_sayableByAny) (Nat.le_of_ble_eq_true rfl) rfl 1 rfl rfl rfl rfl (mc_hs_sayableByAny  w) (fun x3 w4 => ?_)
    exact sm_iret ii_ho_tally_114 rfl
  · refine sm_aload_n ii_ho_tally_115 rfl ?_
    refine sm_getR 36 ii_ho_tally_116 fl_ho_31 (k := 0) rfl ?_
    refine sm_cvI [] [] rfl ii_ho_tally_119 ml_ho_377 (mf_hs_parrots) (mv_hs_parrots) (Nat.le_of_ble_eq_true rfl) rfl 1 rfl rfl rfl rfl (mc_hs_parrots  w) (fun x5 w6 => ?_)
    exact sm_iret ii_ho_tally_122 rfl
  · refine sm_aload_n ii_ho_tally_123 rfl ?_
    refine sm_getR 1 ii_ho_tally_124 fl_ho_11 (k := 0) rfl ?_
    refine sm_csI [.ref 1] [] rfl ii_ho_tally_127 ml_ho_380 (mf_ho_present) (mv_ho_present) (Nat.le_of_ble_eq_true rfl) rfl rfl rfl (mc_ho_present (1) w) (fun x7 w8 => ?_)
    exact sm_iret ii_ho_tally_130 rfl
  · refine sm_aload_n ii_ho_tally_131 rfl ?_
    refine sm_getR 14 ii_ho_tally_132 fl_ho_18 (k := 0) rfl ?_
    refine sm_csI [.ref 14] [] rfl ii_ho_tally_135 ml_ho_380 (mf_ho_present) (mv_ho_present) (Nat.le_of_ble_eq_true rfl) rfl rfl rfl (mc_ho_present (14) w) (fun x9 w10 => ?_)
    exact sm_iret ii_ho_tally_138 rfl
  · refine sm_aload_n ii_ho_tally_139 rfl ?_
    refine sm_cvI [] [] rfl ii_ho_tally_140 ml_ho_384 (mf_ho_keptHouses) (mv_ho_keptHouses) (Nat.le_of_ble_eq_true rfl) rfl 6 rfl rfl rfl rfl (mc_ho_keptHouses  w) (fun x11 w12 => ?_)
    exact sm_iret ii_ho_tally_143 rfl
set_option maxHeartbeats 4000000 in
set_option maxRecDepth 100000 in
theorem mc_ho_tally (a1 : Int32) (w : sm_Mem) : sm_MC mi_ho_tally [.ref 0, .int a1] w (ff_ho_tally a1 w) := sm_MC_of (0, fun _ => 0) (by decide +kernel) (by decide) rfl (Nat.le_of_ble_eq_true rfl) (ss_ho_tally_0 a1 w)
abbrev mi_ho_count : sm_MI := (⟨"HerOrders", "count", "(I)I"⟩, prog_1_method_42_code, 2, (some .int), 6)
set_option maxRecDepth 100000 in
theorem mf_ho_count : sm_MF mi_ho_count 1 := ⟨List.mem_of_getElem? (i := 885) (by decide +kernel), List.mem_of_getElem? (i := 124) (by decide +kernel), ⟨by decide, by decide⟩, by decide +kernel⟩
set_option maxRecDepth 100000 in
theorem mv_ho_count : sm_MFV mi_ho_count := ⟨List.mem_of_getElem? (i := 883) (by decide +kernel), List.mem_of_getElem? (i := 884) (by decide +kernel)⟩
set_option maxRecDepth 100000 in
theorem ii_ho_count_0 : sm_D prog_1_method_42_code 0 1 1 (.iload_n 1) := ⟨by decide +kernel, rfl⟩
set_option maxRecDepth 100000 in
theorem ii_ho_count_1 : sm_D prog_1_method_42_code 1 2 3 (.bipush 11) := ⟨by decide +kernel, rfl⟩
set_option maxRecDepth 100000 in
theorem ii_ho_count_3 : sm_D prog_1_method_42_code 3 3 6 (.invokestatic 81) := ⟨by decide +kernel, rfl⟩
set_option maxRecDepth 100000 in
theorem ii_ho_count_6 : sm_D prog_1_method_42_code 6 3 9 (.ifCond .eq 11) := ⟨by decide +kernel, rfl⟩
set_option maxRecDepth 100000 in
theorem ii_ho_count_9 : sm_D prog_1_method_42_code 9 1 10 (.aload_n 0) := ⟨by decide +kernel, rfl⟩
set_option maxRecDepth 100000 in
theorem ii_ho_count_10 : sm_D prog_1_method_42_code 10 1 11 (.iload_n 1) := ⟨by decide +kernel, rfl⟩
set_option maxRecDepth 100000 in
theorem ii_ho_count_11 : sm_D prog_1_method_42_code 11 3 14 (.invokevirtual 307) := ⟨by decide +kernel, rfl⟩
set_option maxRecDepth 100000 in
theorem ii_ho_count_14 : sm_D prog_1_method_42_code 14 3 17 (.goto 4) := ⟨by decide +kernel, rfl⟩
set_option maxRecDepth 100000 in
theorem ii_ho_count_17 : sm_D prog_1_method_42_code 17 1 18 (.iconst (-1)) := ⟨by decide +kernel, rfl⟩
set_option maxRecDepth 100000 in
theorem ii_ho_count_18 : sm_D prog_1_method_42_code 18 1 19 (.ireturn) := ⟨by decide +kernel, rfl⟩
noncomputable def ff_ho_count  (a1 : Int32) (w : sm_Mem) : sm_R := (sm_cI (ff_ho_isWithin (a1) ((11 : Int32)) w) fun x1 w2 => (if x1 = (0 : Int32) then (some (.int (-1 : Int32), w2)) else (sm_cI (ff_ho_tally (a1) w2) fun x3 w4 => (some (.int x3, w4)))))
set_option maxHeartbeats 4000000 in
set_option maxRecDepth 100000 in
theorem ss_ho_count_0 {E : Nat × (Nat → Int32)}  (a1 : Int32) (w : sm_Mem) : sm_Sim E (mi_ho_count) 0 [some (.ref 0), some (.int a1)] [] w (ff_ho_count  a1 w) := by
  unfold ff_ho_count
  refine sm_iload_n ii_ho_count_0 rfl ?_
  refine sm_bipush (11 : Int32) ii_ho_count_1 (by decide) ?_
  refine sm_csI [.int a1, .int (11 : Int32)] [] rfl ii_ho_count_3 ml_ho_81 (mf_ho_isWithin) (mv_ho_isWithin) (Nat.le_of_ble_eq_true rfl) rfl rfl rfl (mc_ho_isWithin (a1) ((11 : Int32)) w) (fun x1 w2 => ?_)
  refine sm_if_eq 17 ii_ho_count_6 (by decide) ?_ ?_
  · refine sm_iconst (-1 : Int32) ii_ho_count_17 (by decide) ?_
    exact sm_iret ii_ho_count_18 rfl
  · refine sm_aload_n ii_ho_count_9 rfl ?_
    refine sm_iload_n ii_ho_count_10 rfl ?_
    refine sm_cvI [.int a1] [] rfl ii_ho_count_11 ml_ho_307 (mf_ho_tally) (mv_ho_tally) (Nat.le_of_ble_eq_true rfl) rfl 6 rfl rfl rfl rfl (mc_ho_tally (a1) w2) (fun x3 w4 => ?_)
    refine sm_goto 18 ii_ho_count_14 (by decide) ?_
    exact sm_iret ii_ho_count_18 rfl
set_option maxHeartbeats 4000000 in
set_option maxRecDepth 100000 in
theorem mc_ho_count (a1 : Int32) (w : sm_Mem) : sm_MC mi_ho_count [.ref 0, .int a1] w (ff_ho_count a1 w) := sm_MC_of (0, fun _ => 0) (by decide +kernel) (by decide) rfl (Nat.le_of_ble_eq_true rfl) (ss_ho_count_0 a1 w)
abbrev mi_mo_isParrot : sm_MI := (⟨"HerOrdersModel", "isParrot", "(I)Z"⟩, prog_9_method_30_code, 1, (some .boolean), 1)
set_option maxRecDepth 100000 in
theorem mf_mo_isParrot : sm_MF mi_mo_isParrot 1 := ⟨List.mem_of_getElem? (i := 1434) (by decide +kernel), List.mem_of_getElem? (i := 132) (by decide +kernel), ⟨by decide, by decide⟩, by decide +kernel⟩
set_option maxRecDepth 100000 in
theorem mv_mo_isParrot : sm_MFS mi_mo_isParrot := List.mem_of_getElem? (i := 1433) (by decide +kernel)
set_option maxRecDepth 100000 in
theorem ii_mo_isParrot_0 : sm_D prog_9_method_30_code 0 1 1 (.iload_n 0) := ⟨by decide +kernel, rfl⟩
set_option maxRecDepth 100000 in
theorem ii_mo_isParrot_1 : sm_D prog_9_method_30_code 1 1 2 (.iconst 1) := ⟨by decide +kernel, rfl⟩
set_option maxRecDepth 100000 in
theorem ii_mo_isParrot_2 : sm_D prog_9_method_30_code 2 3 5 (.if_icmp .eq 8) := ⟨by decide +kernel, rfl⟩
set_option maxRecDepth 100000 in
theorem ii_mo_isParrot_5 : sm_D prog_9_method_30_code 5 1 6 (.iload_n 0) := ⟨by decide +kernel, rfl⟩
set_option maxRecDepth 100000 in
theorem ii_mo_isParrot_6 : sm_D prog_9_method_30_code 6 1 7 (.iconst 5) := ⟨by decide +kernel, rfl⟩
set_option maxRecDepth 100000 in
theorem ii_mo_isParrot_7 : sm_D prog_9_method_30_code 7 3 10 (.if_icmp .ne 7) := ⟨by decide +kernel, rfl⟩
set_option maxRecDepth 100000 in
theorem ii_mo_isParrot_10 : sm_D prog_9_method_30_code 10 1 11 (.iconst 1) := ⟨by decide +kernel, rfl⟩
set_option maxRecDepth 100000 in
theorem ii_mo_isParrot_11 : sm_D prog_9_method_30_code 11 3 14 (.goto 4) := ⟨by decide +kernel, rfl⟩
set_option maxRecDepth 100000 in
theorem ii_mo_isParrot_14 : sm_D prog_9_method_30_code 14 1 15 (.iconst 0) := ⟨by decide +kernel, rfl⟩
set_option maxRecDepth 100000 in
theorem ii_mo_isParrot_15 : sm_D prog_9_method_30_code 15 1 16 (.ireturn) := ⟨by decide +kernel, rfl⟩
noncomputable def ff_mo_isParrot  (a0 : Int32) (w : sm_Mem) : sm_R := (if a0 = (1 : Int32) then (some (.int (1 : Int32), w)) else (if a0 = (5 : Int32) then (some (.int (1 : Int32), w)) else (some (.int (0 : Int32), w))))
set_option maxHeartbeats 4000000 in
set_option maxRecDepth 100000 in
theorem ss_mo_isParrot_0 {E : Nat × (Nat → Int32)}  (a0 : Int32) (w : sm_Mem) : sm_Sim E (mi_mo_isParrot) 0 [some (.int a0)] [] w (ff_mo_isParrot  a0 w) := by
  unfold ff_mo_isParrot
  refine sm_iload_n ii_mo_isParrot_0 rfl ?_
  refine sm_iconst (1 : Int32) ii_mo_isParrot_1 (by decide) ?_
  refine sm_icmp_eq 10 ii_mo_isParrot_2 (by decide) ?_ ?_
  · refine sm_iconst (1 : Int32) ii_mo_isParrot_10 (by decide) ?_
    refine sm_goto 15 ii_mo_isParrot_11 (by decide) ?_
    exact sm_zret1 ii_mo_isParrot_15 rfl (by decide)
  · refine sm_iload_n ii_mo_isParrot_5 rfl ?_
    refine sm_iconst (5 : Int32) ii_mo_isParrot_6 (by decide) ?_
    refine sm_icmp_ne 14 ii_mo_isParrot_7 (by decide) ?_ ?_
    · refine sm_iconst (1 : Int32) ii_mo_isParrot_10 (by decide) ?_
      refine sm_goto 15 ii_mo_isParrot_11 (by decide) ?_
      exact sm_zret1 ii_mo_isParrot_15 rfl (by decide)
    · refine sm_iconst (0 : Int32) ii_mo_isParrot_14 (by decide) ?_
      exact sm_zret1 ii_mo_isParrot_15 rfl (by decide)
set_option maxHeartbeats 4000000 in
set_option maxRecDepth 100000 in
theorem mc_mo_isParrot (a0 : Int32) (w : sm_Mem) : sm_MC mi_mo_isParrot [.int a0] w (ff_mo_isParrot a0 w) := sm_MC_of (0, fun _ => 0) (by decide +kernel) (by decide) rfl (Nat.le_of_ble_eq_true rfl) (ss_mo_isParrot_0 a0 w)
abbrev mi_mo_sumOf : sm_MI := (⟨"HerOrdersModel", "sumOf", "(I)I"⟩, prog_9_method_99_code, 4, (some .int), 2)
set_option maxRecDepth 100000 in
theorem mf_mo_sumOf : sm_MF mi_mo_sumOf 1 := ⟨List.mem_of_getElem? (i := 1431) (by decide +kernel), List.mem_of_getElem? (i := 132) (by decide +kernel), ⟨by decide, by decide⟩, by decide +kernel⟩
set_option maxRecDepth 100000 in
theorem mv_mo_sumOf : sm_MFV mi_mo_sumOf := ⟨List.mem_of_getElem? (i := 1430) (by decide +kernel), List.mem_of_getElem? (i := 120) (by decide +kernel)⟩
set_option maxRecDepth 100000 in
theorem ii_mo_sumOf_0 : sm_D prog_9_method_99_code 0 1 1 (.iconst 0) := ⟨by decide +kernel, rfl⟩
set_option maxRecDepth 100000 in
theorem ii_mo_sumOf_1 : sm_D prog_9_method_99_code 1 1 2 (.istore_n 2) := ⟨by decide +kernel, rfl⟩
set_option maxRecDepth 100000 in
theorem ii_mo_sumOf_2 : sm_D prog_9_method_99_code 2 1 3 (.iconst 0) := ⟨by decide +kernel, rfl⟩
set_option maxRecDepth 100000 in
theorem ii_mo_sumOf_3 : sm_D prog_9_method_99_code 3 1 4 (.istore_n 3) := ⟨by decide +kernel, rfl⟩
set_option maxRecDepth 100000 in
theorem ii_mo_sumOf_4 : sm_D prog_9_method_99_code 4 1 5 (.iload_n 3) := ⟨by decide +kernel, rfl⟩
set_option maxRecDepth 100000 in
theorem ii_mo_sumOf_5 : sm_D prog_9_method_99_code 5 1 6 (.aload_n 0) := ⟨by decide +kernel, rfl⟩
set_option maxRecDepth 100000 in
theorem ii_mo_sumOf_6 : sm_D prog_9_method_99_code 6 3 9 (.getfield 135) := ⟨by decide +kernel, rfl⟩
set_option maxRecDepth 100000 in
theorem ii_mo_sumOf_9 : sm_D prog_9_method_99_code 9 3 12 (.if_icmp .ge 46) := ⟨by decide +kernel, rfl⟩
set_option maxRecDepth 100000 in
theorem ii_mo_sumOf_12 : sm_D prog_9_method_99_code 12 1 13 (.iload_n 2) := ⟨by decide +kernel, rfl⟩
set_option maxRecDepth 100000 in
theorem ii_mo_sumOf_13 : sm_D prog_9_method_99_code 13 1 14 (.iload_n 1) := ⟨by decide +kernel, rfl⟩
set_option maxRecDepth 100000 in
theorem ii_mo_sumOf_14 : sm_D prog_9_method_99_code 14 1 15 (.iconst 5) := ⟨by decide +kernel, rfl⟩
set_option maxRecDepth 100000 in
theorem ii_mo_sumOf_15 : sm_D prog_9_method_99_code 15 3 18 (.if_icmp .ne 15) := ⟨by decide +kernel, rfl⟩
set_option maxRecDepth 100000 in
theorem ii_mo_sumOf_18 : sm_D prog_9_method_99_code 18 1 19 (.aload_n 0) := ⟨by decide +kernel, rfl⟩
set_option maxRecDepth 100000 in
theorem ii_mo_sumOf_19 : sm_D prog_9_method_99_code 19 3 22 (.getfield 7) := ⟨by decide +kernel, rfl⟩
set_option maxRecDepth 100000 in
theorem ii_mo_sumOf_22 : sm_D prog_9_method_99_code 22 2 24 (.bipush 26) := ⟨by decide +kernel, rfl⟩
set_option maxRecDepth 100000 in
theorem ii_mo_sumOf_24 : sm_D prog_9_method_99_code 24 1 25 (.iload_n 3) := ⟨by decide +kernel, rfl⟩
set_option maxRecDepth 100000 in
theorem ii_mo_sumOf_25 : sm_D prog_9_method_99_code 25 1 26 (.iadd) := ⟨by decide +kernel, rfl⟩
set_option maxRecDepth 100000 in
theorem ii_mo_sumOf_26 : sm_D prog_9_method_99_code 26 1 27 (.iaload) := ⟨by decide +kernel, rfl⟩
set_option maxRecDepth 100000 in
theorem ii_mo_sumOf_27 : sm_D prog_9_method_99_code 27 3 30 (.goto 20) := ⟨by decide +kernel, rfl⟩
set_option maxRecDepth 100000 in
theorem ii_mo_sumOf_30 : sm_D prog_9_method_99_code 30 1 31 (.aload_n 0) := ⟨by decide +kernel, rfl⟩
set_option maxRecDepth 100000 in
theorem ii_mo_sumOf_31 : sm_D prog_9_method_99_code 31 3 34 (.getfield 13) := ⟨by decide +kernel, rfl⟩
set_option maxRecDepth 100000 in
theorem ii_mo_sumOf_34 : sm_D prog_9_method_99_code 34 1 35 (.iload_n 3) := ⟨by decide +kernel, rfl⟩
set_option maxRecDepth 100000 in
theorem ii_mo_sumOf_35 : sm_D prog_9_method_99_code 35 1 36 (.iaload) := ⟨by decide +kernel, rfl⟩
set_option maxRecDepth 100000 in
theorem ii_mo_sumOf_36 : sm_D prog_9_method_99_code 36 3 39 (.invokestatic 308) := ⟨by decide +kernel, rfl⟩
set_option maxRecDepth 100000 in
theorem ii_mo_sumOf_39 : sm_D prog_9_method_99_code 39 3 42 (.ifCond .eq 7) := ⟨by decide +kernel, rfl⟩
set_option maxRecDepth 100000 in
theorem ii_mo_sumOf_42 : sm_D prog_9_method_99_code 42 1 43 (.iconst 1) := ⟨by decide +kernel, rfl⟩
set_option maxRecDepth 100000 in
theorem ii_mo_sumOf_43 : sm_D prog_9_method_99_code 43 3 46 (.goto 4) := ⟨by decide +kernel, rfl⟩
set_option maxRecDepth 100000 in
theorem ii_mo_sumOf_46 : sm_D prog_9_method_99_code 46 1 47 (.iconst 0) := ⟨by decide +kernel, rfl⟩
set_option maxRecDepth 100000 in
theorem ii_mo_sumOf_47 : sm_D prog_9_method_99_code 47 1 48 (.iadd) := ⟨by decide +kernel, rfl⟩
set_option maxRecDepth 100000 in
theorem ii_mo_sumOf_48 : sm_D prog_9_method_99_code 48 1 49 (.istore_n 2) := ⟨by decide +kernel, rfl⟩
set_option maxRecDepth 100000 in
theorem ii_mo_sumOf_49 : sm_D prog_9_method_99_code 49 3 52 (.iinc 3 1) := ⟨by decide +kernel, rfl⟩
set_option maxRecDepth 100000 in
theorem ii_mo_sumOf_52 : sm_D prog_9_method_99_code 52 3 55 (.goto (-48)) := ⟨by decide +kernel, rfl⟩
set_option maxRecDepth 100000 in
theorem ii_mo_sumOf_55 : sm_D prog_9_method_99_code 55 1 56 (.iload_n 2) := ⟨by decide +kernel, rfl⟩
set_option maxRecDepth 100000 in
theorem ii_mo_sumOf_56 : sm_D prog_9_method_99_code 56 1 57 (.ireturn) := ⟨by decide +kernel, rfl⟩
noncomputable def ff_mo_sumOf_47 (self4 : Int32 → Int32 → Int32 → sm_Mem → sm_R) (a1 : Int32) (a3 : Int32) (b0 : Int32) (b1 : Int32) (w : sm_Mem) : sm_R := self4 (a1) ((b0 + b1)) ((a3 + (1 : Int32))) w
set_option maxHeartbeats 4000000 in
set_option maxRecDepth 100000 in
theorem ss_mo_sumOf_47 {E : Nat × (Nat → Int32)} (self4 : Int32 → Int32 → Int32 → sm_Mem → sm_R) (hself4 : ∀ (a1 : Int32) (a2 : Int32) (a3 : Int32) (w : sm_Mem), sm_Sim E (mi_mo_sumOf) 4 [some (.ref 62), some (.int a1), some (.int a2), some (.int a3)] [] w (self4 a1 a2 a3 w)) (a1 : Int32) (a3 : Int32) (b0 : Int32) (b1 : Int32) (w : sm_Mem) : sm_Sim E (mi_mo_sumOf) 47 [some (.ref 62), some (.int a1), none, some (.int a3)] [.int b1, .int b0] w (ff_mo_sumOf_47 self4 a1 a3 b0 b1 w) := by
  unfold ff_mo_sumOf_47
  refine sm_iadd ii_mo_sumOf_47 ?_
  refine sm_istore_n [some (.ref 62), some (.int a1), some (.int (b0 + b1)), some (.int a3)] ii_mo_sumOf_48 rfl rfl ?_
  refine sm_iinc (a3 + (1 : Int32)) [some (.ref 62), some (.int a1), some (.int (b0 + b1)), some (.int (a3 + (1 : Int32)))] ii_mo_sumOf_49 rfl rfl rfl rfl ?_
  refine sm_goto 4 ii_mo_sumOf_52 (by decide) ?_
  exact hself4 (a1) ((b0 + b1)) ((a3 + (1 : Int32))) w
noncomputable def ff_mo_sumOf_4_b  (self4 : Int32 → Int32 → Int32 → sm_Mem → sm_R) (a1 : Int32) (a2 : Int32) (a3 : Int32) (w : sm_Mem) : sm_R := (if (w.1 62 1) ≤ a3 then (some (.int a2, w)) else (if a1 = (5 : Int32) then (Option.bind (sm_rd w 63 5184 ((26 : Int32) + a3)) fun x4 => ff_mo_sumOf_47 self4 (a1) (a3) (a2) (x4) w) else (Option.bind (sm_rd w 64 7 a3) fun x1 => (sm_cI (ff_mo_isParrot (x1) w) fun x2 w3 => (if x2 = (0 : Int32) then ff_mo_sumOf_47 self4 (a1) (a3) (a2) ((0 : Int32)) w3 else ff_mo_sumOf_47 self4 (a1) (a3) (a2) ((1 : Int32)) w3)))))
noncomputable def ff_mo_sumOf_4_f  : Nat → Int32 → Int32 → Int32 → sm_Mem → sm_R
  | 0, _, _, _, _ => none
  | n + 1, a1, a2, a3, w => ff_mo_sumOf_4_b  (ff_mo_sumOf_4_f  n) a1 a2 a3 w
noncomputable def ff_mo_sumOf_4  (a1 : Int32) (a2 : Int32) (a3 : Int32) (w : sm_Mem) : sm_R := ff_mo_sumOf_4_f  sm_N a1 a2 a3 w
set_option maxHeartbeats 4000000 in
set_option maxRecDepth 100000 in
theorem ss_mo_sumOf_4_b {E : Nat × (Nat → Int32)}  (self4 : Int32 → Int32 → Int32 → sm_Mem → sm_R) (hself4 : ∀ (a1 : Int32) (a2 : Int32) (a3 : Int32) (w : sm_Mem), sm_Sim E (mi_mo_sumOf) 4 [some (.ref 62), some (.int a1), some (.int a2), some (.int a3)] [] w (self4 a1 a2 a3 w)) (a1 : Int32) (a2 : Int32) (a3 : Int32) (w : sm_Mem) : sm_Sim E (mi_mo_sumOf) 4 [some (.ref 62), some (.int a1), some (.int a2), some (.int a3)] [] w (ff_mo_sumOf_4_b  self4 a1 a2 a3 w) := by
  unfold ff_mo_sumOf_4_b
  refine sm_iload_n ii_mo_sumOf_4 rfl ?_
  refine sm_aload_n ii_mo_sumOf_5 rfl ?_
  refine sm_getI ii_mo_sumOf_6 fl_mo_135 (k := 62) rfl ?_
  refine sm_icmp_ge 55 ii_mo_sumOf_9 (by decide) ?_ ?_
  · refine sm_iload_n ii_mo_sumOf_55 rfl ?_
    exact sm_iret ii_mo_sumOf_56 rfl
  · refine sm_iload_n ii_mo_sumOf_12 rfl ?_
    refine sm_iload_n ii_mo_sumOf_13 rfl ?_
    refine sm_iconst (5 : Int32) ii_mo_sumOf_14 (by decide) ?_
    refine sm_icmp_ne 30 ii_mo_sumOf_15 (by decide) ?_ ?_
    · refine sm_aload_n ii_mo_sumOf_18 rfl ?_
      refine sm_getR 63 ii_mo_sumOf_19 fl_mo_7 (k := 62) rfl ?_
      refine sm_bipush (26 : Int32) ii_mo_sumOf_22 (by decide) ?_
      refine sm_iload_n ii_mo_sumOf_24 rfl ?_
      refine sm_iadd ii_mo_sumOf_25 ?_
      refine sm_iald ii_mo_sumOf_26 (k := 63) rfl (fun x4 => ?_)
      refine sm_goto 47 ii_mo_sumOf_27 (by decide) ?_
      refine sm_msk [true, true, false, true] [some (.ref 62), some (.int a1), none, some (.int a3)] rfl ?_
      exact ss_mo_sumOf_47 self4 hself4 (a1) (a3) (a2) (x4) w
    · refine sm_aload_n ii_mo_sumOf_30 rfl ?_
      refine sm_getR 64 ii_mo_sumOf_31 fl_mo_13 (k := 62) rfl ?_
      refine sm_iload_n ii_mo_sumOf_34 rfl ?_
      refine sm_iald ii_mo_sumOf_35 (k := 64) rfl (fun x1 => ?_)
      refine sm_csI [.int x1] [.int a2] rfl ii_mo_sumOf_36 ml_mo_308 (mf_mo_isParrot) (mv_mo_isParrot) (Nat.le_of_ble_eq_true rfl) rfl rfl rfl (mc_mo_isParrot (x1) w) (fun x2 w3 => ?_)
      refine sm_if_eq 46 ii_mo_sumOf_39 (by decide) ?_ ?_
      · refine sm_iconst (0 : Int32) ii_mo_sumOf_46 (by decide) ?_
        refine sm_msk [true, true, false, true] [some (.ref 62), some (.int a1), none, some (.int a3)] rfl ?_
        exact ss_mo_sumOf_47 self4 hself4 (a1) (a3) (a2) ((0 : Int32)) w3
      · refine sm_iconst (1 : Int32) ii_mo_sumOf_42 (by decide) ?_
        refine sm_goto 47 ii_mo_sumOf_43 (by decide) ?_
        refine sm_msk [true, true, false, true] [some (.ref 62), some (.int a1), none, some (.int a3)] rfl ?_
        exact ss_mo_sumOf_47 self4 hself4 (a1) (a3) (a2) ((1 : Int32)) w3
set_option maxHeartbeats 4000000 in
set_option maxRecDepth 100000 in
theorem ss_mo_sumOf_4_f {E : Nat × (Nat → Int32)}  : ∀ (n : Nat) (a1 : Int32) (a2 : Int32) (a3 : Int32) (w : sm_Mem), sm_Sim E (mi_mo_sumOf) 4 [some (.ref 62), some (.int a1), some (.int a2), some (.int a3)] [] w (ff_mo_sumOf_4_f  n a1 a2 a3 w)
  | 0, _, _, _, _ => fun _ _ h => by cases h
  | n + 1, a1, a2, a3, w => ss_mo_sumOf_4_b  _ (ss_mo_sumOf_4_f  n) a1 a2 a3 w
set_option maxHeartbeats 4000000 in
set_option maxRecDepth 100000 in
theorem ss_mo_sumOf_4 {E : Nat × (Nat → Int32)}  (a1 : Int32) (a2 : Int32) (a3 : Int32) (w : sm_Mem) : sm_Sim E (mi_mo_sumOf) 4 [some (.ref 62), some (.int a1), some (.int a2), some (.int a3)] [] w (ff_mo_sumOf_4  a1 a2 a3 w) := ss_mo_sumOf_4_f  sm_N a1 a2 a3 w
noncomputable def ff_mo_sumOf  (a1 : Int32) (w : sm_Mem) : sm_R := ff_mo_sumOf_4 (a1) ((0 : Int32)) ((0 : Int32)) w
set_option maxHeartbeats 4000000 in
set_option maxRecDepth 100000 in
theorem ss_mo_sumOf_0 {E : Nat × (Nat → Int32)}  (a1 : Int32) (w : sm_Mem) : sm_Sim E (mi_mo_sumOf) 0 [some (.ref 62), some (.int a1), none, none] [] w (ff_mo_sumOf  a1 w) := by
  unfold ff_mo_sumOf
  refine sm_iconst (0 : Int32) ii_mo_sumOf_0 (by decide) ?_
  refine sm_istore_n [some (.ref 62), some (.int a1), some (.int (0 : Int32)), none] ii_mo_sumOf_1 rfl rfl ?_
  refine sm_iconst (0 : Int32) ii_mo_sumOf_2 (by decide) ?_
  refine sm_istore_n [some (.ref 62), some (.int a1), some (.int (0 : Int32)), some (.int (0 : Int32))] ii_mo_sumOf_3 rfl rfl ?_
  exact ss_mo_sumOf_4 (a1) ((0 : Int32)) ((0 : Int32)) w
set_option maxHeartbeats 4000000 in
set_option maxRecDepth 100000 in
theorem mc_mo_sumOf (a1 : Int32) (w : sm_Mem) : sm_MC mi_mo_sumOf [.ref 62, .int a1] w (ff_mo_sumOf a1 w) := sm_MC_of (0, fun _ => 0) (by decide +kernel) (by decide) rfl (Nat.le_of_ble_eq_true rfl) (ss_mo_sumOf_0 a1 w)
abbrev mi_mo_wordsNext : sm_MI := (⟨"HerOrdersModel", "wordsNext", "()I"⟩, prog_9_method_100_code, 3, (some .int), 5)
set_option maxRecDepth 100000 in
theorem mf_mo_wordsNext : sm_MF mi_mo_wordsNext 0 := ⟨List.mem_of_getElem? (i := 1438) (by decide +kernel), List.mem_of_getElem? (i := 132) (by decide +kernel), ⟨by decide, by decide⟩, by decide +kernel⟩
set_option maxRecDepth 100000 in
theorem mv_mo_wordsNext : sm_MFV mi_mo_wordsNext := ⟨List.mem_of_getElem? (i := 1437) (by decide +kernel), List.mem_of_getElem? (i := 121) (by decide +kernel)⟩
set_option maxRecDepth 100000 in
theorem ii_mo_wordsNext_0 : sm_D prog_9_method_100_code 0 1 1 (.iconst 0) := ⟨by decide +kernel, rfl⟩
set_option maxRecDepth 100000 in
theorem ii_mo_wordsNext_1 : sm_D prog_9_method_100_code 1 1 2 (.istore_n 1) := ⟨by decide +kernel, rfl⟩
set_option maxRecDepth 100000 in
theorem ii_mo_wordsNext_2 : sm_D prog_9_method_100_code 2 1 3 (.iconst 0) := ⟨by decide +kernel, rfl⟩
set_option maxRecDepth 100000 in
theorem ii_mo_wordsNext_3 : sm_D prog_9_method_100_code 3 1 4 (.istore_n 2) := ⟨by decide +kernel, rfl⟩
set_option maxRecDepth 100000 in
theorem ii_mo_wordsNext_4 : sm_D prog_9_method_100_code 4 1 5 (.iload_n 2) := ⟨by decide +kernel, rfl⟩
set_option maxRecDepth 100000 in
theorem ii_mo_wordsNext_5 : sm_D prog_9_method_100_code 5 1 6 (.aload_n 0) := ⟨by decide +kernel, rfl⟩
set_option maxRecDepth 100000 in
theorem ii_mo_wordsNext_6 : sm_D prog_9_method_100_code 6 3 9 (.getfield 135) := ⟨by decide +kernel, rfl⟩
set_option maxRecDepth 100000 in
theorem ii_mo_wordsNext_9 : sm_D prog_9_method_100_code 9 3 12 (.if_icmp .ge 18) := ⟨by decide +kernel, rfl⟩
set_option maxRecDepth 100000 in
theorem ii_mo_wordsNext_12 : sm_D prog_9_method_100_code 12 1 13 (.iload_n 1) := ⟨by decide +kernel, rfl⟩
set_option maxRecDepth 100000 in
theorem ii_mo_wordsNext_13 : sm_D prog_9_method_100_code 13 1 14 (.aload_n 0) := ⟨by decide +kernel, rfl⟩
set_option maxRecDepth 100000 in
theorem ii_mo_wordsNext_14 : sm_D prog_9_method_100_code 14 1 15 (.iconst 0) := ⟨by decide +kernel, rfl⟩
set_option maxRecDepth 100000 in
theorem ii_mo_wordsNext_15 : sm_D prog_9_method_100_code 15 1 16 (.iload_n 2) := ⟨by decide +kernel, rfl⟩
set_option maxRecDepth 100000 in
theorem ii_mo_wordsNext_16 : sm_D prog_9_method_100_code 16 3 19 (.invokevirtual 166) := ⟨by decide +kernel, rfl⟩
set_option maxRecDepth 100000 in
theorem ii_mo_wordsNext_19 : sm_D prog_9_method_100_code 19 1 20 (.ior) := ⟨by decide +kernel, rfl⟩
set_option maxRecDepth 100000 in
theorem ii_mo_wordsNext_20 : sm_D prog_9_method_100_code 20 1 21 (.istore_n 1) := ⟨by decide +kernel, rfl⟩
set_option maxRecDepth 100000 in
theorem ii_mo_wordsNext_21 : sm_D prog_9_method_100_code 21 3 24 (.iinc 2 1) := ⟨by decide +kernel, rfl⟩
set_option maxRecDepth 100000 in
theorem ii_mo_wordsNext_24 : sm_D prog_9_method_100_code 24 3 27 (.goto (-20)) := ⟨by decide +kernel, rfl⟩
set_option maxRecDepth 100000 in
theorem ii_mo_wordsNext_27 : sm_D prog_9_method_100_code 27 1 28 (.iload_n 1) := ⟨by decide +kernel, rfl⟩
set_option maxRecDepth 100000 in
theorem ii_mo_wordsNext_28 : sm_D prog_9_method_100_code 28 1 29 (.ireturn) := ⟨by decide +kernel, rfl⟩
noncomputable def ff_mo_wordsNext_4_b  (self4 : Int32 → Int32 → sm_Mem → sm_R) (a1 : Int32) (a2 : Int32) (w : sm_Mem) : sm_R := (if (w.1 62 1) ≤ a2 then (some (.int a1, w)) else (sm_cI (ff_mo_whatCan ((0 : Int32)) (a2) w) fun x1 w2 => self4 ((a1 ||| x1)) ((a2 + (1 : Int32))) w2))
noncomputable def ff_mo_wordsNext_4_f  : Nat → Int32 → Int32 → sm_Mem → sm_R
  | 0, _, _, _ => none
  | n + 1, a1, a2, w => ff_mo_wordsNext_4_b  (ff_mo_wordsNext_4_f  n) a1 a2 w
noncomputable def ff_mo_wordsNext_4  (a1 : Int32) (a2 : Int32) (w : sm_Mem) : sm_R := ff_mo_wordsNext_4_f  sm_N a1 a2 w
set_option maxHeartbeats 4000000 in
set_option maxRecDepth 100000 in
theorem ss_mo_wordsNext_4_b {E : Nat × (Nat → Int32)}  (self4 : Int32 → Int32 → sm_Mem → sm_R) (hself4 : ∀ (a1 : Int32) (a2 : Int32) (w : sm_Mem), sm_Sim E (mi_mo_wordsNext) 4 [some (.ref 62), some (.int a1), some (.int a2)] [] w (self4 a1 a2 w)) (a1 : Int32) (a2 : Int32) (w : sm_Mem) : sm_Sim E (mi_mo_wordsNext) 4 [some (.ref 62), some (.int a1), some (.int a2)] [] w (ff_mo_wordsNext_4_b  self4 a1 a2 w) := by
  unfold ff_mo_wordsNext_4_b
  refine sm_iload_n ii_mo_wordsNext_4 rfl ?_
  refine sm_aload_n ii_mo_wordsNext_5 rfl ?_
  refine sm_getI ii_mo_wordsNext_6 fl_mo_135 (k := 62) rfl ?_
  refine sm_icmp_ge 27 ii_mo_wordsNext_9 (by decide) ?_ ?_
  · refine sm_iload_n ii_mo_wordsNext_27 rfl ?_
    exact sm_iret ii_mo_wordsNext_28 rfl
  · refine sm_iload_n ii_mo_wordsNext_12 rfl ?_
    refine sm_aload_n ii_mo_wordsNext_13 rfl ?_
    refine sm_iconst (0 : Int32) ii_mo_wordsNext_14 (by decide) ?_
    refine sm_iload_n ii_mo_wordsNext_15 rfl ?_
    refine sm_cvI [.int (0 : Int32), .int a2] [.int a1] rfl ii_mo_wordsNext_16 ml_mo_166 (mf_mo_whatCan) (mv_mo_whatCan) (Nat.le_of_ble_eq_true rfl) rfl 7 rfl rfl rfl rfl (mc_mo_whatCan ((0 : Int32)) (a2) w) (fun x1 w2 => ?_)
    refine sm_ior ii_mo_wordsNext_19 ?_
    refine sm_istore_n [some (.ref 62), some (.int (a1 ||| x1)), some (.int a2)] ii_mo_wordsNext_20 rfl rfl ?_
    refine sm_iinc (a2 + (1 : Int32)) [some (.ref 62), some (.int (a1 ||| x1)), some (.int (a2 + (1 : Int32)))] ii_mo_wordsNext_21 rfl rfl rfl rfl ?_
    refine sm_goto 4 ii_mo_wordsNext_24 (by decide) ?_
    exact hself4 ((a1 ||| x1)) ((a2 + (1 : Int32))) w2
set_option maxHeartbeats 4000000 in
set_option maxRecDepth 100000 in
theorem ss_mo_wordsNext_4_f {E : Nat × (Nat → Int32)}  : ∀ (n : Nat) (a1 : Int32) (a2 : Int32) (w : sm_Mem), sm_Sim E (mi_mo_wordsNext) 4 [some (.ref 62), some (.int a1), some (.int a2)] [] w (ff_mo_wordsNext_4_f  n a1 a2 w)
  | 0, _, _, _ => fun _ _ h => by cases h
  | n + 1, a1, a2, w => ss_mo_wordsNext_4_b  _ (ss_mo_wordsNext_4_f  n) a1 a2 w
set_option maxHeartbeats 4000000 in
set_option maxRecDepth 100000 in
theorem ss_mo_wordsNext_4 {E : Nat × (Nat → Int32)}  (a1 : Int32) (a2 : Int32) (w : sm_Mem) : sm_Sim E (mi_mo_wordsNext) 4 [some (.ref 62), some (.int a1), some (.int a2)] [] w (ff_mo_wordsNext_4  a1 a2 w) := ss_mo_wordsNext_4_f  sm_N a1 a2 w
noncomputable def ff_mo_wordsNext   (w : sm_Mem) : sm_R := ff_mo_wordsNext_4 ((0 : Int32)) ((0 : Int32)) w
set_option maxHeartbeats 4000000 in
set_option maxRecDepth 100000 in
theorem ss_mo_wordsNext_0 {E : Nat × (Nat → Int32)}   (w : sm_Mem) : sm_Sim E (mi_mo_wordsNext) 0 [some (.ref 62), none, none] [] w (ff_mo_wordsNext   w) := by
  unfold ff_mo_wordsNext
  refine sm_iconst (0 : Int32) ii_mo_wordsNext_0 (by decide) ?_
  refine sm_istore_n [some (.ref 62), some (.int (0 : Int32)), none] ii_mo_wordsNext_1 rfl rfl ?_
  refine sm_iconst (0 : Int32) ii_mo_wordsNext_2 (by decide) ?_
  refine sm_istore_n [some (.ref 62), some (.int (0 : Int32)), some (.int (0 : Int32))] ii_mo_wordsNext_3 rfl rfl ?_
  exact ss_mo_wordsNext_4 ((0 : Int32)) ((0 : Int32)) w
set_option maxHeartbeats 4000000 in
set_option maxRecDepth 100000 in
theorem mc_mo_wordsNext  (w : sm_Mem) : sm_MC mi_mo_wordsNext [.ref 62] w (ff_mo_wordsNext  w) := sm_MC_of (0, fun _ => 0) (by decide +kernel) (by decide) rfl (Nat.le_of_ble_eq_true rfl) (ss_mo_wordsNext_0  w)
abbrev mi_mo_thereOf : sm_MI := (⟨"HerOrdersModel", "thereOf", "(I)I"⟩, prog_9_method_101_code, 4, (some .int), 1)
set_option maxRecDepth 100000 in
theorem mf_mo_thereOf : sm_MF mi_mo_thereOf 1 := ⟨List.mem_of_getElem? (i := 1442) (by decide +kernel), List.mem_of_getElem? (i := 132) (by decide +kernel), ⟨by decide, by decide⟩, by decide +kernel⟩
set_option maxRecDepth 100000 in
theorem mv_mo_thereOf : sm_MFV mi_mo_thereOf := ⟨List.mem_of_getElem? (i := 1441) (by decide +kernel), List.mem_of_getElem? (i := 122) (by decide +kernel)⟩
set_option maxRecDepth 100000 in
theorem ii_mo_thereOf_0 : sm_D prog_9_method_101_code 0 1 1 (.iconst 0) := ⟨by decide +kernel, rfl⟩
set_option maxRecDepth 100000 in
theorem ii_mo_thereOf_1 : sm_D prog_9_method_101_code 1 1 2 (.istore_n 2) := ⟨by decide +kernel, rfl⟩
set_option maxRecDepth 100000 in
theorem ii_mo_thereOf_2 : sm_D prog_9_method_101_code 2 1 3 (.iconst 0) := ⟨by decide +kernel, rfl⟩
set_option maxRecDepth 100000 in
theorem ii_mo_thereOf_3 : sm_D prog_9_method_101_code 3 1 4 (.istore_n 3) := ⟨by decide +kernel, rfl⟩
set_option maxRecDepth 100000 in
theorem ii_mo_thereOf_4 : sm_D prog_9_method_101_code 4 1 5 (.iload_n 3) := ⟨by decide +kernel, rfl⟩
set_option maxRecDepth 100000 in
theorem ii_mo_thereOf_5 : sm_D prog_9_method_101_code 5 2 7 (.bipush 6) := ⟨by decide +kernel, rfl⟩
set_option maxRecDepth 100000 in
theorem ii_mo_thereOf_7 : sm_D prog_9_method_101_code 7 3 10 (.if_icmp .ge 90) := ⟨by decide +kernel, rfl⟩
set_option maxRecDepth 100000 in
theorem ii_mo_thereOf_10 : sm_D prog_9_method_101_code 10 1 11 (.iload_n 2) := ⟨by decide +kernel, rfl⟩
set_option maxRecDepth 100000 in
theorem ii_mo_thereOf_11 : sm_D prog_9_method_101_code 11 1 12 (.iload_n 1) := ⟨by decide +kernel, rfl⟩
set_option maxRecDepth 100000 in
theorem ii_mo_thereOf_12 : sm_D prog_9_method_101_code 12 2 14 (.bipush 8) := ⟨by decide +kernel, rfl⟩
set_option maxRecDepth 100000 in
theorem ii_mo_thereOf_14 : sm_D prog_9_method_101_code 14 3 17 (.if_icmp .ne 20) := ⟨by decide +kernel, rfl⟩
set_option maxRecDepth 100000 in
theorem ii_mo_thereOf_17 : sm_D prog_9_method_101_code 17 1 18 (.aload_n 0) := ⟨by decide +kernel, rfl⟩
set_option maxRecDepth 100000 in
theorem ii_mo_thereOf_18 : sm_D prog_9_method_101_code 18 3 21 (.getfield 22) := ⟨by decide +kernel, rfl⟩
set_option maxRecDepth 100000 in
theorem ii_mo_thereOf_21 : sm_D prog_9_method_101_code 21 1 22 (.iload_n 3) := ⟨by decide +kernel, rfl⟩
set_option maxRecDepth 100000 in
theorem ii_mo_thereOf_22 : sm_D prog_9_method_101_code 22 1 23 (.iaload) := ⟨by decide +kernel, rfl⟩
set_option maxRecDepth 100000 in
theorem ii_mo_thereOf_23 : sm_D prog_9_method_101_code 23 3 26 (.ifCond .ge 7) := ⟨by decide +kernel, rfl⟩
set_option maxRecDepth 100000 in
theorem ii_mo_thereOf_26 : sm_D prog_9_method_101_code 26 1 27 (.iconst 0) := ⟨by decide +kernel, rfl⟩
set_option maxRecDepth 100000 in
theorem ii_mo_thereOf_27 : sm_D prog_9_method_101_code 27 3 30 (.goto 62) := ⟨by decide +kernel, rfl⟩
set_option maxRecDepth 100000 in
theorem ii_mo_thereOf_30 : sm_D prog_9_method_101_code 30 1 31 (.iconst 1) := ⟨by decide +kernel, rfl⟩
set_option maxRecDepth 100000 in
theorem ii_mo_thereOf_31 : sm_D prog_9_method_101_code 31 3 34 (.goto 58) := ⟨by decide +kernel, rfl⟩
set_option maxRecDepth 100000 in
theorem ii_mo_thereOf_34 : sm_D prog_9_method_101_code 34 1 35 (.iload_n 1) := ⟨by decide +kernel, rfl⟩
set_option maxRecDepth 100000 in
theorem ii_mo_thereOf_35 : sm_D prog_9_method_101_code 35 2 37 (.bipush 9) := ⟨by decide +kernel, rfl⟩
set_option maxRecDepth 100000 in
theorem ii_mo_thereOf_37 : sm_D prog_9_method_101_code 37 3 40 (.if_icmp .ne 25) := ⟨by decide +kernel, rfl⟩
set_option maxRecDepth 100000 in
theorem ii_mo_thereOf_40 : sm_D prog_9_method_101_code 40 1 41 (.iload_n 3) := ⟨by decide +kernel, rfl⟩
set_option maxRecDepth 100000 in
theorem ii_mo_thereOf_41 : sm_D prog_9_method_101_code 41 1 42 (.iconst 4) := ⟨by decide +kernel, rfl⟩
set_option maxRecDepth 100000 in
theorem ii_mo_thereOf_42 : sm_D prog_9_method_101_code 42 3 45 (.if_icmp .ge 16) := ⟨by decide +kernel, rfl⟩
set_option maxRecDepth 100000 in
theorem ii_mo_thereOf_45 : sm_D prog_9_method_101_code 45 1 46 (.aload_n 0) := ⟨by decide +kernel, rfl⟩
set_option maxRecDepth 100000 in
theorem ii_mo_thereOf_46 : sm_D prog_9_method_101_code 46 3 49 (.getfield 28) := ⟨by decide +kernel, rfl⟩
set_option maxRecDepth 100000 in
theorem ii_mo_thereOf_49 : sm_D prog_9_method_101_code 49 1 50 (.iload_n 3) := ⟨by decide +kernel, rfl⟩
set_option maxRecDepth 100000 in
theorem ii_mo_thereOf_50 : sm_D prog_9_method_101_code 50 1 51 (.iaload) := ⟨by decide +kernel, rfl⟩
set_option maxRecDepth 100000 in
theorem ii_mo_thereOf_51 : sm_D prog_9_method_101_code 51 3 54 (.ifCond .lt 7) := ⟨by decide +kernel, rfl⟩
set_option maxRecDepth 100000 in
theorem ii_mo_thereOf_54 : sm_D prog_9_method_101_code 54 1 55 (.iconst 1) := ⟨by decide +kernel, rfl⟩
set_option maxRecDepth 100000 in
theorem ii_mo_thereOf_55 : sm_D prog_9_method_101_code 55 3 58 (.goto 34) := ⟨by decide +kernel, rfl⟩
set_option maxRecDepth 100000 in
theorem ii_mo_thereOf_58 : sm_D prog_9_method_101_code 58 1 59 (.iconst 0) := ⟨by decide +kernel, rfl⟩
set_option maxRecDepth 100000 in
theorem ii_mo_thereOf_59 : sm_D prog_9_method_101_code 59 3 62 (.goto 30) := ⟨by decide +kernel, rfl⟩
set_option maxRecDepth 100000 in
theorem ii_mo_thereOf_62 : sm_D prog_9_method_101_code 62 1 63 (.iload_n 3) := ⟨by decide +kernel, rfl⟩
set_option maxRecDepth 100000 in
theorem ii_mo_thereOf_63 : sm_D prog_9_method_101_code 63 1 64 (.iconst 3) := ⟨by decide +kernel, rfl⟩
set_option maxRecDepth 100000 in
theorem ii_mo_thereOf_64 : sm_D prog_9_method_101_code 64 3 67 (.if_icmp .ge 24) := ⟨by decide +kernel, rfl⟩
set_option maxRecDepth 100000 in
theorem ii_mo_thereOf_67 : sm_D prog_9_method_101_code 67 1 68 (.aload_n 0) := ⟨by decide +kernel, rfl⟩
set_option maxRecDepth 100000 in
theorem ii_mo_thereOf_68 : sm_D prog_9_method_101_code 68 3 71 (.getfield 7) := ⟨by decide +kernel, rfl⟩
set_option maxRecDepth 100000 in
theorem ii_mo_thereOf_71 : sm_D prog_9_method_101_code 71 3 74 (.sipush 1272) := ⟨by decide +kernel, rfl⟩
set_option maxRecDepth 100000 in
theorem ii_mo_thereOf_74 : sm_D prog_9_method_101_code 74 1 75 (.iconst 1) := ⟨by decide +kernel, rfl⟩
set_option maxRecDepth 100000 in
theorem ii_mo_thereOf_75 : sm_D prog_9_method_101_code 75 1 76 (.iload_n 3) := ⟨by decide +kernel, rfl⟩
set_option maxRecDepth 100000 in
theorem ii_mo_thereOf_76 : sm_D prog_9_method_101_code 76 1 77 (.iadd) := ⟨by decide +kernel, rfl⟩
set_option maxRecDepth 100000 in
theorem ii_mo_thereOf_77 : sm_D prog_9_method_101_code 77 1 78 (.imul) := ⟨by decide +kernel, rfl⟩
set_option maxRecDepth 100000 in
theorem ii_mo_thereOf_78 : sm_D prog_9_method_101_code 78 1 79 (.iconst 0) := ⟨by decide +kernel, rfl⟩
set_option maxRecDepth 100000 in
theorem ii_mo_thereOf_79 : sm_D prog_9_method_101_code 79 1 80 (.iadd) := ⟨by decide +kernel, rfl⟩
set_option maxRecDepth 100000 in
theorem ii_mo_thereOf_80 : sm_D prog_9_method_101_code 80 1 81 (.iaload) := ⟨by decide +kernel, rfl⟩
set_option maxRecDepth 100000 in
theorem ii_mo_thereOf_81 : sm_D prog_9_method_101_code 81 3 84 (.ifCond .lt 7) := ⟨by decide +kernel, rfl⟩
set_option maxRecDepth 100000 in
theorem ii_mo_thereOf_84 : sm_D prog_9_method_101_code 84 1 85 (.iconst 1) := ⟨by decide +kernel, rfl⟩
set_option maxRecDepth 100000 in
theorem ii_mo_thereOf_85 : sm_D prog_9_method_101_code 85 3 88 (.goto 4) := ⟨by decide +kernel, rfl⟩
set_option maxRecDepth 100000 in
theorem ii_mo_thereOf_88 : sm_D prog_9_method_101_code 88 1 89 (.iconst 0) := ⟨by decide +kernel, rfl⟩
set_option maxRecDepth 100000 in
theorem ii_mo_thereOf_89 : sm_D prog_9_method_101_code 89 1 90 (.iadd) := ⟨by decide +kernel, rfl⟩
set_option maxRecDepth 100000 in
theorem ii_mo_thereOf_90 : sm_D prog_9_method_101_code 90 1 91 (.istore_n 2) := ⟨by decide +kernel, rfl⟩
set_option maxRecDepth 100000 in
theorem ii_mo_thereOf_91 : sm_D prog_9_method_101_code 91 3 94 (.iinc 3 1) := ⟨by decide +kernel, rfl⟩
set_option maxRecDepth 100000 in
theorem ii_mo_thereOf_94 : sm_D prog_9_method_101_code 94 3 97 (.goto (-90)) := ⟨by decide +kernel, rfl⟩
set_option maxRecDepth 100000 in
theorem ii_mo_thereOf_97 : sm_D prog_9_method_101_code 97 1 98 (.iload_n 2) := ⟨by decide +kernel, rfl⟩
set_option maxRecDepth 100000 in
theorem ii_mo_thereOf_98 : sm_D prog_9_method_101_code 98 1 99 (.ireturn) := ⟨by decide +kernel, rfl⟩
noncomputable def ff_mo_thereOf_89 (self4 : Int32 → Int32 → Int32 → sm_Mem → sm_R) (a1 : Int32) (a3 : Int32) (b0 : Int32) (b1 : Int32) (w : sm_Mem) : sm_R := self4 (a1) ((b0 + b1)) ((a3 + (1 : Int32))) w
set_option maxHeartbeats 4000000 in
set_option maxRecDepth 100000 in
theorem ss_mo_thereOf_89 {E : Nat × (Nat → Int32)} (self4 : Int32 → Int32 → Int32 → sm_Mem → sm_R) (hself4 : ∀ (a1 : Int32) (a2 : Int32) (a3 : Int32) (w : sm_Mem), sm_Sim E (mi_mo_thereOf) 4 [some (.ref 62), some (.int a1), some (.int a2), some (.int a3)] [] w (self4 a1 a2 a3 w)) (a1 : Int32) (a3 : Int32) (b0 : Int32) (b1 : Int32) (w : sm_Mem) : sm_Sim E (mi_mo_thereOf) 89 [some (.ref 62), some (.int a1), none, some (.int a3)] [.int b1, .int b0] w (ff_mo_thereOf_89 self4 a1 a3 b0 b1 w) := by
  unfold ff_mo_thereOf_89
  refine sm_iadd ii_mo_thereOf_89 ?_
  refine sm_istore_n [some (.ref 62), some (.int a1), some (.int (b0 + b1)), some (.int a3)] ii_mo_thereOf_90 rfl rfl ?_
  refine sm_iinc (a3 + (1 : Int32)) [some (.ref 62), some (.int a1), some (.int (b0 + b1)), some (.int (a3 + (1 : Int32)))] ii_mo_thereOf_91 rfl rfl rfl rfl ?_
  refine sm_goto 4 ii_mo_thereOf_94 (by decide) ?_
  exact hself4 (a1) ((b0 + b1)) ((a3 + (1 : Int32))) w
noncomputable def ff_mo_thereOf_88 (self4 : Int32 → Int32 → Int32 → sm_Mem → sm_R) (a1 : Int32) (a3 : Int32) (b0 : Int32) (w : sm_Mem) : sm_R := ff_mo_thereOf_89 self4 (a1) (a3) (b0) ((0 : Int32)) w
set_option maxHeartbeats 4000000 in
set_option maxRecDepth 100000 in
theorem ss_mo_thereOf_88 {E : Nat × (Nat → Int32)} (self4 : Int32 → Int32 → Int32 → sm_Mem → sm_R) (hself4 : ∀ (a1 : Int32) (a2 : Int32) (a3 : Int32) (w : sm_Mem), sm_Sim E (mi_mo_thereOf) 4 [some (.ref 62), some (.int a1), some (.int a2), some (.int a3)] [] w (self4 a1 a2 a3 w)) (a1 : Int32) (a3 : Int32) (b0 : Int32) (w : sm_Mem) : sm_Sim E (mi_mo_thereOf) 88 [some (.ref 62), some (.int a1), none, some (.int a3)] [.int b0] w (ff_mo_thereOf_88 self4 a1 a3 b0 w) := by
  unfold ff_mo_thereOf_88
  refine sm_iconst (0 : Int32) ii_mo_thereOf_88 (by decide) ?_
  exact ss_mo_thereOf_89 self4 hself4 (a1) (a3) (b0) ((0 : Int32)) w
noncomputable def ff_mo_thereOf_58 (self4 : Int32 → Int32 → Int32 → sm_Mem → sm_R) (a1 : Int32) (a3 : Int32) (b0 : Int32) (w : sm_Mem) : sm_R := ff_mo_thereOf_89 self4 (a1) (a3) (b0) ((0 : Int32)) w
set_option maxHeartbeats 4000000 in
set_option maxRecDepth 100000 in
theorem ss_mo_thereOf_58 {E : Nat × (Nat → Int32)} (self4 : Int32 → Int32 → Int32 → sm_Mem → sm_R) (hself4 : ∀ (a1 : Int32) (a2 : Int32) (a3 : Int32) (w : sm_Mem), sm_Sim E (mi_mo_thereOf) 4 [some (.ref 62), some (.int a1), some (.int a2), some (.int a3)] [] w (self4 a1 a2 a3 w)) (a1 : Int32) (a3 : Int32) (b0 : Int32) (w : sm_Mem) : sm_Sim E (mi_mo_thereOf) 58 [some (.ref 62), some (.int a1), none, some (.int a3)] [.int b0] w (ff_mo_thereOf_58 self4 a1 a3 b0 w) := by
  unfold ff_mo_thereOf_58
  refine sm_iconst (0 : Int32) ii_mo_thereOf_58 (by decide) ?_
  refine sm_goto 89 ii_mo_thereOf_59 (by decide) ?_
  exact ss_mo_thereOf_89 self4 hself4 (a1) (a3) (b0) ((0 : Int32)) w
noncomputable def ff_mo_thereOf_4_b  (self4 : Int32 → Int32 → Int32 → sm_Mem → sm_R) (a1 : Int32) (a2 : Int32) (a3 : Int32) (w : sm_Mem) : sm_R := (if (6 : Int32) ≤ a3 then (some (.int a2, w)) else (if a1 = (8 : Int32) then (Option.bind (sm_rd w 67 6 a3) fun x3 => (if (0 : Int32) ≤ x3 then ff_mo_thereOf_89 self4 (a1) (a3) (a2) ((1 : Int32)) w else ff_mo_thereOf_89 self4 (a1) (a3) (a2) ((0 : Int32)) w)) else (if a1 = (9 : Int32) then (if (4 : Int32) ≤ a3 then ff_mo_thereOf_58 self4 (a1) (a3) (a2) w else (Option.bind (sm_rd w 69 4 a3) fun x2 => (if x2 < (0 : Int32) then ff_mo_thereOf_58 self4 (a1) (a3) (a2) w else ff_mo_thereOf_89 self4 (a1) (a3) (a2) ((1 : Int32)) w))) else (if (3 : Int32) ≤ a3 then ff_mo_thereOf_88 self4 (a1) (a3) (a2) w else (Option.bind (sm_rd w 63 5184 (((1272 : Int32) * ((1 : Int32) + a3)) + (0 : Int32))) fun x1 => (if x1 < (0 : Int32) then ff_mo_thereOf_88 self4 (a1) (a3) (a2) w else ff_mo_thereOf_89 self4 (a1) (a3) (a2) ((1 : Int32)) w))))))
noncomputable def ff_mo_thereOf_4_f  : Nat → Int32 → Int32 → Int32 → sm_Mem → sm_R
  | 0, _, _, _, _ => none
  | n + 1, a1, a2, a3, w => ff_mo_thereOf_4_b  (ff_mo_thereOf_4_f  n) a1 a2 a3 w
noncomputable def ff_mo_thereOf_4  (a1 : Int32) (a2 : Int32) (a3 : Int32) (w : sm_Mem) : sm_R := ff_mo_thereOf_4_f  sm_N a1 a2 a3 w
set_option maxHeartbeats 4000000 in
set_option maxRecDepth 100000 in
theorem ss_mo_thereOf_4_b {E : Nat × (Nat → Int32)}  (self4 : Int32 → Int32 → Int32 → sm_Mem → sm_R) (hself4 : ∀ (a1 : Int32) (a2 : Int32) (a3 : Int32) (w : sm_Mem), sm_Sim E (mi_mo_thereOf) 4 [some (.ref 62), some (.int a1), some (.int a2), some (.int a3)] [] w (self4 a1 a2 a3 w)) (a1 : Int32) (a2 : Int32) (a3 : Int32) (w : sm_Mem) : sm_Sim E (mi_mo_thereOf) 4 [some (.ref 62), some (.int a1), some (.int a2), some (.int a3)] [] w (ff_mo_thereOf_4_b  self4 a1 a2 a3 w) := by
  unfold ff_mo_thereOf_4_b
  refine sm_iload_n ii_mo_thereOf_4 rfl ?_
  refine sm_bipush (6 : Int32) ii_mo_thereOf_5 (by decide) ?_
  refine sm_icmp_ge 97 ii_mo_thereOf_7 (by decide) ?_ ?_
  · refine sm_iload_n ii_mo_thereOf_97 rfl ?_
    exact sm_iret ii_mo_thereOf_98 rfl
  · refine sm_iload_n ii_mo_thereOf_10 rfl ?_
    refine sm_iload_n ii_mo_thereOf_11 rfl ?_
    refine sm_bipush (8 : Int32) ii_mo_thereOf_12 (by decide) ?_
    refine sm_icmp_ne 34 ii_mo_thereOf_14 (by decide) ?_ ?_
    · refine sm_aload_n ii_mo_thereOf_17 rfl ?_
      refine sm_getR 67 ii_mo_thereOf_18 fl_mo_22 (k := 62) rfl ?_
      refine sm_iload_n ii_mo_thereOf_21 rfl ?_
      refine sm_iald ii_mo_thereOf_22 (k := 67) rfl (fun x3 => ?_)
      refine sm_if_ge 30 ii_mo_thereOf_23 (by decide) ?_ ?_
      · refine sm_iconst (1 : Int32) ii_mo_thereOf_30 (by decide) ?_
        refine sm_goto 89 ii_mo_thereOf_31 (by decide) ?_
        refine sm_msk [true, true, false, true] [some (.ref 62), some (.int a1), none, some (.int a3)] rfl ?_
        exact ss_mo_thereOf_89 self4 hself4 (a1) (a3) (a2) ((1 : Int32)) w
      · refine sm_iconst (0 : Int32) ii_mo_thereOf_26 (by decide) ?_
        refine sm_goto 89 ii_mo_thereOf_27 (by decide) ?_
        refine sm_msk [true, true, false, true] [some (.ref 62), some (.int a1), none, some (.int a3)] rfl ?_
        exact ss_mo_thereOf_89 self4 hself4 (a1) (a3) (a2) ((0 : Int32)) w
    · refine sm_iload_n ii_mo_thereOf_34 rfl ?_
      refine sm_bipush (9 : Int32) ii_mo_thereOf_35 (by decide) ?_
      refine sm_icmp_ne 62 ii_mo_thereOf_37 (by decide) ?_ ?_
      · refine sm_iload_n ii_mo_thereOf_40 rfl ?_
        refine sm_iconst (4 : Int32) ii_mo_thereOf_41 (by decide) ?_
        refine sm_icmp_ge 58 ii_mo_thereOf_42 (by decide) ?_ ?_
        · refine sm_msk [true, true, false, true] [some (.ref 62), some (.int a1), none, some (.int a3)] rfl ?_
          exact ss_mo_thereOf_58 self4 hself4 (a1) (a3) (a2) w
        · refine sm_aload_n ii_mo_thereOf_45 rfl ?_
          refine sm_getR 69 ii_mo_thereOf_46 fl_mo_28 (k := 62) rfl ?_
          refine sm_iload_n ii_mo_thereOf_49 rfl ?_
          refine sm_iald ii_mo_thereOf_50 (k := 69) rfl (fun x2 => ?_)
          refine sm_if_lt 58 ii_mo_thereOf_51 (by decide) ?_ ?_
          · refine sm_msk [true, true, false, true] [some (.ref 62), some (.int a1), none, some (.int a3)] rfl ?_
            exact ss_mo_thereOf_58 self4 hself4 (a1) (a3) (a2) w
          · refine sm_iconst (1 : Int32) ii_mo_thereOf_54 (by decide) ?_
            refine sm_goto 89 ii_mo_thereOf_55 (by decide) ?_
            refine sm_msk [true, true, false, true] [some (.ref 62), some (.int a1), none, some (.int a3)] rfl ?_
            exact ss_mo_thereOf_89 self4 hself4 (a1) (a3) (a2) ((1 : Int32)) w
      · refine sm_iload_n ii_mo_thereOf_62 rfl ?_
        refine sm_iconst (3 : Int32) ii_mo_thereOf_63 (by decide) ?_
        refine sm_icmp_ge 88 ii_mo_thereOf_64 (by decide) ?_ ?_
        · refine sm_msk [true, true, false, true] [some (.ref 62), some (.int a1), none, some (.int a3)] rfl ?_
          exact ss_mo_thereOf_88 self4 hself4 (a1) (a3) (a2) w
        · refine sm_aload_n ii_mo_thereOf_67 rfl ?_
          refine sm_getR 63 ii_mo_thereOf_68 fl_mo_7 (k := 62) rfl ?_
          refine sm_sipush (1272 : Int32) ii_mo_thereOf_71 (by decide) ?_
          refine sm_iconst (1 : Int32) ii_mo_thereOf_74 (by decide) ?_
          refine sm_iload_n ii_mo_thereOf_75 rfl ?_
          refine sm_iadd ii_mo_thereOf_76 ?_
          refine sm_imul ii_mo_thereOf_77 ?_
          refine sm_iconst (0 : Int32) ii_mo_thereOf_78 (by decide) ?_
          refine sm_iadd ii_mo_thereOf_79 ?_
          refine sm_iald ii_mo_thereOf_80 (k := 63) rfl (fun x1 => ?_)
          refine sm_if_lt 88 ii_mo_thereOf_81 (by decide) ?_ ?_
          · refine sm_msk [true, true, false, true] [some (.ref 62), some (.int a1), none, some (.int a3)] rfl ?_
            exact ss_mo_thereOf_88 self4 hself4 (a1) (a3) (a2) w
          · refine sm_iconst (1 : Int32) ii_mo_thereOf_84 (by decide) ?_
            refine sm_goto 89 ii_mo_thereOf_85 (by decide) ?_
            refine sm_msk [true, true, false, true] [some (.ref 62), some (.int a1), none, some (.int a3)] rfl ?_
            exact ss_mo_thereOf_89 self4 hself4 (a1) (a3) (a2) ((1 : Int32)) w
set_option maxHeartbeats 4000000 in
set_option maxRecDepth 100000 in
theorem ss_mo_thereOf_4_f {E : Nat × (Nat → Int32)}  : ∀ (n : Nat) (a1 : Int32) (a2 : Int32) (a3 : Int32) (w : sm_Mem), sm_Sim E (mi_mo_thereOf) 4 [some (.ref 62), some (.int a1), some (.int a2), some (.int a3)] [] w (ff_mo_thereOf_4_f  n a1 a2 a3 w)
  | 0, _, _, _, _ => fun _ _ h => by cases h
  | n + 1, a1, a2, a3, w => ss_mo_thereOf_4_b  _ (ss_mo_thereOf_4_f  n) a1 a2 a3 w
set_option maxHeartbeats 4000000 in
set_option maxRecDepth 100000 in
theorem ss_mo_thereOf_4 {E : Nat × (Nat → Int32)}  (a1 : Int32) (a2 : Int32) (a3 : Int32) (w : sm_Mem) : sm_Sim E (mi_mo_thereOf) 4 [some (.ref 62), some (.int a1), some (.int a2), some (.int a3)] [] w (ff_mo_thereOf_4  a1 a2 a3 w) := ss_mo_thereOf_4_f  sm_N a1 a2 a3 w
noncomputable def ff_mo_thereOf  (a1 : Int32) (w : sm_Mem) : sm_R := ff_mo_thereOf_4 (a1) ((0 : Int32)) ((0 : Int32)) w
set_option maxHeartbeats 4000000 in
set_option maxRecDepth 100000 in
theorem ss_mo_thereOf_0 {E : Nat × (Nat → Int32)}  (a1 : Int32) (w : sm_Mem) : sm_Sim E (mi_mo_thereOf) 0 [some (.ref 62), some (.int a1), none, none] [] w (ff_mo_thereOf  a1 w) := by
  unfold ff_mo_thereOf
  refine sm_iconst (0 : Int32) ii_mo_thereOf_0 (by decide) ?_
  refine sm_istore_n [some (.ref 62), some (.int a1), some (.int (0 : Int32)), none] ii_mo_thereOf_1 rfl rfl ?_
  refine sm_iconst (0 : Int32) ii_mo_thereOf_2 (by decide) ?_
  refine sm_istore_n [some (.ref 62), some (.int a1), some (.int (0 : Int32)), some (.int (0 : Int32))] ii_mo_thereOf_3 rfl rfl ?_
  exact ss_mo_thereOf_4 (a1) ((0 : Int32)) ((0 : Int32)) w
set_option maxHeartbeats 4000000 in
set_option maxRecDepth 100000 in
theorem mc_mo_thereOf (a1 : Int32) (w : sm_Mem) : sm_MC mi_mo_thereOf [.ref 62, .int a1] w (ff_mo_thereOf a1 w) := sm_MC_of (0, fun _ => 0) (by decide +kernel) (by decide) rfl (Nat.le_of_ble_eq_true rfl) (ss_mo_thereOf_0 a1 w)
abbrev mi_mo_countOf : sm_MI := (⟨"HerOrdersModel", "countOf", "(I)I"⟩, prog_9_method_102_code, 2, (some .int), 6)
set_option maxRecDepth 100000 in
theorem mf_mo_countOf : sm_MF mi_mo_countOf 1 := ⟨List.mem_of_getElem? (i := 1427) (by decide +kernel), List.mem_of_getElem? (i := 132) (by decide +kernel), ⟨by decide, by decide⟩, by decide +kernel⟩
set_option maxRecDepth 100000 in
theorem mv_mo_countOf : sm_MFV mi_mo_countOf := ⟨List.mem_of_getElem? (i := 1426) (by decide +kernel), List.mem_of_getElem? (i := 119) (by decide +kernel)⟩
set_option maxRecDepth 100000 in
theorem ii_mo_countOf_0 : sm_D prog_9_method_102_code 0 1 1 (.iload_n 1) := ⟨by decide +kernel, rfl⟩
set_option maxRecDepth 100000 in
theorem ii_mo_countOf_1 : sm_D prog_9_method_102_code 1 47 48 (.tableswitch 91 0 7 #[47, 52, 59, 66, 73, 80, 86, 80]) := ⟨by decide +kernel, rfl⟩
set_option maxRecDepth 100000 in
theorem ii_mo_countOf_48 : sm_D prog_9_method_102_code 48 1 49 (.aload_n 0) := ⟨by decide +kernel, rfl⟩
set_option maxRecDepth 100000 in
theorem ii_mo_countOf_49 : sm_D prog_9_method_102_code 49 3 52 (.getfield 135) := ⟨by decide +kernel, rfl⟩
set_option maxRecDepth 100000 in
theorem ii_mo_countOf_52 : sm_D prog_9_method_102_code 52 1 53 (.ireturn) := ⟨by decide +kernel, rfl⟩
set_option maxRecDepth 100000 in
theorem ii_mo_countOf_53 : sm_D prog_9_method_102_code 53 1 54 (.aload_n 0) := ⟨by decide +kernel, rfl⟩
set_option maxRecDepth 100000 in
theorem ii_mo_countOf_54 : sm_D prog_9_method_102_code 54 3 57 (.getfield 7) := ⟨by decide +kernel, rfl⟩
set_option maxRecDepth 100000 in
theorem ii_mo_countOf_57 : sm_D prog_9_method_102_code 57 1 58 (.iconst 1) := ⟨by decide +kernel, rfl⟩
set_option maxRecDepth 100000 in
theorem ii_mo_countOf_58 : sm_D prog_9_method_102_code 58 1 59 (.iaload) := ⟨by decide +kernel, rfl⟩
set_option maxRecDepth 100000 in
theorem ii_mo_countOf_59 : sm_D prog_9_method_102_code 59 1 60 (.ireturn) := ⟨by decide +kernel, rfl⟩
set_option maxRecDepth 100000 in
theorem ii_mo_countOf_60 : sm_D prog_9_method_102_code 60 1 61 (.aload_n 0) := ⟨by decide +kernel, rfl⟩
set_option maxRecDepth 100000 in
theorem ii_mo_countOf_61 : sm_D prog_9_method_102_code 61 3 64 (.getfield 7) := ⟨by decide +kernel, rfl⟩
set_option maxRecDepth 100000 in
theorem ii_mo_countOf_64 : sm_D prog_9_method_102_code 64 1 65 (.iconst 0) := ⟨by decide +kernel, rfl⟩
set_option maxRecDepth 100000 in
theorem ii_mo_countOf_65 : sm_D prog_9_method_102_code 65 1 66 (.iaload) := ⟨by decide +kernel, rfl⟩
set_option maxRecDepth 100000 in
theorem ii_mo_countOf_66 : sm_D prog_9_method_102_code 66 1 67 (.ireturn) := ⟨by decide +kernel, rfl⟩
set_option maxRecDepth 100000 in
theorem ii_mo_countOf_67 : sm_D prog_9_method_102_code 67 1 68 (.aload_n 0) := ⟨by decide +kernel, rfl⟩
set_option maxRecDepth 100000 in
theorem ii_mo_countOf_68 : sm_D prog_9_method_102_code 68 3 71 (.getfield 7) := ⟨by decide +kernel, rfl⟩
set_option maxRecDepth 100000 in
theorem ii_mo_countOf_71 : sm_D prog_9_method_102_code 71 1 72 (.iconst 2) := ⟨by decide +kernel, rfl⟩
set_option maxRecDepth 100000 in
theorem ii_mo_countOf_72 : sm_D prog_9_method_102_code 72 1 73 (.iaload) := ⟨by decide +kernel, rfl⟩
set_option maxRecDepth 100000 in
theorem ii_mo_countOf_73 : sm_D prog_9_method_102_code 73 1 74 (.ireturn) := ⟨by decide +kernel, rfl⟩
set_option maxRecDepth 100000 in
theorem ii_mo_countOf_74 : sm_D prog_9_method_102_code 74 1 75 (.aload_n 0) := ⟨by decide +kernel, rfl⟩
set_option maxRecDepth 100000 in
theorem ii_mo_countOf_75 : sm_D prog_9_method_102_code 75 3 78 (.getfield 7) := ⟨by decide +kernel, rfl⟩
set_option maxRecDepth 100000 in
theorem ii_mo_countOf_78 : sm_D prog_9_method_102_code 78 1 79 (.iconst 3) := ⟨by decide +kernel, rfl⟩
set_option maxRecDepth 100000 in
theorem ii_mo_countOf_79 : sm_D prog_9_method_102_code 79 1 80 (.iaload) := ⟨by decide +kernel, rfl⟩
set_option maxRecDepth 100000 in
theorem ii_mo_countOf_80 : sm_D prog_9_method_102_code 80 1 81 (.ireturn) := ⟨by decide +kernel, rfl⟩
set_option maxRecDepth 100000 in
theorem ii_mo_countOf_81 : sm_D prog_9_method_102_code 81 1 82 (.aload_n 0) := ⟨by decide +kernel, rfl⟩
set_option maxRecDepth 100000 in
theorem ii_mo_countOf_82 : sm_D prog_9_method_102_code 82 1 83 (.iload_n 1) := ⟨by decide +kernel, rfl⟩
set_option maxRecDepth 100000 in
theorem ii_mo_countOf_83 : sm_D prog_9_method_102_code 83 3 86 (.invokevirtual 311) := ⟨by decide +kernel, rfl⟩
set_option maxRecDepth 100000 in
theorem ii_mo_countOf_86 : sm_D prog_9_method_102_code 86 1 87 (.ireturn) := ⟨by decide +kernel, rfl⟩
set_option maxRecDepth 100000 in
theorem ii_mo_countOf_87 : sm_D prog_9_method_102_code 87 1 88 (.aload_n 0) := ⟨by decide +kernel, rfl⟩
set_option maxRecDepth 100000 in
theorem ii_mo_countOf_88 : sm_D prog_9_method_102_code 88 3 91 (.invokevirtual 314) := ⟨by decide +kernel, rfl⟩
set_option maxRecDepth 100000 in
theorem ii_mo_countOf_91 : sm_D prog_9_method_102_code 91 1 92 (.ireturn) := ⟨by decide +kernel, rfl⟩
set_option maxRecDepth 100000 in
theorem ii_mo_countOf_92 : sm_D prog_9_method_102_code 92 1 93 (.aload_n 0) := ⟨by decide +kernel, rfl⟩
set_option maxRecDepth 100000 in
theorem ii_mo_countOf_93 : sm_D prog_9_method_102_code 93 1 94 (.iload_n 1) := ⟨by decide +kernel, rfl⟩
set_option maxRecDepth 100000 in
theorem ii_mo_countOf_94 : sm_D prog_9_method_102_code 94 3 97 (.invokevirtual 317) := ⟨by decide +kernel, rfl⟩
set_option maxRecDepth 100000 in
theorem ii_mo_countOf_97 : sm_D prog_9_method_102_code 97 1 98 (.ireturn) := ⟨by decide +kernel, rfl⟩
noncomputable def ff_mo_countOf_81  (a1 : Int32) (w : sm_Mem) : sm_R := (sm_cI (ff_mo_sumOf (a1) w) fun x1 w2 => (some (.int x1, w2)))
set_option maxHeartbeats 4000000 in
set_option maxRecDepth 100000 in
theorem ss_mo_countOf_81 {E : Nat × (Nat → Int32)}  (a1 : Int32) (w : sm_Mem) : sm_Sim E (mi_mo_countOf) 81 [some (.ref 62), some (.int a1)] [] w (ff_mo_countOf_81  a1 w) := by
  unfold ff_mo_countOf_81
  refine sm_aload_n ii_mo_countOf_81 rfl ?_
  refine sm_iload_n ii_mo_countOf_82 rfl ?_
  refine sm_cvI [.int a1] [] rfl ii_mo_countOf_83 ml_mo_311 (mf_mo_sumOf) (mv_mo_sumOf) (Nat.le_of_ble_eq_true rfl) rfl 7 rfl rfl rfl rfl (mc_mo_sumOf (a1) w) (fun x1 w2 => ?_)
  exact sm_iret ii_mo_countOf_86 rfl
noncomputable def ff_mo_countOf  (a1 : Int32) (w : sm_Mem) : sm_R := (sm_sw a1 (0) [((some (.int (w.1 62 1), w))), ((Option.bind (sm_rd w 63 5184 (1 : Int32)) fun x3 => (some (.int x3, w)))), ((Option.bind (sm_rd w 63 5184 (0 : Int32)) fun x4 => (some (.int x4, w)))), ((Option.bind (sm_rd w 63 5184 (2 : Int32)) fun x5 => (some (.int x5, w)))), ((Option.bind (sm_rd w 63 5184 (3 : Int32)) fun x6 => (some (.int x6, w)))), (ff_mo_countOf_81 (a1) w), ((sm_cI (ff_mo_wordsNext  w) fun x7 w8 => (some (.int x7, w8)))), (ff_mo_countOf_81 (a1) w)] ((sm_cI (ff_mo_thereOf (a1) w) fun x9 w10 => (some (.int x9, w10)))))
set_option maxHeartbeats 4000000 in
set_option maxRecDepth 100000 in
theorem ss_mo_countOf_0 {E : Nat × (Nat → Int32)}  (a1 : Int32) (w : sm_Mem) : sm_Sim E (mi_mo_countOf) 0 [some (.ref 62), some (.int a1)] [] w (ff_mo_countOf  a1 w) := by
  unfold ff_mo_countOf
  refine sm_iload_n ii_mo_countOf_0 rfl ?_
  refine sm_table [48, 53, 60, 67, 74, 81, 87, 81] 92 ii_mo_countOf_1 rfl rfl rfl ⟨?_, ?_, ?_, ?_, ?_, ?_, ?_, ?_, trivial⟩ ?_
  · refine sm_aload_n ii_mo_countOf_48 rfl ?_
    refine sm_getI ii_mo_countOf_49 fl_mo_135 (k := 62) rfl ?_
    exact sm_iret ii_mo_countOf_52 rfl
  · refine sm_aload_n ii_mo_countOf_53 rfl ?_
    refine sm_getR 63 ii_mo_countOf_54 fl_mo_7 (k := 62) rfl ?_
    refine sm_iconst (1 : Int32) ii_mo_countOf_57 (by decide) ?_
    refine sm_iald ii_mo_countOf_58 (k := 63) rfl (fun x3 => ?_)
    exact sm_iret ii_mo_countOf_59 rfl
  · refine sm_aload_n ii_mo_countOf_60 rfl ?_
    refine sm_getR 63 ii_mo_countOf_61 fl_mo_7 (k := 62) rfl ?_
    refine sm_iconst (0 : Int32) ii_mo_countOf_64 (by decide) ?_
    refine sm_iald ii_mo_countOf_65 (k := 63) rfl (fun x4 => ?_)
    exact sm_iret ii_mo_countOf_66 rfl
  · refine sm_aload_n ii_mo_countOf_67 rfl ?_
    refine sm_getR 63 ii_mo_countOf_68 fl_mo_7 (k := 62) rfl ?_
    refine sm_iconst (2 : Int32) ii_mo_countOf_71 (by decide) ?_
    refine sm_iald ii_mo_countOf_72 (k := 63) rfl (fun x5 => ?_)
    exact sm_iret ii_mo_countOf_73 rfl
  · refine sm_aload_n ii_mo_countOf_74 rfl ?_
    refine sm_getR 63 ii_mo_countOf_75 fl_mo_7 (k := 62) rfl ?_
    refine sm_iconst (3 : Int32) ii_mo_countOf_78 (by decide) ?_
    refine sm_iald ii_mo_countOf_79 (k := 63) rfl (fun x6 => ?_)
    exact sm_iret ii_mo_countOf_80 rfl
  · exact ss_mo_countOf_81 (a1) w
  · refine sm_aload_n ii_mo_countOf_87 rfl ?_
    refine sm_cvI [] [] rfl ii_mo_countOf_88 ml_mo_314 (mf_mo_wordsNext) (mv_mo_wordsNext) (Nat.le_of_ble_eq_true rfl) rfl 7 rfl rfl rfl rfl (mc_mo_wordsNext  w) (fun x7 w8 => ?_)
    exact sm_iret ii_mo_countOf_91 rfl
  · exact ss_mo_countOf_81 (a1) w
  · refine sm_aload_n ii_mo_countOf_92 rfl ?_
    refine sm_iload_n ii_mo_countOf_93 rfl ?_
    refine sm_cvI [.int a1] [] rfl ii_mo_countOf_94 ml_mo_317 (mf_mo_thereOf) (mv_mo_thereOf) (Nat.le_of_ble_eq_true rfl) rfl 7 rfl rfl rfl rfl (mc_mo_thereOf (a1) w) (fun x9 w10 => ?_)
    exact sm_iret ii_mo_countOf_97 rfl
set_option maxHeartbeats 4000000 in
set_option maxRecDepth 100000 in
theorem mc_mo_countOf (a1 : Int32) (w : sm_Mem) : sm_MC mi_mo_countOf [.ref 62, .int a1] w (ff_mo_countOf a1 w) := sm_MC_of (0, fun _ => 0) (by decide +kernel) (by decide) rfl (Nat.le_of_ble_eq_true rfl) (ss_mo_countOf_0 a1 w)
abbrev mi_mo_count : sm_MI := (⟨"HerOrdersModel", "count", "(I)I"⟩, prog_9_method_103_code, 2, (some .int), 7)
set_option maxRecDepth 100000 in
theorem mf_mo_count : sm_MF mi_mo_count 1 := ⟨List.mem_of_getElem? (i := 1422) (by decide +kernel), List.mem_of_getElem? (i := 132) (by decide +kernel), ⟨by decide, by decide⟩, by decide +kernel⟩
set_option maxRecDepth 100000 in
theorem mv_mo_count : sm_MFV mi_mo_count := ⟨List.mem_of_getElem? (i := 1420) (by decide +kernel), List.mem_of_getElem? (i := 1421) (by decide +kernel)⟩
set_option maxRecDepth 100000 in
theorem ii_mo_count_0 : sm_D prog_9_method_103_code 0 1 1 (.iload_n 1) := ⟨by decide +kernel, rfl⟩
set_option maxRecDepth 100000 in
theorem ii_mo_count_1 : sm_D prog_9_method_103_code 1 1 2 (.i2l) := ⟨by decide +kernel, rfl⟩
set_option maxRecDepth 100000 in
theorem ii_mo_count_2 : sm_D prog_9_method_103_code 2 1 3 (.lconst 0) := ⟨by decide +kernel, rfl⟩
set_option maxRecDepth 100000 in
theorem ii_mo_count_3 : sm_D prog_9_method_103_code 3 3 6 (.ldc2_w 320) := ⟨by decide +kernel, rfl⟩
set_option maxRecDepth 100000 in
theorem ii_mo_count_6 : sm_D prog_9_method_103_code 6 3 9 (.invokestatic 71) := ⟨by decide +kernel, rfl⟩
set_option maxRecDepth 100000 in
theorem ii_mo_count_9 : sm_D prog_9_method_103_code 9 3 12 (.ifCond .eq 11) := ⟨by decide +kernel, rfl⟩
set_option maxRecDepth 100000 in
theorem ii_mo_count_12 : sm_D prog_9_method_103_code 12 1 13 (.aload_n 0) := ⟨by decide +kernel, rfl⟩
set_option maxRecDepth 100000 in
theorem ii_mo_count_13 : sm_D prog_9_method_103_code 13 1 14 (.iload_n 1) := ⟨by decide +kernel, rfl⟩
set_option maxRecDepth 100000 in
theorem ii_mo_count_14 : sm_D prog_9_method_103_code 14 3 17 (.invokevirtual 322) := ⟨by decide +kernel, rfl⟩
set_option maxRecDepth 100000 in
theorem ii_mo_count_17 : sm_D prog_9_method_103_code 17 3 20 (.goto 4) := ⟨by decide +kernel, rfl⟩
set_option maxRecDepth 100000 in
theorem ii_mo_count_20 : sm_D prog_9_method_103_code 20 1 21 (.iconst (-1)) := ⟨by decide +kernel, rfl⟩
set_option maxRecDepth 100000 in
theorem ii_mo_count_21 : sm_D prog_9_method_103_code 21 1 22 (.ireturn) := ⟨by decide +kernel, rfl⟩
noncomputable def ff_mo_count  (a1 : Int32) (w : sm_Mem) : sm_R := (sm_cI (ff_mo_in ((Int32.toInt64 a1)) ((0 : Int64)) ((10 : Int64)) w) fun x1 w2 => (if x1 = (0 : Int32) then (some (.int (-1 : Int32), w2)) else (sm_cI (ff_mo_countOf (a1) w2) fun x3 w4 => (some (.int x3, w4)))))
set_option maxHeartbeats 4000000 in
set_option maxRecDepth 100000 in
theorem ss_mo_count_0 {E : Nat × (Nat → Int32)}  (a1 : Int32) (w : sm_Mem) : sm_Sim E (mi_mo_count) 0 [some (.ref 62), some (.int a1)] [] w (ff_mo_count  a1 w) := by
  unfold ff_mo_count
  refine sm_iload_n ii_mo_count_0 rfl ?_
  refine sm_i2l ii_mo_count_1 ?_
  refine sm_lconst (0 : Int64) ii_mo_count_2 (by decide) ?_
  refine sm_ldc2 (10 : Int64) ii_mo_count_3 (List.mem_of_getElem? (i := 1423) (by decide +kernel)) ?_
  refine sm_csI [.long (Int32.toInt64 a1), .long (0 : Int64), .long (10 : Int64)] [] rfl ii_mo_count_6 ml_mo_71 (mf_mo_in) (mv_mo_in) (Nat.le_of_ble_eq_true rfl) rfl rfl rfl (mc_mo_in ((Int32.toInt64 a1)) ((0 : Int64)) ((10 : Int64)) w) (fun x1 w2 => ?_)
  refine sm_if_eq 20 ii_mo_count_9 (by decide) ?_ ?_
  · refine sm_iconst (-1 : Int32) ii_mo_count_20 (by decide) ?_
    exact sm_iret ii_mo_count_21 rfl
  · refine sm_aload_n ii_mo_count_12 rfl ?_
    refine sm_iload_n ii_mo_count_13 rfl ?_
    refine sm_cvI [.int a1] [] rfl ii_mo_count_14 ml_mo_322 (mf_mo_countOf) (mv_mo_countOf) (Nat.le_of_ble_eq_true rfl) rfl 7 rfl rfl rfl rfl (mc_mo_countOf (a1) w2) (fun x3 w4 => ?_)
    refine sm_goto 21 ii_mo_count_17 (by decide) ?_
    exact sm_iret ii_mo_count_21 rfl
set_option maxHeartbeats 4000000 in
set_option maxRecDepth 100000 in
theorem mc_mo_count (a1 : Int32) (w : sm_Mem) : sm_MC mi_mo_count [.ref 62, .int a1] w (ff_mo_count a1 w) := sm_MC_of (0, fun _ => 0) (by decide +kernel) (by decide) rfl (Nat.le_of_ble_eq_true rfl) (ss_mo_count_0 a1 w)
abbrev mi_ho_finding : sm_MI := (⟨"HerOrders", "finding", "()I"⟩, prog_1_method_43_code, 1, (some .int), 1)
set_option maxRecDepth 100000 in
theorem mf_ho_finding : sm_MF mi_ho_finding 0 := ⟨List.mem_of_getElem? (i := 913) (by decide +kernel), List.mem_of_getElem? (i := 124) (by decide +kernel), ⟨by decide, by decide⟩, by decide +kernel⟩
set_option maxRecDepth 100000 in
theorem mv_ho_finding : sm_MFV mi_ho_finding := ⟨List.mem_of_getElem? (i := 911) (by decide +kernel), List.mem_of_getElem? (i := 912) (by decide +kernel)⟩
set_option maxRecDepth 100000 in
theorem ii_ho_finding_0 : sm_D prog_1_method_43_code 0 1 1 (.aload_n 0) := ⟨by decide +kernel, rfl⟩
set_option maxRecDepth 100000 in
theorem ii_ho_finding_1 : sm_D prog_1_method_43_code 1 3 4 (.getfield 54) := ⟨by decide +kernel, rfl⟩
set_option maxRecDepth 100000 in
theorem ii_ho_finding_4 : sm_D prog_1_method_43_code 4 3 7 (.getfield 310) := ⟨by decide +kernel, rfl⟩
set_option maxRecDepth 100000 in
theorem ii_ho_finding_7 : sm_D prog_1_method_43_code 7 1 8 (.ireturn) := ⟨by decide +kernel, rfl⟩
noncomputable def ff_ho_finding   (w : sm_Mem) : sm_R := (some (.int (w.1 60 3), w))
set_option maxHeartbeats 4000000 in
set_option maxRecDepth 100000 in
theorem ss_ho_finding_0 {E : Nat × (Nat → Int32)}   (w : sm_Mem) : sm_Sim E (mi_ho_finding) 0 [some (.ref 0)] [] w (ff_ho_finding   w) := by
  unfold ff_ho_finding
  refine sm_aload_n ii_ho_finding_0 rfl ?_
  refine sm_getR 60 ii_ho_finding_1 fl_ho_54 (k := 0) rfl ?_
  refine sm_getI ii_ho_finding_4 fl_ho_310 (k := 60) rfl ?_
  exact sm_iret ii_ho_finding_7 rfl
set_option maxHeartbeats 4000000 in
set_option maxRecDepth 100000 in
theorem mc_ho_finding  (w : sm_Mem) : sm_MC mi_ho_finding [.ref 0] w (ff_ho_finding  w) := sm_MC_of (0, fun _ => 0) (by decide +kernel) (by decide) rfl (Nat.le_of_ble_eq_true rfl) (ss_ho_finding_0  w)
abbrev mi_mo_finding : sm_MI := (⟨"HerOrdersModel", "finding", "()I"⟩, prog_9_method_104_code, 1, (some .int), 1)
set_option maxRecDepth 100000 in
theorem mf_mo_finding : sm_MF mi_mo_finding 0 := ⟨List.mem_of_getElem? (i := 1446) (by decide +kernel), List.mem_of_getElem? (i := 132) (by decide +kernel), ⟨by decide, by decide⟩, by decide +kernel⟩
set_option maxRecDepth 100000 in
theorem mv_mo_finding : sm_MFV mi_mo_finding := ⟨List.mem_of_getElem? (i := 1444) (by decide +kernel), List.mem_of_getElem? (i := 1445) (by decide +kernel)⟩
set_option maxRecDepth 100000 in
theorem ii_mo_finding_0 : sm_D prog_9_method_104_code 0 1 1 (.aload_n 0) := ⟨by decide +kernel, rfl⟩
set_option maxRecDepth 100000 in
theorem ii_mo_finding_1 : sm_D prog_9_method_104_code 1 3 4 (.getfield 62) := ⟨by decide +kernel, rfl⟩
set_option maxRecDepth 100000 in
theorem ii_mo_finding_4 : sm_D prog_9_method_104_code 4 1 5 (.ireturn) := ⟨by decide +kernel, rfl⟩
noncomputable def ff_mo_finding   (w : sm_Mem) : sm_R := (some (.int (w.1 62 12), w))
set_option maxHeartbeats 4000000 in
set_option maxRecDepth 100000 in
theorem ss_mo_finding_0 {E : Nat × (Nat → Int32)}   (w : sm_Mem) : sm_Sim E (mi_mo_finding) 0 [some (.ref 62)] [] w (ff_mo_finding   w) := by
  unfold ff_mo_finding
  refine sm_aload_n ii_mo_finding_0 rfl ?_
  refine sm_getI ii_mo_finding_1 fl_mo_62 (k := 62) rfl ?_
  exact sm_iret ii_mo_finding_4 rfl
set_option maxHeartbeats 4000000 in
set_option maxRecDepth 100000 in
theorem mc_mo_finding  (w : sm_Mem) : sm_MC mi_mo_finding [.ref 62] w (ff_mo_finding  w) := sm_MC_of (0, fun _ => 0) (by decide +kernel) (by decide) rfl (Nat.le_of_ble_eq_true rfl) (ss_mo_finding_0  w)
abbrev mi_ho_findings : sm_MI := (⟨"HerOrders", "findings", "(I)I"⟩, prog_1_method_44_code, 2, (some .int), 1)
set_option maxRecDepth 100000 in
theorem mf_ho_findings : sm_MF mi_ho_findings 1 := ⟨List.mem_of_getElem? (i := 917) (by decide +kernel), List.mem_of_getElem? (i := 124) (by decide +kernel), ⟨by decide, by decide⟩, by decide +kernel⟩
set_option maxRecDepth 100000 in
theorem mv_ho_findings : sm_MFV mi_ho_findings := ⟨List.mem_of_getElem? (i := 915) (by decide +kernel), List.mem_of_getElem? (i := 916) (by decide +kernel)⟩
set_option maxRecDepth 100000 in
theorem ii_ho_findings_0 : sm_D prog_1_method_44_code 0 1 1 (.iload_n 1) := ⟨by decide +kernel, rfl⟩
set_option maxRecDepth 100000 in
theorem ii_ho_findings_1 : sm_D prog_1_method_44_code 1 1 2 (.iconst 1) := ⟨by decide +kernel, rfl⟩
set_option maxRecDepth 100000 in
theorem ii_ho_findings_2 : sm_D prog_1_method_44_code 2 3 5 (.if_icmp .lt 20) := ⟨by decide +kernel, rfl⟩
set_option maxRecDepth 100000 in
theorem ii_ho_findings_5 : sm_D prog_1_method_44_code 5 1 6 (.iload_n 1) := ⟨by decide +kernel, rfl⟩
set_option maxRecDepth 100000 in
theorem ii_ho_findings_6 : sm_D prog_1_method_44_code 6 1 7 (.iconst 5) := ⟨by decide +kernel, rfl⟩
set_option maxRecDepth 100000 in
theorem ii_ho_findings_7 : sm_D prog_1_method_44_code 7 3 10 (.if_icmp .gt 15) := ⟨by decide +kernel, rfl⟩
set_option maxRecDepth 100000 in
theorem ii_ho_findings_10 : sm_D prog_1_method_44_code 10 1 11 (.aload_n 0) := ⟨by decide +kernel, rfl⟩
set_option maxRecDepth 100000 in
theorem ii_ho_findings_11 : sm_D prog_1_method_44_code 11 3 14 (.getfield 54) := ⟨by decide +kernel, rfl⟩
set_option maxRecDepth 100000 in
theorem ii_ho_findings_14 : sm_D prog_1_method_44_code 14 3 17 (.getfield 313) := ⟨by decide +kernel, rfl⟩
set_option maxRecDepth 100000 in
theorem ii_ho_findings_17 : sm_D prog_1_method_44_code 17 1 18 (.iload_n 1) := ⟨by decide +kernel, rfl⟩
set_option maxRecDepth 100000 in
theorem ii_ho_findings_18 : sm_D prog_1_method_44_code 18 1 19 (.iaload) := ⟨by decide +kernel, rfl⟩
set_option maxRecDepth 100000 in
theorem ii_ho_findings_19 : sm_D prog_1_method_44_code 19 3 22 (.goto 4) := ⟨by decide +kernel, rfl⟩
set_option maxRecDepth 100000 in
theorem ii_ho_findings_22 : sm_D prog_1_method_44_code 22 1 23 (.iconst (-1)) := ⟨by decide +kernel, rfl⟩
set_option maxRecDepth 100000 in
theorem ii_ho_findings_23 : sm_D prog_1_method_44_code 23 1 24 (.ireturn) := ⟨by decide +kernel, rfl⟩
noncomputable def ff_ho_findings  (a1 : Int32) (w : sm_Mem) : sm_R := (if a1 < (1 : Int32) then (some (.int (-1 : Int32), w)) else (if (5 : Int32) < a1 then (some (.int (-1 : Int32), w)) else (Option.bind (sm_rd w 61 6 a1) fun x1 => (some (.int x1, w)))))
set_option maxHeartbeats 4000000 in
set_option maxRecDepth 100000 in
theorem ss_ho_findings_0 {E : Nat × (Nat → Int32)}  (a1 : Int32) (w : sm_Mem) : sm_Sim E (mi_ho_findings) 0 [some (.ref 0), some (.int a1)] [] w (ff_ho_findings  a1 w) := by
  unfold ff_ho_findings
  refine sm_iload_n ii_ho_findings_0 rfl ?_
  refine sm_iconst (1 : Int32) ii_ho_findings_1 (by decide) ?_
  refine sm_icmp_lt 22 ii_ho_findings_2 (by decide) ?_ ?_
  · refine sm_iconst (-1 : Int32) ii_ho_findings_22 (by decide) ?_
    exact sm_iret ii_ho_findings_23 rfl
  · refine sm_iload_n ii_ho_findings_5 rfl ?_
    refine sm_iconst (5 : Int32) ii_ho_findings_6 (by decide) ?_
    refine sm_icmp_gt 22 ii_ho_findings_7 (by decide) ?_ ?_
    · refine sm_iconst (-1 : Int32) ii_ho_findings_22 (by decide) ?_
      exact sm_iret ii_ho_findings_23 rfl
    · refine sm_aload_n ii_ho_findings_10 rfl ?_
      refine sm_getR 60 ii_ho_findings_11 fl_ho_54 (k := 0) rfl ?_
      refine sm_getR 61 ii_ho_findings_14 fl_ho_313 (k := 60) rfl ?_
      refine sm_iload_n ii_ho_findings_17 rfl ?_
      refine sm_iald ii_ho_findings_18 (k := 61) rfl (fun x1 => ?_)
      refine sm_goto 23 ii_ho_findings_19 (by decide) ?_
      exact sm_iret ii_ho_findings_23 rfl
set_option maxHeartbeats 4000000 in
set_option maxRecDepth 100000 in
theorem mc_ho_findings (a1 : Int32) (w : sm_Mem) : sm_MC mi_ho_findings [.ref 0, .int a1] w (ff_ho_findings a1 w) := sm_MC_of (0, fun _ => 0) (by decide +kernel) (by decide) rfl (Nat.le_of_ble_eq_true rfl) (ss_ho_findings_0 a1 w)
abbrev mi_mo_findings : sm_MI := (⟨"HerOrdersModel", "findings", "(I)I"⟩, prog_9_method_105_code, 2, (some .int), 2)
set_option maxRecDepth 100000 in
theorem mf_mo_findings : sm_MF mi_mo_findings 1 := ⟨List.mem_of_getElem? (i := 1450) (by decide +kernel), List.mem_of_getElem? (i := 132) (by decide +kernel), ⟨by decide, by decide⟩, by decide +kernel⟩
set_option maxRecDepth 100000 in
theorem mv_mo_findings : sm_MFV mi_mo_findings := ⟨List.mem_of_getElem? (i := 1448) (by decide +kernel), List.mem_of_getElem? (i := 1449) (by decide +kernel)⟩
set_option maxRecDepth 100000 in
theorem ii_mo_findings_0 : sm_D prog_9_method_105_code 0 1 1 (.iload_n 1) := ⟨by decide +kernel, rfl⟩
set_option maxRecDepth 100000 in
theorem ii_mo_findings_1 : sm_D prog_9_method_105_code 1 1 2 (.i2l) := ⟨by decide +kernel, rfl⟩
set_option maxRecDepth 100000 in
theorem ii_mo_findings_2 : sm_D prog_9_method_105_code 2 1 3 (.lconst 1) := ⟨by decide +kernel, rfl⟩
set_option maxRecDepth 100000 in
theorem ii_mo_findings_3 : sm_D prog_9_method_105_code 3 3 6 (.ldc2_w 69) := ⟨by decide +kernel, rfl⟩
set_option maxRecDepth 100000 in
theorem ii_mo_findings_6 : sm_D prog_9_method_105_code 6 3 9 (.invokestatic 71) := ⟨by decide +kernel, rfl⟩
set_option maxRecDepth 100000 in
theorem ii_mo_findings_9 : sm_D prog_9_method_105_code 9 3 12 (.ifCond .eq 12) := ⟨by decide +kernel, rfl⟩
set_option maxRecDepth 100000 in
theorem ii_mo_findings_12 : sm_D prog_9_method_105_code 12 1 13 (.aload_n 0) := ⟨by decide +kernel, rfl⟩
set_option maxRecDepth 100000 in
theorem ii_mo_findings_13 : sm_D prog_9_method_105_code 13 3 16 (.getfield 38) := ⟨by decide +kernel, rfl⟩
set_option maxRecDepth 100000 in
theorem ii_mo_findings_16 : sm_D prog_9_method_105_code 16 1 17 (.iload_n 1) := ⟨by decide +kernel, rfl⟩
set_option maxRecDepth 100000 in
theorem ii_mo_findings_17 : sm_D prog_9_method_105_code 17 1 18 (.iaload) := ⟨by decide +kernel, rfl⟩
set_option maxRecDepth 100000 in
theorem ii_mo_findings_18 : sm_D prog_9_method_105_code 18 3 21 (.goto 4) := ⟨by decide +kernel, rfl⟩
set_option maxRecDepth 100000 in
theorem ii_mo_findings_21 : sm_D prog_9_method_105_code 21 1 22 (.iconst (-1)) := ⟨by decide +kernel, rfl⟩
set_option maxRecDepth 100000 in
theorem ii_mo_findings_22 : sm_D prog_9_method_105_code 22 1 23 (.ireturn) := ⟨by decide +kernel, rfl⟩
noncomputable def ff_mo_findings  (a1 : Int32) (w : sm_Mem) : sm_R := (sm_cI (ff_mo_in ((Int32.toInt64 a1)) ((1 : Int64)) ((5 : Int64)) w) fun x1 w2 => (if x1 = (0 : Int32) then (some (.int (-1 : Int32), w2)) else (Option.bind (sm_rd w2 71 6 a1) fun x3 => (some (.int x3, w2)))))
set_option maxHeartbeats 4000000 in
set_option maxRecDepth 100000 in
theorem ss_mo_findings_0 {E : Nat × (Nat → Int32)}  (a1 : Int32) (w : sm_Mem) : sm_Sim E (mi_mo_findings) 0 [some (.ref 62), some (.int a1)] [] w (ff_mo_findings  a1 w) := by
  unfold ff_mo_findings
  refine sm_iload_n ii_mo_findings_0 rfl ?_
  refine sm_i2l ii_mo_findings_1 ?_
  refine sm_lconst (1 : Int64) ii_mo_findings_2 (by decide) ?_
  refine sm_ldc2 (5 : Int64) ii_mo_findings_3 (List.mem_of_getElem? (i := 1040) (by decide +kernel)) ?_
  refine sm_csI [.long (Int32.toInt64 a1), .long (1 : Int64), .long (5 : Int64)] [] rfl ii_mo_findings_6 ml_mo_71 (mf_mo_in) (mv_mo_in) (Nat.le_of_ble_eq_true rfl) rfl rfl rfl (mc_mo_in ((Int32.toInt64 a1)) ((1 : Int64)) ((5 : Int64)) w) (fun x1 w2 => ?_)
  refine sm_if_eq 21 ii_mo_findings_9 (by decide) ?_ ?_
  · refine sm_iconst (-1 : Int32) ii_mo_findings_21 (by decide) ?_
    exact sm_iret ii_mo_findings_22 rfl
  · refine sm_aload_n ii_mo_findings_12 rfl ?_
    refine sm_getR 71 ii_mo_findings_13 fl_mo_38 (k := 62) rfl ?_
    refine sm_iload_n ii_mo_findings_16 rfl ?_
    refine sm_iald ii_mo_findings_17 (k := 71) rfl (fun x3 => ?_)
    refine sm_goto 22 ii_mo_findings_18 (by decide) ?_
    exact sm_iret ii_mo_findings_22 rfl
set_option maxHeartbeats 4000000 in
set_option maxRecDepth 100000 in
theorem mc_mo_findings (a1 : Int32) (w : sm_Mem) : sm_MC mi_mo_findings [.ref 62, .int a1] w (ff_mo_findings a1 w) := sm_MC_of (0, fun _ => 0) (by decide +kernel) (by decide) rfl (Nat.le_of_ble_eq_true rfl) (ss_mo_findings_0 a1 w)
abbrev mi_hs_mixedInto : sm_MI := (⟨"HerOrders$House", "mixedInto", "(J)J"⟩, prog_3_method_28_code, 7, (some .long), 3)
set_option maxRecDepth 100000 in
theorem mf_hs_mixedInto : sm_MF mi_hs_mixedInto 1 := ⟨List.mem_of_getElem? (i := 927) (by decide +kernel), List.mem_of_getElem? (i := 128) (by decide +kernel), ⟨by decide, by decide⟩, by decide +kernel⟩
set_option maxRecDepth 100000 in
theorem mv_hs_mixedInto : sm_MFV mi_hs_mixedInto := ⟨List.mem_of_getElem? (i := 926) (by decide +kernel), List.mem_of_getElem? (i := 71) (by decide +kernel)⟩
set_option maxRecDepth 100000 in
theorem ii_hs_mixedInto_0 : sm_D prog_3_method_28_code 0 1 1 (.lload_n 1) := ⟨by decide +kernel, rfl⟩
set_option maxRecDepth 100000 in
theorem ii_hs_mixedInto_1 : sm_D prog_3_method_28_code 1 1 2 (.lstore_n 3) := ⟨by decide +kernel, rfl⟩
set_option maxRecDepth 100000 in
theorem ii_hs_mixedInto_2 : sm_D prog_3_method_28_code 2 1 3 (.iconst 0) := ⟨by decide +kernel, rfl⟩
set_option maxRecDepth 100000 in
theorem ii_hs_mixedInto_3 : sm_D prog_3_method_28_code 3 2 5 (.istore 5) := ⟨by decide +kernel, rfl⟩
set_option maxRecDepth 100000 in
theorem ii_hs_mixedInto_5 : sm_D prog_3_method_28_code 5 2 7 (.iload 5) := ⟨by decide +kernel, rfl⟩
set_option maxRecDepth 100000 in
theorem ii_hs_mixedInto_7 : sm_D prog_3_method_28_code 7 1 8 (.aload_n 0) := ⟨by decide +kernel, rfl⟩
set_option maxRecDepth 100000 in
theorem ii_hs_mixedInto_8 : sm_D prog_3_method_28_code 8 3 11 (.getfield 89) := ⟨by decide +kernel, rfl⟩
set_option maxRecDepth 100000 in
theorem ii_hs_mixedInto_11 : sm_D prog_3_method_28_code 11 3 14 (.if_icmp .ge 37) := ⟨by decide +kernel, rfl⟩
set_option maxRecDepth 100000 in
theorem ii_hs_mixedInto_14 : sm_D prog_3_method_28_code 14 3 17 (.ldc2_w 135) := ⟨by decide +kernel, rfl⟩
set_option maxRecDepth 100000 in
theorem ii_hs_mixedInto_17 : sm_D prog_3_method_28_code 17 3 20 (.ldc2_w 135) := ⟨by decide +kernel, rfl⟩
set_option maxRecDepth 100000 in
theorem ii_hs_mixedInto_20 : sm_D prog_3_method_28_code 20 1 21 (.lload_n 3) := ⟨by decide +kernel, rfl⟩
set_option maxRecDepth 100000 in
theorem ii_hs_mixedInto_21 : sm_D prog_3_method_28_code 21 1 22 (.lmul) := ⟨by decide +kernel, rfl⟩
set_option maxRecDepth 100000 in
theorem ii_hs_mixedInto_22 : sm_D prog_3_method_28_code 22 1 23 (.aload_n 0) := ⟨by decide +kernel, rfl⟩
set_option maxRecDepth 100000 in
theorem ii_hs_mixedInto_23 : sm_D prog_3_method_28_code 23 3 26 (.getfield 30) := ⟨by decide +kernel, rfl⟩
set_option maxRecDepth 100000 in
theorem ii_hs_mixedInto_26 : sm_D prog_3_method_28_code 26 2 28 (.iload 5) := ⟨by decide +kernel, rfl⟩
set_option maxRecDepth 100000 in
theorem ii_hs_mixedInto_28 : sm_D prog_3_method_28_code 28 1 29 (.iaload) := ⟨by decide +kernel, rfl⟩
set_option maxRecDepth 100000 in
theorem ii_hs_mixedInto_29 : sm_D prog_3_method_28_code 29 1 30 (.i2l) := ⟨by decide +kernel, rfl⟩
set_option maxRecDepth 100000 in
theorem ii_hs_mixedInto_30 : sm_D prog_3_method_28_code 30 1 31 (.ladd) := ⟨by decide +kernel, rfl⟩
set_option maxRecDepth 100000 in
theorem ii_hs_mixedInto_31 : sm_D prog_3_method_28_code 31 1 32 (.lmul) := ⟨by decide +kernel, rfl⟩
set_option maxRecDepth 100000 in
theorem ii_hs_mixedInto_32 : sm_D prog_3_method_28_code 32 1 33 (.aload_n 0) := ⟨by decide +kernel, rfl⟩
set_option maxRecDepth 100000 in
theorem ii_hs_mixedInto_33 : sm_D prog_3_method_28_code 33 3 36 (.getfield 33) := ⟨by decide +kernel, rfl⟩
set_option maxRecDepth 100000 in
theorem ii_hs_mixedInto_36 : sm_D prog_3_method_28_code 36 2 38 (.iload 5) := ⟨by decide +kernel, rfl⟩
set_option maxRecDepth 100000 in
theorem ii_hs_mixedInto_38 : sm_D prog_3_method_28_code 38 1 39 (.iaload) := ⟨by decide +kernel, rfl⟩
set_option maxRecDepth 100000 in
theorem ii_hs_mixedInto_39 : sm_D prog_3_method_28_code 39 1 40 (.i2l) := ⟨by decide +kernel, rfl⟩
set_option maxRecDepth 100000 in
theorem ii_hs_mixedInto_40 : sm_D prog_3_method_28_code 40 1 41 (.ladd) := ⟨by decide +kernel, rfl⟩
set_option maxRecDepth 100000 in
theorem ii_hs_mixedInto_41 : sm_D prog_3_method_28_code 41 1 42 (.lstore_n 3) := ⟨by decide +kernel, rfl⟩
set_option maxRecDepth 100000 in
theorem ii_hs_mixedInto_42 : sm_D prog_3_method_28_code 42 3 45 (.iinc 5 1) := ⟨by decide +kernel, rfl⟩
set_option maxRecDepth 100000 in
theorem ii_hs_mixedInto_45 : sm_D prog_3_method_28_code 45 3 48 (.goto (-40)) := ⟨by decide +kernel, rfl⟩
set_option maxRecDepth 100000 in
theorem ii_hs_mixedInto_48 : sm_D prog_3_method_28_code 48 1 49 (.iconst 0) := ⟨by decide +kernel, rfl⟩
set_option maxRecDepth 100000 in
theorem ii_hs_mixedInto_49 : sm_D prog_3_method_28_code 49 2 51 (.istore 5) := ⟨by decide +kernel, rfl⟩
set_option maxRecDepth 100000 in
theorem ii_hs_mixedInto_51 : sm_D prog_3_method_28_code 51 2 53 (.iload 5) := ⟨by decide +kernel, rfl⟩
set_option maxRecDepth 100000 in
theorem ii_hs_mixedInto_53 : sm_D prog_3_method_28_code 53 1 54 (.aload_n 0) := ⟨by decide +kernel, rfl⟩
set_option maxRecDepth 100000 in
theorem ii_hs_mixedInto_54 : sm_D prog_3_method_28_code 54 3 57 (.getfield 45) := ⟨by decide +kernel, rfl⟩
set_option maxRecDepth 100000 in
theorem ii_hs_mixedInto_57 : sm_D prog_3_method_28_code 57 3 60 (.if_icmp .ge 41) := ⟨by decide +kernel, rfl⟩
set_option maxRecDepth 100000 in
theorem ii_hs_mixedInto_60 : sm_D prog_3_method_28_code 60 1 61 (.iconst 0) := ⟨by decide +kernel, rfl⟩
set_option maxRecDepth 100000 in
theorem ii_hs_mixedInto_61 : sm_D prog_3_method_28_code 61 2 63 (.istore 6) := ⟨by decide +kernel, rfl⟩
set_option maxRecDepth 100000 in
theorem ii_hs_mixedInto_63 : sm_D prog_3_method_28_code 63 2 65 (.iload 6) := ⟨by decide +kernel, rfl⟩
set_option maxRecDepth 100000 in
theorem ii_hs_mixedInto_65 : sm_D prog_3_method_28_code 65 2 67 (.bipush 6) := ⟨by decide +kernel, rfl⟩
set_option maxRecDepth 100000 in
theorem ii_hs_mixedInto_67 : sm_D prog_3_method_28_code 67 3 70 (.if_icmp .ge 25) := ⟨by decide +kernel, rfl⟩
set_option maxRecDepth 100000 in
theorem ii_hs_mixedInto_70 : sm_D prog_3_method_28_code 70 3 73 (.ldc2_w 135) := ⟨by decide +kernel, rfl⟩
set_option maxRecDepth 100000 in
theorem ii_hs_mixedInto_73 : sm_D prog_3_method_28_code 73 1 74 (.lload_n 3) := ⟨by decide +kernel, rfl⟩
set_option maxRecDepth 100000 in
theorem ii_hs_mixedInto_74 : sm_D prog_3_method_28_code 74 1 75 (.lmul) := ⟨by decide +kernel, rfl⟩
set_option maxRecDepth 100000 in
theorem ii_hs_mixedInto_75 : sm_D prog_3_method_28_code 75 1 76 (.aload_n 0) := ⟨by decide +kernel, rfl⟩
set_option maxRecDepth 100000 in
theorem ii_hs_mixedInto_76 : sm_D prog_3_method_28_code 76 2 78 (.iload 5) := ⟨by decide +kernel, rfl⟩
set_option maxRecDepth 100000 in
theorem ii_hs_mixedInto_78 : sm_D prog_3_method_28_code 78 2 80 (.iload 6) := ⟨by decide +kernel, rfl⟩
set_option maxRecDepth 100000 in
theorem ii_hs_mixedInto_80 : sm_D prog_3_method_28_code 80 3 83 (.invokevirtual 137) := ⟨by decide +kernel, rfl⟩
set_option maxRecDepth 100000 in
theorem ii_hs_mixedInto_83 : sm_D prog_3_method_28_code 83 1 84 (.i2l) := ⟨by decide +kernel, rfl⟩
set_option maxRecDepth 100000 in
theorem ii_hs_mixedInto_84 : sm_D prog_3_method_28_code 84 1 85 (.ladd) := ⟨by decide +kernel, rfl⟩
set_option maxRecDepth 100000 in
theorem ii_hs_mixedInto_85 : sm_D prog_3_method_28_code 85 1 86 (.lstore_n 3) := ⟨by decide +kernel, rfl⟩
set_option maxRecDepth 100000 in
theorem ii_hs_mixedInto_86 : sm_D prog_3_method_28_code 86 3 89 (.iinc 6 1) := ⟨by decide +kernel, rfl⟩
set_option maxRecDepth 100000 in
theorem ii_hs_mixedInto_89 : sm_D prog_3_method_28_code 89 3 92 (.goto (-26)) := ⟨by decide +kernel, rfl⟩
set_option maxRecDepth 100000 in
theorem ii_hs_mixedInto_92 : sm_D prog_3_method_28_code 92 3 95 (.iinc 5 1) := ⟨by decide +kernel, rfl⟩
set_option maxRecDepth 100000 in
theorem ii_hs_mixedInto_95 : sm_D prog_3_method_28_code 95 3 98 (.goto (-44)) := ⟨by decide +kernel, rfl⟩
set_option maxRecDepth 100000 in
theorem ii_hs_mixedInto_98 : sm_D prog_3_method_28_code 98 1 99 (.lload_n 3) := ⟨by decide +kernel, rfl⟩
set_option maxRecDepth 100000 in
theorem ii_hs_mixedInto_99 : sm_D prog_3_method_28_code 99 1 100 (.lreturn) := ⟨by decide +kernel, rfl⟩
noncomputable def ff_hs_mixedInto_63_b (self51 : Int64 → Int32 → sm_Mem → sm_R) (self63 : Int64 → Int32 → Int32 → sm_Mem → sm_R) (a3 : Int64) (a5 : Int32) (a6 : Int32) (w : sm_Mem) : sm_R := (if (6 : Int32) ≤ a6 then self51 (a3) ((a5 + (1 : Int32))) w else (sm_cI (ff_hs_factOf (a5) (a6) w) fun x1 w2 => self63 ((((31 : Int64) * a3) + (Int32.toInt64 x1))) (a5) ((a6 + (1 : Int32))) w2))
noncomputable def ff_hs_mixedInto_63_f (self51 : Int64 → Int32 → sm_Mem → sm_R) : Nat → Int64 → Int32 → Int32 → sm_Mem → sm_R
  | 0, _, _, _, _ => none
  | n + 1, a3, a5, a6, w => ff_hs_mixedInto_63_b self51 (ff_hs_mixedInto_63_f self51 n) a3 a5 a6 w
noncomputable def ff_hs_mixedInto_63 (self51 : Int64 → Int32 → sm_Mem → sm_R) (a3 : Int64) (a5 : Int32) (a6 : Int32) (w : sm_Mem) : sm_R := ff_hs_mixedInto_63_f self51 sm_N a3 a5 a6 w
set_option maxHeartbeats 4000000 in
set_option maxRecDepth 100000 in
theorem ss_hs_mixedInto_63_b {E : Nat × (Nat → Int32)} (self51 : Int64 → Int32 → sm_Mem → sm_R) (hself51 : ∀ (a3 : Int64) (a5 : Int32) (w : sm_Mem), sm_Sim E (mi_hs_mixedInto) 51 [some (.ref 36), none, none, some (.long a3), none, some (.int a5), none] [] w (self51 a3 a5 w)) (self63 : Int64 → Int32 → Int32 → sm_Mem → sm_R) (hself63 : ∀ (a3 : Int64) (a5 : Int32) (a6 : Int32) (w : sm_Mem), sm_Sim E (mi_hs_mixedInto) 63 [some (.ref 36), none, none, some (.long a3), none, some (.int a5), some (.int a6)] [] w (self63 a3 a5 a6 w)) (a3 : Int64) (a5 : Int32) (a6 : Int32) (w : sm_Mem) : sm_Sim E (mi_hs_mixedInto) 63 [some (.ref 36), none, none, some (.long a3), none, some (.int a5), some (.int a6)] [] w (ff_hs_mixedInto_63_b self51 self63 a3 a5 a6 w) := by
  unfold ff_hs_mixedInto_63_b
  refine sm_iload ii_hs_mixedInto_63 rfl ?_
  refine sm_bipush (6 : Int32) ii_hs_mixedInto_65 (by decide) ?_
  refine sm_icmp_ge 92 ii_hs_mixedInto_67 (by decide) ?_ ?_
  · refine sm_iinc (a5 + (1 : Int32)) [some (.ref 36), none, none, some (.long a3), none, some (.int (a5 + (1 : Int32))), some (.int a6)] ii_hs_mixedInto_92 rfl rfl rfl rfl ?_
    refine sm_goto 51 ii_hs_mixedInto_95 (by decide) ?_
    refine sm_msk [true, false, false, true, false, true, false] [some (.ref 36), none, none, some (.long a3), none, some (.int (a5 + (1 : Int32))), none] rfl ?_
    exact hself51 (a3) ((a5 + (1 : Int32))) w
  · refine sm_ldc2 (31 : Int64) ii_hs_mixedInto_70 (List.mem_of_getElem? (i := 928) (by decide +kernel)) ?_
    refine sm_lload_n ii_hs_mixedInto_73 rfl ?_
    refine sm_lmul ii_hs_mixedInto_74 ?_
    refine sm_aload_n ii_hs_mixedInto_75 rfl ?_
    refine sm_iload ii_hs_mixedInto_76 rfl ?_
    refine sm_iload ii_hs_mixedInto_78 rfl ?_
    refine sm_cvI [.int a5, .int a6] [.long ((31 : Int64) * a3)] rfl ii_hs_mixedInto_80 ml_hs_137 (mf_hs_factOf) (mv_hs_factOf) (Nat.le_of_ble_eq_true rfl) rfl 1 rfl rfl rfl rfl (mc_hs_factOf (a5) (a6) w) (fun x1 w2 => ?_)
    refine sm_i2l ii_hs_mixedInto_83 ?_
    refine sm_ladd ii_hs_mixedInto_84 ?_
    refine sm_lstore_n [some (.ref 36), none, none, some (.long (((31 : Int64) * a3) + (Int32.toInt64 x1))), none, some (.int a5), some (.int a6)] ii_hs_mixedInto_85 rfl rfl ?_
    refine sm_iinc (a6 + (1 : Int32)) [some (.ref 36), none, none, some (.long (((31 : Int64) * a3) + (Int32.toInt64 x1))), none, some (.int a5), some (.int (a6 + (1 : Int32)))] ii_hs_mixedInto_86 rfl rfl rfl rfl ?_
    refine sm_goto 63 ii_hs_mixedInto_89 (by decide) ?_
    exact hself63 ((((31 : Int64) * a3) + (Int32.toInt64 x1))) (a5) ((a6 + (1 : Int32))) w2
set_option maxHeartbeats 4000000 in
set_option maxRecDepth 100000 in
theorem ss_hs_mixedInto_63_f {E : Nat × (Nat → Int32)} (self51 : Int64 → Int32 → sm_Mem → sm_R) (hself51 : ∀ (a3 : Int64) (a5 : Int32) (w : sm_Mem), sm_Sim E (mi_hs_mixedInto) 51 [some (.ref 36), none, none, some (.long a3), none, some (.int a5), none] [] w (self51 a3 a5 w)) : ∀ (n : Nat) (a3 : Int64) (a5 : Int32) (a6 : Int32) (w : sm_Mem), sm_Sim E (mi_hs_mixedInto) 63 [some (.ref 36), none, none, some (.long a3), none, some (.int a5), some (.int a6)] [] w (ff_hs_mixedInto_63_f self51 n a3 a5 a6 w)
  | 0, _, _, _, _ => fun _ _ h => by cases h
  | n + 1, a3, a5, a6, w => ss_hs_mixedInto_63_b self51 hself51 _ (ss_hs_mixedInto_63_f self51 hself51 n) a3 a5 a6 w
set_option maxHeartbeats 4000000 in
set_option maxRecDepth 100000 in
theorem ss_hs_mixedInto_63 {E : Nat × (Nat → Int32)} (self51 : Int64 → Int32 → sm_Mem → sm_R) (hself51 : ∀ (a3 : Int64) (a5 : Int32) (w : sm_Mem), sm_Sim E (mi_hs_mixedInto) 51 [some (.ref 36), none, none, some (.long a3), none, some (.int a5), none] [] w (self51 a3 a5 w)) (a3 : Int64) (a5 : Int32) (a6 : Int32) (w : sm_Mem) : sm_Sim E (mi_hs_mixedInto) 63 [some (.ref 36), none, none, some (.long a3), none, some (.int a5), some (.int a6)] [] w (ff_hs_mixedInto_63 self51 a3 a5 a6 w) := ss_hs_mixedInto_63_f self51 hself51 sm_N a3 a5 a6 w
noncomputable def ff_hs_mixedInto_51_b  (self51 : Int64 → Int32 → sm_Mem → sm_R) (a3 : Int64) (a5 : Int32) (w : sm_Mem) : sm_R := (if (w.1 36 0) ≤ a5 then (some (.long a3, w)) else ff_hs_mixedInto_63 self51 (a3) (a5) ((0 : Int32)) w)
noncomputable def ff_hs_mixedInto_51_f  : Nat → Int64 → Int32 → sm_Mem → sm_R
  | 0, _, _, _ => none
  | n + 1, a3, a5, w => ff_hs_mixedInto_51_b  (ff_hs_mixedInto_51_f  n) a3 a5 w
noncomputable def ff_hs_mixedInto_51  (a3 : Int64) (a5 : Int32) (w : sm_Mem) : sm_R := ff_hs_mixedInto_51_f  sm_N a3 a5 w
set_option maxHeartbeats 4000000 in
set_option maxRecDepth 100000 in
theorem ss_hs_mixedInto_51_b {E : Nat × (Nat → Int32)}  (self51 : Int64 → Int32 → sm_Mem → sm_R) (hself51 : ∀ (a3 : Int64) (a5 : Int32) (w : sm_Mem), sm_Sim E (mi_hs_mixedInto) 51 [some (.ref 36), none, none, some (.long a3), none, some (.int a5), none] [] w (self51 a3 a5 w)) (a3 : Int64) (a5 : Int32) (w : sm_Mem) : sm_Sim E (mi_hs_mixedInto) 51 [some (.ref 36), none, none, some (.long a3), none, some (.int a5), none] [] w (ff_hs_mixedInto_51_b  self51 a3 a5 w) := by
  unfold ff_hs_mixedInto_51_b
  refine sm_iload ii_hs_mixedInto_51 rfl ?_
  refine sm_aload_n ii_hs_mixedInto_53 rfl ?_
  refine sm_getI ii_hs_mixedInto_54 fl_hs_45 (k := 36) rfl ?_
  refine sm_icmp_ge 98 ii_hs_mixedInto_57 (by decide) ?_ ?_
  · refine sm_lload_n ii_hs_mixedInto_98 rfl ?_
    exact sm_lret ii_hs_mixedInto_99 rfl
  · refine sm_iconst (0 : Int32) ii_hs_mixedInto_60 (by decide) ?_
    refine sm_istore [some (.ref 36), none, none, some (.long a3), none, some (.int a5), some (.int (0 : Int32))] ii_hs_mixedInto_61 rfl rfl ?_
    exact ss_hs_mixedInto_63 self51 hself51 (a3) (a5) ((0 : Int32)) w
set_option maxHeartbeats 4000000 in
set_option maxRecDepth 100000 in
theorem ss_hs_mixedInto_51_f {E : Nat × (Nat → Int32)}  : ∀ (n : Nat) (a3 : Int64) (a5 : Int32) (w : sm_Mem), sm_Sim E (mi_hs_mixedInto) 51 [some (.ref 36), none, none, some (.long a3), none, some (.int a5), none] [] w (ff_hs_mixedInto_51_f  n a3 a5 w)
  | 0, _, _, _ => fun _ _ h => by cases h
  | n + 1, a3, a5, w => ss_hs_mixedInto_51_b  _ (ss_hs_mixedInto_51_f  n) a3 a5 w
set_option maxHeartbeats 4000000 in
set_option maxRecDepth 100000 in
theorem ss_hs_mixedInto_51 {E : Nat × (Nat → Int32)}  (a3 : Int64) (a5 : Int32) (w : sm_Mem) : sm_Sim E (mi_hs_mixedInto) 51 [some (.ref 36), none, none, some (.long a3), none, some (.int a5), none] [] w (ff_hs_mixedInto_51  a3 a5 w) := ss_hs_mixedInto_51_f  sm_N a3 a5 w
noncomputable def ff_hs_mixedInto_5_b  (self5 : Int64 → Int32 → sm_Mem → sm_R) (a3 : Int64) (a5 : Int32) (w : sm_Mem) : sm_R := (if (w.1 36 11) ≤ a5 then ff_hs_mixedInto_51 (a3) ((0 : Int32)) w else (Option.bind (sm_rd w 43 8 a5) fun x3 => (Option.bind (sm_rd w 44 8 a5) fun x4 => self5 ((((31 : Int64) * (((31 : Int64) * a3) + (Int32.toInt64 x3))) + (Int32.toInt64 x4))) ((a5 + (1 : Int32))) w)))
noncomputable def ff_hs_mixedInto_5_f  : Nat → Int64 → Int32 → sm_Mem → sm_R
  | 0, _, _, _ => none
  | n + 1, a3, a5, w => ff_hs_mixedInto_5_b  (ff_hs_mixedInto_5_f  n) a3 a5 w
noncomputable def ff_hs_mixedInto_5  (a3 : Int64) (a5 : Int32) (w : sm_Mem) : sm_R := ff_hs_mixedInto_5_f  sm_N a3 a5 w
set_option maxHeartbeats 4000000 in
set_option maxRecDepth 100000 in
theorem ss_hs_mixedInto_5_b {E : Nat × (Nat → Int32)}  (self5 : Int64 → Int32 → sm_Mem → sm_R) (hself5 : ∀ (a3 : Int64) (a5 : Int32) (w : sm_Mem), sm_Sim E (mi_hs_mixedInto) 5 [some (.ref 36), none, none, some (.long a3), none, some (.int a5), none] [] w (self5 a3 a5 w)) (a3 : Int64) (a5 : Int32) (w : sm_Mem) : sm_Sim E (mi_hs_mixedInto) 5 [some (.ref 36), none, none, some (.long a3), none, some (.int a5), none] [] w (ff_hs_mixedInto_5_b  self5 a3 a5 w) := by
  unfold ff_hs_mixedInto_5_b
  refine sm_iload ii_hs_mixedInto_5 rfl ?_
  refine sm_aload_n ii_hs_mixedInto_7 rfl ?_
  refine sm_getI ii_hs_mixedInto_8 fl_hs_89 (k := 36) rfl ?_
  refine sm_icmp_ge 48 ii_hs_mixedInto_11 (by decide) ?_ ?_
  · refine sm_iconst (0 : Int32) ii_hs_mixedInto_48 (by decide) ?_
    refine sm_istore [some (.ref 36), none, none, some (.long a3), none, some (.int (0 : Int32)), none] ii_hs_mixedInto_49 rfl rfl ?_
    exact ss_hs_mixedInto_51 (a3) ((0 : Int32)) w
  · refine sm_ldc2 (31 : Int64) ii_hs_mixedInto_14 (List.mem_of_getElem? (i := 928) (by decide +kernel)) ?_
    refine sm_ldc2 (31 : Int64) ii_hs_mixedInto_17 (List.mem_of_getElem? (i := 928) (by decide +kernel)) ?_
    refine sm_lload_n ii_hs_mixedInto_20 rfl ?_
    refine sm_lmul ii_hs_mixedInto_21 ?_
    refine sm_aload_n ii_hs_mixedInto_22 rfl ?_
    refine sm_getR 43 ii_hs_mixedInto_23 fl_hs_30 (k := 36) rfl ?_
    refine sm_iload ii_hs_mixedInto_26 rfl ?_
    refine sm_iald ii_hs_mixedInto_28 (k := 43) rfl (fun x3 => ?_)
    refine sm_i2l ii_hs_mixedInto_29 ?_
    refine sm_ladd ii_hs_mixedInto_30 ?_
    refine sm_lmul ii_hs_mixedInto_31 ?_
    refine sm_aload_n ii_hs_mixedInto_32 rfl ?_
    refine sm_getR 44 ii_hs_mixedInto_33 fl_hs_33 (k := 36) rfl ?_
    refine sm_iload ii_hs_mixedInto_36 rfl ?_
    refine sm_iald ii_hs_mixedInto_38 (k := 44) rfl (fun x4 => ?_)
    refine sm_i2l ii_hs_mixedInto_39 ?_
    refine sm_ladd ii_hs_mixedInto_40 ?_
    refine sm_lstore_n [some (.ref 36), none, none, some (.long (((31 : Int64) * (((31 : Int64) * a3) + (Int32.toInt64 x3))) + (Int32.toInt64 x4))), none, some (.int a5), none] ii_hs_mixedInto_41 rfl rfl ?_
    refine sm_iinc (a5 + (1 : Int32)) [some (.ref 36), none, none, some (.long (((31 : Int64) * (((31 : Int64) * a3) + (Int32.toInt64 x3))) + (Int32.toInt64 x4))), none, some (.int (a5 + (1 : Int32))), none] ii_hs_mixedInto_42 rfl rfl rfl rfl ?_
    refine sm_goto 5 ii_hs_mixedInto_45 (by decide) ?_
    exact hself5 ((((31 : Int64) * (((31 : Int64) * a3) + (Int32.toInt64 x3))) + (Int32.toInt64 x4))) ((a5 + (1 : Int32))) w
set_option maxHeartbeats 4000000 in
set_option maxRecDepth 100000 in
theorem ss_hs_mixedInto_5_f {E : Nat × (Nat → Int32)}  : ∀ (n : Nat) (a3 : Int64) (a5 : Int32) (w : sm_Mem), sm_Sim E (mi_hs_mixedInto) 5 [some (.ref 36), none, none, some (.long a3), none, some (.int a5), none] [] w (ff_hs_mixedInto_5_f  n a3 a5 w)
  | 0, _, _, _ => fun _ _ h => by cases h
  | n + 1, a3, a5, w => ss_hs_mixedInto_5_b  _ (ss_hs_mixedInto_5_f  n) a3 a5 w
set_option maxHeartbeats 4000000 in
set_option maxRecDepth 100000 in
theorem ss_hs_mixedInto_5 {E : Nat × (Nat → Int32)}  (a3 : Int64) (a5 : Int32) (w : sm_Mem) : sm_Sim E (mi_hs_mixedInto) 5 [some (.ref 36), none, none, some (.long a3), none, some (.int a5), none] [] w (ff_hs_mixedInto_5  a3 a5 w) := ss_hs_mixedInto_5_f  sm_N a3 a5 w
noncomputable def ff_hs_mixedInto  (a1 : Int64) (w : sm_Mem) : sm_R := ff_hs_mixedInto_5 (a1) ((0 : Int32)) w
set_option maxHeartbeats 4000000 in
set_option maxRecDepth 100000 in
theorem ss_hs_mixedInto_0 {E : Nat × (Nat → Int32)}  (a1 : Int64) (w : sm_Mem) : sm_Sim E (mi_hs_mixedInto) 0 [some (.ref 36), some (.long a1), none, none, none, none, none] [] w (ff_hs_mixedInto  a1 w) := by
  unfold ff_hs_mixedInto
  refine sm_lload_n ii_hs_mixedInto_0 rfl ?_
  refine sm_lstore_n [some (.ref 36), some (.long a1), none, some (.long a1), none, none, none] ii_hs_mixedInto_1 rfl rfl ?_
  refine sm_iconst (0 : Int32) ii_hs_mixedInto_2 (by decide) ?_
  refine sm_istore [some (.ref 36), some (.long a1), none, some (.long a1), none, some (.int (0 : Int32)), none] ii_hs_mixedInto_3 rfl rfl ?_
  refine sm_msk [true, false, false, true, false, true, false] [some (.ref 36), none, none, some (.long a1), none, some (.int (0 : Int32)), none] rfl ?_
  exact ss_hs_mixedInto_5 (a1) ((0 : Int32)) w
set_option maxHeartbeats 4000000 in
set_option maxRecDepth 100000 in
theorem mc_hs_mixedInto (a1 : Int64) (w : sm_Mem) : sm_MC mi_hs_mixedInto [.ref 36, .long a1] w (ff_hs_mixedInto a1 w) := sm_MC_of (0, fun _ => 0) (by decide +kernel) (by decide) rfl (Nat.le_of_ble_eq_true rfl) (ss_hs_mixedInto_0 a1 w)
abbrev mi_rw_mixedInto : sm_MI := (⟨"HerOrders$Row", "mixedInto", "(J)J"⟩, prog_4_method_10_code, 6, (some .long), 2)
set_option maxRecDepth 100000 in
theorem mf_rw_mixedInto : sm_MF mi_rw_mixedInto 1 := ⟨List.mem_of_getElem? (i := 933) (by decide +kernel), List.mem_of_getElem? (i := 125) (by decide +kernel), ⟨by decide, by decide⟩, by decide +kernel⟩
set_option maxRecDepth 100000 in
theorem mv_rw_mixedInto : sm_MFV mi_rw_mixedInto := ⟨List.mem_of_getElem? (i := 932) (by decide +kernel), List.mem_of_getElem? (i := 72) (by decide +kernel)⟩
set_option maxRecDepth 100000 in
theorem ii_rw_mixedInto_0 : sm_D prog_4_method_10_code 0 1 1 (.aload_n 0) := ⟨by decide +kernel, rfl⟩
set_option maxRecDepth 100000 in
theorem ii_rw_mixedInto_1 : sm_D prog_4_method_10_code 1 3 4 (.invokevirtual 36) := ⟨by decide +kernel, rfl⟩
set_option maxRecDepth 100000 in
theorem ii_rw_mixedInto_4 : sm_D prog_4_method_10_code 4 3 7 (.ifCond .eq 11) := ⟨by decide +kernel, rfl⟩
set_option maxRecDepth 100000 in
theorem ii_rw_mixedInto_7 : sm_D prog_4_method_10_code 7 3 10 (.ldc2_w 40) := ⟨by decide +kernel, rfl⟩
set_option maxRecDepth 100000 in
theorem ii_rw_mixedInto_10 : sm_D prog_4_method_10_code 10 1 11 (.lload_n 1) := ⟨by decide +kernel, rfl⟩
set_option maxRecDepth 100000 in
theorem ii_rw_mixedInto_11 : sm_D prog_4_method_10_code 11 1 12 (.lmul) := ⟨by decide +kernel, rfl⟩
set_option maxRecDepth 100000 in
theorem ii_rw_mixedInto_12 : sm_D prog_4_method_10_code 12 1 13 (.lconst 1) := ⟨by decide +kernel, rfl⟩
set_option maxRecDepth 100000 in
theorem ii_rw_mixedInto_13 : sm_D prog_4_method_10_code 13 1 14 (.lsub) := ⟨by decide +kernel, rfl⟩
set_option maxRecDepth 100000 in
theorem ii_rw_mixedInto_14 : sm_D prog_4_method_10_code 14 1 15 (.lreturn) := ⟨by decide +kernel, rfl⟩
set_option maxRecDepth 100000 in
theorem ii_rw_mixedInto_15 : sm_D prog_4_method_10_code 15 3 18 (.ldc2_w 40) := ⟨by decide +kernel, rfl⟩
set_option maxRecDepth 100000 in
theorem ii_rw_mixedInto_18 : sm_D prog_4_method_10_code 18 1 19 (.lload_n 1) := ⟨by decide +kernel, rfl⟩
set_option maxRecDepth 100000 in
theorem ii_rw_mixedInto_19 : sm_D prog_4_method_10_code 19 1 20 (.lmul) := ⟨by decide +kernel, rfl⟩
set_option maxRecDepth 100000 in
theorem ii_rw_mixedInto_20 : sm_D prog_4_method_10_code 20 1 21 (.aload_n 0) := ⟨by decide +kernel, rfl⟩
set_option maxRecDepth 100000 in
theorem ii_rw_mixedInto_21 : sm_D prog_4_method_10_code 21 3 24 (.getfield 21) := ⟨by decide +kernel, rfl⟩
set_option maxRecDepth 100000 in
theorem ii_rw_mixedInto_24 : sm_D prog_4_method_10_code 24 1 25 (.i2l) := ⟨by decide +kernel, rfl⟩
set_option maxRecDepth 100000 in
theorem ii_rw_mixedInto_25 : sm_D prog_4_method_10_code 25 1 26 (.ladd) := ⟨by decide +kernel, rfl⟩
set_option maxRecDepth 100000 in
theorem ii_rw_mixedInto_26 : sm_D prog_4_method_10_code 26 1 27 (.lstore_n 3) := ⟨by decide +kernel, rfl⟩
set_option maxRecDepth 100000 in
theorem ii_rw_mixedInto_27 : sm_D prog_4_method_10_code 27 1 28 (.iconst 0) := ⟨by decide +kernel, rfl⟩
set_option maxRecDepth 100000 in
theorem ii_rw_mixedInto_28 : sm_D prog_4_method_10_code 28 2 30 (.istore 5) := ⟨by decide +kernel, rfl⟩
set_option maxRecDepth 100000 in
theorem ii_rw_mixedInto_30 : sm_D prog_4_method_10_code 30 2 32 (.iload 5) := ⟨by decide +kernel, rfl⟩
set_option maxRecDepth 100000 in
theorem ii_rw_mixedInto_32 : sm_D prog_4_method_10_code 32 1 33 (.aload_n 0) := ⟨by decide +kernel, rfl⟩
set_option maxRecDepth 100000 in
theorem ii_rw_mixedInto_33 : sm_D prog_4_method_10_code 33 3 36 (.getfield 21) := ⟨by decide +kernel, rfl⟩
set_option maxRecDepth 100000 in
theorem ii_rw_mixedInto_36 : sm_D prog_4_method_10_code 36 3 39 (.if_icmp .ge 24) := ⟨by decide +kernel, rfl⟩
set_option maxRecDepth 100000 in
theorem ii_rw_mixedInto_39 : sm_D prog_4_method_10_code 39 3 42 (.ldc2_w 40) := ⟨by decide +kernel, rfl⟩
set_option maxRecDepth 100000 in
theorem ii_rw_mixedInto_42 : sm_D prog_4_method_10_code 42 1 43 (.lload_n 3) := ⟨by decide +kernel, rfl⟩
set_option maxRecDepth 100000 in
theorem ii_rw_mixedInto_43 : sm_D prog_4_method_10_code 43 1 44 (.lmul) := ⟨by decide +kernel, rfl⟩
set_option maxRecDepth 100000 in
theorem ii_rw_mixedInto_44 : sm_D prog_4_method_10_code 44 1 45 (.aload_n 0) := ⟨by decide +kernel, rfl⟩
set_option maxRecDepth 100000 in
theorem ii_rw_mixedInto_45 : sm_D prog_4_method_10_code 45 3 48 (.getfield 15) := ⟨by decide +kernel, rfl⟩
set_option maxRecDepth 100000 in
theorem ii_rw_mixedInto_48 : sm_D prog_4_method_10_code 48 2 50 (.iload 5) := ⟨by decide +kernel, rfl⟩
set_option maxRecDepth 100000 in
theorem ii_rw_mixedInto_50 : sm_D prog_4_method_10_code 50 1 51 (.iaload) := ⟨by decide +kernel, rfl⟩
set_option maxRecDepth 100000 in
theorem ii_rw_mixedInto_51 : sm_D prog_4_method_10_code 51 1 52 (.i2l) := ⟨by decide +kernel, rfl⟩
set_option maxRecDepth 100000 in
theorem ii_rw_mixedInto_52 : sm_D prog_4_method_10_code 52 1 53 (.ladd) := ⟨by decide +kernel, rfl⟩
set_option maxRecDepth 100000 in
theorem ii_rw_mixedInto_53 : sm_D prog_4_method_10_code 53 1 54 (.lstore_n 3) := ⟨by decide +kernel, rfl⟩
set_option maxRecDepth 100000 in
theorem ii_rw_mixedInto_54 : sm_D prog_4_method_10_code 54 3 57 (.iinc 5 1) := ⟨by decide +kernel, rfl⟩
set_option maxRecDepth 100000 in
theorem ii_rw_mixedInto_57 : sm_D prog_4_method_10_code 57 3 60 (.goto (-27)) := ⟨by decide +kernel, rfl⟩
set_option maxRecDepth 100000 in
theorem ii_rw_mixedInto_60 : sm_D prog_4_method_10_code 60 1 61 (.lload_n 3) := ⟨by decide +kernel, rfl⟩
set_option maxRecDepth 100000 in
theorem ii_rw_mixedInto_61 : sm_D prog_4_method_10_code 61 1 62 (.lreturn) := ⟨by decide +kernel, rfl⟩
noncomputable def ff_rw_mixedInto_30_b  (self30 : Nat → Int64 → Int32 → sm_Mem → sm_R) (a0 : Nat) (a3 : Int64) (a5 : Int32) (w : sm_Mem) : sm_R := (Option.bind (sm_gI w a0 2 1) fun x1 => (if x1 ≤ a5 then (some (.long a3, w)) else (Option.bind (sm_fk a0 2 0 2) fun r2 => (Option.bind (sm_rds w r2 a5) fun x3 => self30 (a0) ((((31 : Int64) * a3) + (Int32.toInt64 x3))) ((a5 + (1 : Int32))) w))))
noncomputable def ff_rw_mixedInto_30_f  : Nat → Nat → Int64 → Int32 → sm_Mem → sm_R
  | 0, _, _, _, _ => none
  | n + 1, a0, a3, a5, w => ff_rw_mixedInto_30_b  (ff_rw_mixedInto_30_f  n) a0 a3 a5 w
noncomputable def ff_rw_mixedInto_30  (a0 : Nat) (a3 : Int64) (a5 : Int32) (w : sm_Mem) : sm_R := ff_rw_mixedInto_30_f  sm_N a0 a3 a5 w
set_option maxHeartbeats 4000000 in
set_option maxRecDepth 100000 in
theorem ss_rw_mixedInto_30_b {E : Nat × (Nat → Int32)}  (self30 : Nat → Int64 → Int32 → sm_Mem → sm_R) (hself30 : ∀ (a0 : Nat) (a3 : Int64) (a5 : Int32) (w : sm_Mem), sm_Sim E (mi_rw_mixedInto) 30 [some (.ref a0), none, none, some (.long a3), none, some (.int a5)] [] w (self30 a0 a3 a5 w)) (a0 : Nat) (a3 : Int64) (a5 : Int32) (w : sm_Mem) : sm_Sim E (mi_rw_mixedInto) 30 [some (.ref a0), none, none, some (.long a3), none, some (.int a5)] [] w (ff_rw_mixedInto_30_b  self30 a0 a3 a5 w) := by
  unfold ff_rw_mixedInto_30_b
  refine sm_iload ii_rw_mixedInto_30 rfl ?_
  refine sm_aload_n ii_rw_mixedInto_32 rfl ?_
  refine sm_getIs ii_rw_mixedInto_33 fl_rw_21 (fun x1 => ?_)
  refine sm_icmp_ge 60 ii_rw_mixedInto_36 (by decide) ?_ ?_
  · refine sm_lload_n ii_rw_mixedInto_60 rfl ?_
    exact sm_lret ii_rw_mixedInto_61 rfl
  · refine sm_ldc2 (31 : Int64) ii_rw_mixedInto_39 (List.mem_of_getElem? (i := 935) (by decide +kernel)) ?_
    refine sm_lload_n ii_rw_mixedInto_42 rfl ?_
    refine sm_lmul ii_rw_mixedInto_43 ?_
    refine sm_aload_n ii_rw_mixedInto_44 rfl ?_
    refine sm_getRs ii_rw_mixedInto_45 fl_rw_15 (fun r2 => ?_)
    refine sm_iload ii_rw_mixedInto_48 rfl ?_
    refine sm_ialds ii_rw_mixedInto_50 (fun x3 => ?_)
    refine sm_i2l ii_rw_mixedInto_51 ?_
    refine sm_ladd ii_rw_mixedInto_52 ?_
    refine sm_lstore_n [some (.ref a0), none, none, some (.long (((31 : Int64) * a3) + (Int32.toInt64 x3))), none, some (.int a5)] ii_rw_mixedInto_53 rfl rfl ?_
    refine sm_iinc (a5 + (1 : Int32)) [some (.ref a0), none, none, some (.long (((31 : Int64) * a3) + (Int32.toInt64 x3))), none, some (.int (a5 + (1 : Int32)))] ii_rw_mixedInto_54 rfl rfl rfl rfl ?_
    refine sm_goto 30 ii_rw_mixedInto_57 (by decide) ?_
    exact hself30 (a0) ((((31 : Int64) * a3) + (Int32.toInt64 x3))) ((a5 + (1 : Int32))) w
set_option maxHeartbeats 4000000 in
set_option maxRecDepth 100000 in
theorem ss_rw_mixedInto_30_f {E : Nat × (Nat → Int32)}  : ∀ (n : Nat) (a0 : Nat) (a3 : Int64) (a5 : Int32) (w : sm_Mem), sm_Sim E (mi_rw_mixedInto) 30 [some (.ref a0), none, none, some (.long a3), none, some (.int a5)] [] w (ff_rw_mixedInto_30_f  n a0 a3 a5 w)
  | 0, _, _, _, _ => fun _ _ h => by cases h
  | n + 1, a0, a3, a5, w => ss_rw_mixedInto_30_b  _ (ss_rw_mixedInto_30_f  n) a0 a3 a5 w
set_option maxHeartbeats 4000000 in
set_option maxRecDepth 100000 in
theorem ss_rw_mixedInto_30 {E : Nat × (Nat → Int32)}  (a0 : Nat) (a3 : Int64) (a5 : Int32) (w : sm_Mem) : sm_Sim E (mi_rw_mixedInto) 30 [some (.ref a0), none, none, some (.long a3), none, some (.int a5)] [] w (ff_rw_mixedInto_30  a0 a3 a5 w) := ss_rw_mixedInto_30_f  sm_N a0 a3 a5 w
noncomputable def ff_rw_mixedInto  (a0 : Nat) (a1 : Int64) (w : sm_Mem) : sm_R := (sm_cI (sm_rc a0 2 (ff_rw_isMissing (a0) w)) fun x4 w5 => (if x4 = (0 : Int32) then (Option.bind (sm_gI w5 a0 2 1) fun x6 => ff_rw_mixedInto_30 (a0) ((((31 : Int64) * a1) + (Int32.toInt64 x6))) ((0 : Int32)) w5) else (some (.long (((31 : Int64) * a1) - (1 : Int64)), w5))))
set_option maxHeartbeats 4000000 in
set_option maxRecDepth 100000 in
theorem ss_rw_mixedInto_0 {E : Nat × (Nat → Int32)}  (a0 : Nat) (a1 : Int64) (w : sm_Mem) : sm_Sim E (mi_rw_mixedInto) 0 [some (.ref a0), some (.long a1), none, none, none, none] [] w (ff_rw_mixedInto  a0 a1 w) := by
  unfold ff_rw_mixedInto
  refine sm_aload_n ii_rw_mixedInto_0 rfl ?_
  refine sm_dvI [] [] rfl ii_rw_mixedInto_1 ml_rw_36 (mf_rw_isMissing) (mv_rw_isMissing) (Nat.le_of_ble_eq_true rfl) rfl 2 rfl rfl rfl (mc_rw_isMissing (a0) w) (fun x4 w5 => ?_)
  refine sm_if_eq 15 ii_rw_mixedInto_4 (by decide) ?_ ?_
  · refine sm_ldc2 (31 : Int64) ii_rw_mixedInto_15 (List.mem_of_getElem? (i := 935) (by decide +kernel)) ?_
    refine sm_lload_n ii_rw_mixedInto_18 rfl ?_
    refine sm_lmul ii_rw_mixedInto_19 ?_
    refine sm_aload_n ii_rw_mixedInto_20 rfl ?_
    refine sm_getIs ii_rw_mixedInto_21 fl_rw_21 (fun x6 => ?_)
    refine sm_i2l ii_rw_mixedInto_24 ?_
    refine sm_ladd ii_rw_mixedInto_25 ?_
    refine sm_lstore_n [some (.ref a0), some (.long a1), none, some (.long (((31 : Int64) * a1) + (Int32.toInt64 x6))), none, none] ii_rw_mixedInto_26 rfl rfl ?_
    refine sm_iconst (0 : Int32) ii_rw_mixedInto_27 (by decide) ?_
    refine sm_istore [some (.ref a0), some (.long a1), none, some (.long (((31 : Int64) * a1) + (Int32.toInt64 x6))), none, some (.int (0 : Int32))] ii_rw_mixedInto_28 rfl rfl ?_
    refine sm_msk [true, false, false, true, false, true] [some (.ref a0), none, none, some (.long (((31 : Int64) * a1) + (Int32.toInt64 x6))), none, some (.int (0 : Int32))] rfl ?_
    exact ss_rw_mixedInto_30 (a0) ((((31 : Int64) * a1) + (Int32.toInt64 x6))) ((0 : Int32)) w5
  · refine sm_ldc2 (31 : Int64) ii_rw_mixedInto_7 (List.mem_of_getElem? (i := 935) (by decide +kernel)) ?_
    refine sm_lload_n ii_rw_mixedInto_10 rfl ?_
    refine sm_lmul ii_rw_mixedInto_11 ?_
    refine sm_lconst (1 : Int64) ii_rw_mixedInto_12 (by decide) ?_
    refine sm_lsub ii_rw_mixedInto_13 ?_
    exact sm_lret ii_rw_mixedInto_14 rfl
set_option maxHeartbeats 4000000 in
set_option maxRecDepth 100000 in
theorem mc_rw_mixedInto (a0 : Nat) (a1 : Int64) (w : sm_Mem) : sm_MC mi_rw_mixedInto [.ref a0, .long a1] w (ff_rw_mixedInto a0 a1 w) := sm_MC_of (0, fun _ => 0) (by decide +kernel) (by decide) rfl (Nat.le_of_ble_eq_true rfl) (ss_rw_mixedInto_0 a0 a1 w)
abbrev mi_ho_digest : sm_MI := (⟨"HerOrders", "digest", "()J"⟩, prog_1_method_45_code, 4, (some .long), 6)
set_option maxRecDepth 100000 in
theorem mf_ho_digest : sm_MF mi_ho_digest 0 := ⟨List.mem_of_getElem? (i := 921) (by decide +kernel), List.mem_of_getElem? (i := 124) (by decide +kernel), ⟨by decide, by decide⟩, by decide +kernel⟩
set_option maxRecDepth 100000 in
theorem mv_ho_digest : sm_MFV mi_ho_digest := ⟨List.mem_of_getElem? (i := 919) (by decide +kernel), List.mem_of_getElem? (i := 920) (by decide +kernel)⟩
set_option maxRecDepth 100000 in
theorem ii_ho_digest_0 : sm_D prog_1_method_45_code 0 3 3 (.ldc2_w 316) := ⟨by decide +kernel, rfl⟩
set_option maxRecDepth 100000 in
theorem ii_ho_digest_3 : sm_D prog_1_method_45_code 3 1 4 (.lstore_n 1) := ⟨by decide +kernel, rfl⟩
set_option maxRecDepth 100000 in
theorem ii_ho_digest_4 : sm_D prog_1_method_45_code 4 1 5 (.iconst 0) := ⟨by decide +kernel, rfl⟩
set_option maxRecDepth 100000 in
theorem ii_ho_digest_5 : sm_D prog_1_method_45_code 5 1 6 (.istore_n 3) := ⟨by decide +kernel, rfl⟩
set_option maxRecDepth 100000 in
theorem ii_ho_digest_6 : sm_D prog_1_method_45_code 6 1 7 (.iload_n 3) := ⟨by decide +kernel, rfl⟩
set_option maxRecDepth 100000 in
theorem ii_ho_digest_7 : sm_D prog_1_method_45_code 7 2 9 (.bipush 11) := ⟨by decide +kernel, rfl⟩
set_option maxRecDepth 100000 in
theorem ii_ho_digest_9 : sm_D prog_1_method_45_code 9 3 12 (.if_icmp .ge 22) := ⟨by decide +kernel, rfl⟩
set_option maxRecDepth 100000 in
theorem ii_ho_digest_12 : sm_D prog_1_method_45_code 12 3 15 (.ldc2_w 318) := ⟨by decide +kernel, rfl⟩
set_option maxRecDepth 100000 in
theorem ii_ho_digest_15 : sm_D prog_1_method_45_code 15 1 16 (.lload_n 1) := ⟨by decide +kernel, rfl⟩
set_option maxRecDepth 100000 in
theorem ii_ho_digest_16 : sm_D prog_1_method_45_code 16 1 17 (.lmul) := ⟨by decide +kernel, rfl⟩
set_option maxRecDepth 100000 in
theorem ii_ho_digest_17 : sm_D prog_1_method_45_code 17 1 18 (.aload_n 0) := ⟨by decide +kernel, rfl⟩
set_option maxRecDepth 100000 in
theorem ii_ho_digest_18 : sm_D prog_1_method_45_code 18 1 19 (.iload_n 3) := ⟨by decide +kernel, rfl⟩
set_option maxRecDepth 100000 in
theorem ii_ho_digest_19 : sm_D prog_1_method_45_code 19 3 22 (.invokevirtual 307) := ⟨by decide +kernel, rfl⟩
set_option maxRecDepth 100000 in
theorem ii_ho_digest_22 : sm_D prog_1_method_45_code 22 1 23 (.i2l) := ⟨by decide +kernel, rfl⟩
set_option maxRecDepth 100000 in
theorem ii_ho_digest_23 : sm_D prog_1_method_45_code 23 1 24 (.ladd) := ⟨by decide +kernel, rfl⟩
set_option maxRecDepth 100000 in
theorem ii_ho_digest_24 : sm_D prog_1_method_45_code 24 1 25 (.lstore_n 1) := ⟨by decide +kernel, rfl⟩
set_option maxRecDepth 100000 in
theorem ii_ho_digest_25 : sm_D prog_1_method_45_code 25 3 28 (.iinc 3 1) := ⟨by decide +kernel, rfl⟩
set_option maxRecDepth 100000 in
theorem ii_ho_digest_28 : sm_D prog_1_method_45_code 28 3 31 (.goto (-22)) := ⟨by decide +kernel, rfl⟩
set_option maxRecDepth 100000 in
theorem ii_ho_digest_31 : sm_D prog_1_method_45_code 31 1 32 (.aload_n 0) := ⟨by decide +kernel, rfl⟩
set_option maxRecDepth 100000 in
theorem ii_ho_digest_32 : sm_D prog_1_method_45_code 32 3 35 (.getfield 31) := ⟨by decide +kernel, rfl⟩
set_option maxRecDepth 100000 in
theorem ii_ho_digest_35 : sm_D prog_1_method_45_code 35 1 36 (.lload_n 1) := ⟨by decide +kernel, rfl⟩
set_option maxRecDepth 100000 in
theorem ii_ho_digest_36 : sm_D prog_1_method_45_code 36 3 39 (.invokevirtual 320) := ⟨by decide +kernel, rfl⟩
set_option maxRecDepth 100000 in
theorem ii_ho_digest_39 : sm_D prog_1_method_45_code 39 1 40 (.lstore_n 1) := ⟨by decide +kernel, rfl⟩
set_option maxRecDepth 100000 in
theorem ii_ho_digest_40 : sm_D prog_1_method_45_code 40 1 41 (.iconst 0) := ⟨by decide +kernel, rfl⟩
set_option maxRecDepth 100000 in
theorem ii_ho_digest_41 : sm_D prog_1_method_45_code 41 1 42 (.istore_n 3) := ⟨by decide +kernel, rfl⟩
set_option maxRecDepth 100000 in
theorem ii_ho_digest_42 : sm_D prog_1_method_45_code 42 1 43 (.iload_n 3) := ⟨by decide +kernel, rfl⟩
set_option maxRecDepth 100000 in
theorem ii_ho_digest_43 : sm_D prog_1_method_45_code 43 1 44 (.iconst 3) := ⟨by decide +kernel, rfl⟩
set_option maxRecDepth 100000 in
theorem ii_ho_digest_44 : sm_D prog_1_method_45_code 44 3 47 (.if_icmp .ge 42) := ⟨by decide +kernel, rfl⟩
set_option maxRecDepth 100000 in
theorem ii_ho_digest_47 : sm_D prog_1_method_45_code 47 3 50 (.ldc2_w 318) := ⟨by decide +kernel, rfl⟩
set_option maxRecDepth 100000 in
theorem ii_ho_digest_50 : sm_D prog_1_method_45_code 50 1 51 (.lload_n 1) := ⟨by decide +kernel, rfl⟩
set_option maxRecDepth 100000 in
theorem ii_ho_digest_51 : sm_D prog_1_method_45_code 51 1 52 (.lmul) := ⟨by decide +kernel, rfl⟩
set_option maxRecDepth 100000 in
theorem ii_ho_digest_52 : sm_D prog_1_method_45_code 52 1 53 (.aload_n 0) := ⟨by decide +kernel, rfl⟩
set_option maxRecDepth 100000 in
theorem ii_ho_digest_53 : sm_D prog_1_method_45_code 53 3 56 (.getfield 23) := ⟨by decide +kernel, rfl⟩
set_option maxRecDepth 100000 in
theorem ii_ho_digest_56 : sm_D prog_1_method_45_code 56 1 57 (.iload_n 3) := ⟨by decide +kernel, rfl⟩
set_option maxRecDepth 100000 in
theorem ii_ho_digest_57 : sm_D prog_1_method_45_code 57 1 58 (.aaload) := ⟨by decide +kernel, rfl⟩
set_option maxRecDepth 100000 in
theorem ii_ho_digest_58 : sm_D prog_1_method_45_code 58 3 61 (.invokevirtual 182) := ⟨by decide +kernel, rfl⟩
set_option maxRecDepth 100000 in
theorem ii_ho_digest_61 : sm_D prog_1_method_45_code 61 3 64 (.ifCond .eq 7) := ⟨by decide +kernel, rfl⟩
set_option maxRecDepth 100000 in
theorem ii_ho_digest_64 : sm_D prog_1_method_45_code 64 1 65 (.iconst (-1)) := ⟨by decide +kernel, rfl⟩
set_option maxRecDepth 100000 in
theorem ii_ho_digest_65 : sm_D prog_1_method_45_code 65 3 68 (.goto 12) := ⟨by decide +kernel, rfl⟩
set_option maxRecDepth 100000 in
theorem ii_ho_digest_68 : sm_D prog_1_method_45_code 68 1 69 (.aload_n 0) := ⟨by decide +kernel, rfl⟩
set_option maxRecDepth 100000 in
theorem ii_ho_digest_69 : sm_D prog_1_method_45_code 69 3 72 (.getfield 23) := ⟨by decide +kernel, rfl⟩
set_option maxRecDepth 100000 in
theorem ii_ho_digest_72 : sm_D prog_1_method_45_code 72 1 73 (.iload_n 3) := ⟨by decide +kernel, rfl⟩
set_option maxRecDepth 100000 in
theorem ii_ho_digest_73 : sm_D prog_1_method_45_code 73 1 74 (.aaload) := ⟨by decide +kernel, rfl⟩
set_option maxRecDepth 100000 in
theorem ii_ho_digest_74 : sm_D prog_1_method_45_code 74 3 77 (.getfield 114) := ⟨by decide +kernel, rfl⟩
set_option maxRecDepth 100000 in
theorem ii_ho_digest_77 : sm_D prog_1_method_45_code 77 1 78 (.i2l) := ⟨by decide +kernel, rfl⟩
set_option maxRecDepth 100000 in
theorem ii_ho_digest_78 : sm_D prog_1_method_45_code 78 1 79 (.ladd) := ⟨by decide +kernel, rfl⟩
set_option maxRecDepth 100000 in
theorem ii_ho_digest_79 : sm_D prog_1_method_45_code 79 1 80 (.lstore_n 1) := ⟨by decide +kernel, rfl⟩
set_option maxRecDepth 100000 in
theorem ii_ho_digest_80 : sm_D prog_1_method_45_code 80 3 83 (.iinc 3 1) := ⟨by decide +kernel, rfl⟩
set_option maxRecDepth 100000 in
theorem ii_ho_digest_83 : sm_D prog_1_method_45_code 83 3 86 (.goto (-41)) := ⟨by decide +kernel, rfl⟩
set_option maxRecDepth 100000 in
theorem ii_ho_digest_86 : sm_D prog_1_method_45_code 86 1 87 (.iconst 0) := ⟨by decide +kernel, rfl⟩
set_option maxRecDepth 100000 in
theorem ii_ho_digest_87 : sm_D prog_1_method_45_code 87 1 88 (.istore_n 3) := ⟨by decide +kernel, rfl⟩
set_option maxRecDepth 100000 in
theorem ii_ho_digest_88 : sm_D prog_1_method_45_code 88 1 89 (.iload_n 3) := ⟨by decide +kernel, rfl⟩
set_option maxRecDepth 100000 in
theorem ii_ho_digest_89 : sm_D prog_1_method_45_code 89 2 91 (.bipush 6) := ⟨by decide +kernel, rfl⟩
set_option maxRecDepth 100000 in
theorem ii_ho_digest_91 : sm_D prog_1_method_45_code 91 3 94 (.if_icmp .ge 20) := ⟨by decide +kernel, rfl⟩
set_option maxRecDepth 100000 in
theorem ii_ho_digest_94 : sm_D prog_1_method_45_code 94 1 95 (.aload_n 0) := ⟨by decide +kernel, rfl⟩
set_option maxRecDepth 100000 in
theorem ii_ho_digest_95 : sm_D prog_1_method_45_code 95 3 98 (.getfield 11) := ⟨by decide +kernel, rfl⟩
set_option maxRecDepth 100000 in
theorem ii_ho_digest_98 : sm_D prog_1_method_45_code 98 1 99 (.iload_n 3) := ⟨by decide +kernel, rfl⟩
set_option maxRecDepth 100000 in
theorem ii_ho_digest_99 : sm_D prog_1_method_45_code 99 1 100 (.aaload) := ⟨by decide +kernel, rfl⟩
set_option maxRecDepth 100000 in
theorem ii_ho_digest_100 : sm_D prog_1_method_45_code 100 1 101 (.lload_n 1) := ⟨by decide +kernel, rfl⟩
set_option maxRecDepth 100000 in
theorem ii_ho_digest_101 : sm_D prog_1_method_45_code 101 3 104 (.invokevirtual 324) := ⟨by decide +kernel, rfl⟩
set_option maxRecDepth 100000 in
theorem ii_ho_digest_104 : sm_D prog_1_method_45_code 104 1 105 (.lstore_n 1) := ⟨by decide +kernel, rfl⟩
set_option maxRecDepth 100000 in
theorem ii_ho_digest_105 : sm_D prog_1_method_45_code 105 3 108 (.iinc 3 1) := ⟨by decide +kernel, rfl⟩
set_option maxRecDepth 100000 in
theorem ii_ho_digest_108 : sm_D prog_1_method_45_code 108 3 111 (.goto (-20)) := ⟨by decide +kernel, rfl⟩
set_option maxRecDepth 100000 in
theorem ii_ho_digest_111 : sm_D prog_1_method_45_code 111 1 112 (.iconst 0) := ⟨by decide +kernel, rfl⟩
set_option maxRecDepth 100000 in
theorem ii_ho_digest_112 : sm_D prog_1_method_45_code 112 1 113 (.istore_n 3) := ⟨by decide +kernel, rfl⟩
set_option maxRecDepth 100000 in
theorem ii_ho_digest_113 : sm_D prog_1_method_45_code 113 1 114 (.iload_n 3) := ⟨by decide +kernel, rfl⟩
set_option maxRecDepth 100000 in
theorem ii_ho_digest_114 : sm_D prog_1_method_45_code 114 1 115 (.iconst 4) := ⟨by decide +kernel, rfl⟩
set_option maxRecDepth 100000 in
theorem ii_ho_digest_115 : sm_D prog_1_method_45_code 115 3 118 (.if_icmp .ge 20) := ⟨by decide +kernel, rfl⟩
set_option maxRecDepth 100000 in
theorem ii_ho_digest_118 : sm_D prog_1_method_45_code 118 1 119 (.aload_n 0) := ⟨by decide +kernel, rfl⟩
set_option maxRecDepth 100000 in
theorem ii_ho_digest_119 : sm_D prog_1_method_45_code 119 3 122 (.getfield 18) := ⟨by decide +kernel, rfl⟩
set_option maxRecDepth 100000 in
theorem ii_ho_digest_122 : sm_D prog_1_method_45_code 122 1 123 (.iload_n 3) := ⟨by decide +kernel, rfl⟩
set_option maxRecDepth 100000 in
theorem ii_ho_digest_123 : sm_D prog_1_method_45_code 123 1 124 (.aaload) := ⟨by decide +kernel, rfl⟩
set_option maxRecDepth 100000 in
theorem ii_ho_digest_124 : sm_D prog_1_method_45_code 124 1 125 (.lload_n 1) := ⟨by decide +kernel, rfl⟩
set_option maxRecDepth 100000 in
theorem ii_ho_digest_125 : sm_D prog_1_method_45_code 125 3 128 (.invokevirtual 324) := ⟨by decide +kernel, rfl⟩
set_option maxRecDepth 100000 in
theorem ii_ho_digest_128 : sm_D prog_1_method_45_code 128 1 129 (.lstore_n 1) := ⟨by decide +kernel, rfl⟩
set_option maxRecDepth 100000 in
theorem ii_ho_digest_129 : sm_D prog_1_method_45_code 129 3 132 (.iinc 3 1) := ⟨by decide +kernel, rfl⟩
set_option maxRecDepth 100000 in
theorem ii_ho_digest_132 : sm_D prog_1_method_45_code 132 3 135 (.goto (-19)) := ⟨by decide +kernel, rfl⟩
set_option maxRecDepth 100000 in
theorem ii_ho_digest_135 : sm_D prog_1_method_45_code 135 1 136 (.lload_n 1) := ⟨by decide +kernel, rfl⟩
set_option maxRecDepth 100000 in
theorem ii_ho_digest_136 : sm_D prog_1_method_45_code 136 1 137 (.lreturn) := ⟨by decide +kernel, rfl⟩
noncomputable def ff_ho_digest_113_b  (self113 : Int64 → Int32 → sm_Mem → sm_R) (a1 : Int64) (a3 : Int32) (w : sm_Mem) : sm_R := (if (4 : Int32) ≤ a3 then (some (.long a1, w)) else (Option.bind (sm_rr 14 a3) fun r1 => (sm_cL (sm_rc r1 2 (ff_rw_mixedInto (r1) (a1) w)) fun x2 w3 => self113 (x2) ((a3 + (1 : Int32))) w3)))
noncomputable def ff_ho_digest_113_f  : Nat → Int64 → Int32 → sm_Mem → sm_R
  | 0, _, _, _ => none
  | n + 1, a1, a3, w => ff_ho_digest_113_b  (ff_ho_digest_113_f  n) a1 a3 w
noncomputable def ff_ho_digest_113  (a1 : Int64) (a3 : Int32) (w : sm_Mem) : sm_R := ff_ho_digest_113_f  sm_N a1 a3 w
set_option maxHeartbeats 4000000 in
set_option maxRecDepth 100000 in
theorem ss_ho_digest_113_b {E : Nat × (Nat → Int32)}  (self113 : Int64 → Int32 → sm_Mem → sm_R) (hself113 : ∀ (a1 : Int64) (a3 : Int32) (w : sm_Mem), sm_Sim E (mi_ho_digest) 113 [some (.ref 0), some (.long a1), none, some (.int a3)] [] w (self113 a1 a3 w)) (a1 : Int64) (a3 : Int32) (w : sm_Mem) : sm_Sim E (mi_ho_digest) 113 [some (.ref 0), some (.long a1), none, some (.int a3)] [] w (ff_ho_digest_113_b  self113 a1 a3 w) := by
  unfold ff_ho_digest_113_b
  refine sm_iload_n ii_ho_digest_113 rfl ?_
  refine sm_iconst (4 : Int32) ii_ho_digest_114 (by decide) ?_
  refine sm_icmp_ge 135 ii_ho_digest_115 (by decide) ?_ ?_
  · refine sm_lload_n ii_ho_digest_135 rfl ?_
    exact sm_lret ii_ho_digest_136 rfl
  · refine sm_aload_n ii_ho_digest_118 rfl ?_
    refine sm_getR 14 ii_ho_digest_119 fl_ho_18 (k := 0) rfl ?_
    refine sm_iload_n ii_ho_digest_122 rfl ?_
    refine sm_aald ii_ho_digest_123 (fun r1 => ?_)
    refine sm_lload_n ii_ho_digest_124 rfl ?_
    refine sm_dvL [.long a1] [] rfl ii_ho_digest_125 ml_ho_324 (mf_rw_mixedInto) (mv_rw_mixedInto) (Nat.le_of_ble_eq_true rfl) rfl 2 rfl rfl rfl (mc_rw_mixedInto (r1) (a1) w) (fun x2 w3 => ?_)
    refine sm_lstore_n [some (.ref 0), some (.long x2), none, some (.int a3)] ii_ho_digest_128 rfl rfl ?_
    refine sm_iinc (a3 + (1 : Int32)) [some (.ref 0), some (.long x2), none, some (.int (a3 + (1 : Int32)))] ii_ho_digest_129 rfl rfl rfl rfl ?_
    refine sm_goto 113 ii_ho_digest_132 (by decide) ?_
    exact hself113 (x2) ((a3 + (1 : Int32))) w3
set_option maxHeartbeats 4000000 in
set_option maxRecDepth 100000 in
theorem ss_ho_digest_113_f {E : Nat × (Nat → Int32)}  : ∀ (n : Nat) (a1 : Int64) (a3 : Int32) (w : sm_Mem), sm_Sim E (mi_ho_digest) 113 [some (.ref 0), some (.long a1), none, some (.int a3)] [] w (ff_ho_digest_113_f  n a1 a3 w)
  | 0, _, _, _ => fun _ _ h => by cases h
  | n + 1, a1, a3, w => ss_ho_digest_113_b  _ (ss_ho_digest_113_f  n) a1 a3 w
set_option maxHeartbeats 4000000 in
set_option maxRecDepth 100000 in
theorem ss_ho_digest_113 {E : Nat × (Nat → Int32)}  (a1 : Int64) (a3 : Int32) (w : sm_Mem) : sm_Sim E (mi_ho_digest) 113 [some (.ref 0), some (.long a1), none, some (.int a3)] [] w (ff_ho_digest_113  a1 a3 w) := ss_ho_digest_113_f  sm_N a1 a3 w
noncomputable def ff_ho_digest_88_b  (self88 : Int64 → Int32 → sm_Mem → sm_R) (a1 : Int64) (a3 : Int32) (w : sm_Mem) : sm_R := (if (6 : Int32) ≤ a3 then ff_ho_digest_113 (a1) ((0 : Int32)) w else (Option.bind (sm_rr 1 a3) fun r4 => (sm_cL (sm_rc r4 2 (ff_rw_mixedInto (r4) (a1) w)) fun x5 w6 => self88 (x5) ((a3 + (1 : Int32))) w6)))
noncomputable def ff_ho_digest_88_f  : Nat → Int64 → Int32 → sm_Mem → sm_R
  | 0, _, _, _ => none
  | n + 1, a1, a3, w => ff_ho_digest_88_b  (ff_ho_digest_88_f  n) a1 a3 w
noncomputable def ff_ho_digest_88  (a1 : Int64) (a3 : Int32) (w : sm_Mem) : sm_R := ff_ho_digest_88_f  sm_N a1 a3 w
set_option maxHeartbeats 4000000 in
set_option maxRecDepth 100000 in
theorem ss_ho_digest_88_b {E : Nat × (Nat → Int32)}  (self88 : Int64 → Int32 → sm_Mem → sm_R) (hself88 : ∀ (a1 : Int64) (a3 : Int32) (w : sm_Mem), sm_Sim E (mi_ho_digest) 88 [some (.ref 0), some (.long a1), none, some (.int a3)] [] w (self88 a1 a3 w)) (a1 : Int64) (a3 : Int32) (w : sm_Mem) : sm_Sim E (mi_ho_digest) 88 [some (.ref 0), some (.long a1), none, some (.int a3)] [] w (ff_ho_digest_88_b  self88 a1 a3 w) := by
  unfold ff_ho_digest_88_b
  refine sm_iload_n ii_ho_digest_88 rfl ?_
  refine sm_bipush (6 : Int32) ii_ho_digest_89 (by decide) ?_
  refine sm_icmp_ge 111 ii_ho_digest_91 (by decide) ?_ ?_
  · refine sm_iconst (0 : Int32) ii_ho_digest_111 (by decide) ?_
    refine sm_istore_n [some (.ref 0), some (.long a1), none, some (.int (0 : Int32))] ii_ho_digest_112 rfl rfl ?_
    exact ss_ho_digest_113 (a1) ((0 : Int32)) w
  · refine sm_aload_n ii_ho_digest_94 rfl ?_
    refine sm_getR 1 ii_ho_digest_95 fl_ho_11 (k := 0) rfl ?_
    refine sm_iload_n ii_ho_digest_98 rfl ?_
    refine sm_aald ii_ho_digest_99 (fun r4 => ?_)
    refine sm_lload_n ii_ho_digest_100 rfl ?_
    refine sm_dvL [.long a1] [] rfl ii_ho_digest_101 ml_ho_324 (mf_rw_mixedInto) (mv_rw_mixedInto) (Nat.le_of_ble_eq_true rfl) rfl 2 rfl rfl rfl (mc_rw_mixedInto (r4) (a1) w) (fun x5 w6 => ?_)
    refine sm_lstore_n [some (.ref 0), some (.long x5), none, some (.int a3)] ii_ho_digest_104 rfl rfl ?_
    refine sm_iinc (a3 + (1 : Int32)) [some (.ref 0), some (.long x5), none, some (.int (a3 + (1 : Int32)))] ii_ho_digest_105 rfl rfl rfl rfl ?_
    refine sm_goto 88 ii_ho_digest_108 (by decide) ?_
    exact hself88 (x5) ((a3 + (1 : Int32))) w6
set_option maxHeartbeats 4000000 in
set_option maxRecDepth 100000 in
theorem ss_ho_digest_88_f {E : Nat × (Nat → Int32)}  : ∀ (n : Nat) (a1 : Int64) (a3 : Int32) (w : sm_Mem), sm_Sim E (mi_ho_digest) 88 [some (.ref 0), some (.long a1), none, some (.int a3)] [] w (ff_ho_digest_88_f  n a1 a3 w)
  | 0, _, _, _ => fun _ _ h => by cases h
  | n + 1, a1, a3, w => ss_ho_digest_88_b  _ (ss_ho_digest_88_f  n) a1 a3 w
set_option maxHeartbeats 4000000 in
set_option maxRecDepth 100000 in
theorem ss_ho_digest_88 {E : Nat × (Nat → Int32)}  (a1 : Int64) (a3 : Int32) (w : sm_Mem) : sm_Sim E (mi_ho_digest) 88 [some (.ref 0), some (.long a1), none, some (.int a3)] [] w (ff_ho_digest_88  a1 a3 w) := ss_ho_digest_88_f  sm_N a1 a3 w
noncomputable def ff_ho_digest_77 (self42 : Int64 → Int32 → sm_Mem → sm_R) (a3 : Int32) (b0 : Int64) (b1 : Int32) (w : sm_Mem) : sm_R := self42 ((b0 + (Int32.toInt64 b1))) ((a3 + (1 : Int32))) w
set_option maxHeartbeats 4000000 in
set_option maxRecDepth 100000 in
theorem ss_ho_digest_77 {E : Nat × (Nat → Int32)} (self42 : Int64 → Int32 → sm_Mem → sm_R) (hself42 : ∀ (a1 : Int64) (a3 : Int32) (w : sm_Mem), sm_Sim E (mi_ho_digest) 42 [some (.ref 0), some (.long a1), none, some (.int a3)] [] w (self42 a1 a3 w)) (a3 : Int32) (b0 : Int64) (b1 : Int32) (w : sm_Mem) : sm_Sim E (mi_ho_digest) 77 [some (.ref 0), none, none, some (.int a3)] [.int b1, .long b0] w (ff_ho_digest_77 self42 a3 b0 b1 w) := by
  unfold ff_ho_digest_77
  refine sm_i2l ii_ho_digest_77 ?_
  refine sm_ladd ii_ho_digest_78 ?_
  refine sm_lstore_n [some (.ref 0), some (.long (b0 + (Int32.toInt64 b1))), none, some (.int a3)] ii_ho_digest_79 rfl rfl ?_
  refine sm_iinc (a3 + (1 : Int32)) [some (.ref 0), some (.long (b0 + (Int32.toInt64 b1))), none, some (.int (a3 + (1 : Int32)))] ii_ho_digest_80 rfl rfl rfl rfl ?_
  refine sm_goto 42 ii_ho_digest_83 (by decide) ?_
  exact hself42 ((b0 + (Int32.toInt64 b1))) ((a3 + (1 : Int32))) w
noncomputable def ff_ho_digest_42_b  (self42 : Int64 → Int32 → sm_Mem → sm_R) (a1 : Int64) (a3 : Int32) (w : sm_Mem) : sm_R := (if (3 : Int32) ≤ a3 then ff_ho_digest_88 (a1) ((0 : Int32)) w else (Option.bind (sm_rr 23 a3) fun r7 => (sm_cI (sm_rc r7 0 (ff_de_isMissing (r7) w)) fun x8 w9 => (if x8 = (0 : Int32) then (Option.bind (sm_rr 23 a3) fun r10 => (Option.bind (sm_gI w9 r10 0 3) fun x11 => ff_ho_digest_77 self42 (a3) (((31 : Int64) * a1)) (x11) w9)) else ff_ho_digest_77 self42 (a3) (((31 : Int64) * a1)) ((-1 : Int32)) w9))))
noncomputable def ff_ho_digest_42_f  : Nat → Int64 → Int32 → sm_Mem → sm_R
  | 0, _, _, _ => none
  | n + 1, a1, a3, w => ff_ho_digest_42_b  (ff_ho_digest_42_f  n) a1 a3 w
noncomputable def ff_ho_digest_42  (a1 : Int64) (a3 : Int32) (w : sm_Mem) : sm_R := ff_ho_digest_42_f  sm_N a1 a3 w
set_option maxHeartbeats 4000000 in
set_option maxRecDepth 100000 in
theorem ss_ho_digest_42_b {E : Nat × (Nat → Int32)}  (self42 : Int64 → Int32 → sm_Mem → sm_R) (hself42 : ∀ (a1 : Int64) (a3 : Int32) (w : sm_Mem), sm_Sim E (mi_ho_digest) 42 [some (.ref 0), some (.long a1), none, some (.int a3)] [] w (self42 a1 a3 w)) (a1 : Int64) (a3 : Int32) (w : sm_Mem) : sm_Sim E (mi_ho_digest) 42 [some (.ref 0), some (.long a1), none, some (.int a3)] [] w (ff_ho_digest_42_b  self42 a1 a3 w) := by
  unfold ff_ho_digest_42_b
  refine sm_iload_n ii_ho_digest_42 rfl ?_
  refine sm_iconst (3 : Int32) ii_ho_digest_43 (by decide) ?_
  refine sm_icmp_ge 86 ii_ho_digest_44 (by decide) ?_ ?_
  · refine sm_iconst (0 : Int32) ii_ho_digest_86 (by decide) ?_
    refine sm_istore_n [some (.ref 0), some (.long a1), none, some (.int (0 : Int32))] ii_ho_digest_87 rfl rfl ?_
    exact ss_ho_digest_88 (a1) ((0 : Int32)) w
  · refine sm_ldc2 (31 : Int64) ii_ho_digest_47 (List.mem_of_getElem? (i := 923) (by decide +kernel)) ?_
    refine sm_lload_n ii_ho_digest_50 rfl ?_
    refine sm_lmul ii_ho_digest_51 ?_
    refine sm_aload_n ii_ho_digest_52 rfl ?_
    refine sm_getR 23 ii_ho_digest_53 fl_ho_23 (k := 0) rfl ?_
    refine sm_iload_n ii_ho_digest_56 rfl ?_
    refine sm_aald ii_ho_digest_57 (fun r7 => ?_)
    refine sm_dvI [] [.long ((31 : Int64) * a1)] rfl ii_ho_digest_58 ml_ho_182 (mf_de_isMissing) (mv_de_isMissing) (Nat.le_of_ble_eq_true rfl) rfl 0 rfl rfl rfl (mc_de_isMissing (r7) w) (fun x8 w9 => ?_)
    refine sm_if_eq 68 ii_ho_digest_61 (by decide) ?_ ?_
    · refine sm_aload_n ii_ho_digest_68 rfl ?_
      refine sm_getR 23 ii_ho_digest_69 fl_ho_23 (k := 0) rfl ?_
      refine sm_iload_n ii_ho_digest_72 rfl ?_
      refine sm_aald ii_ho_digest_73 (fun r10 => ?_)
      refine sm_getIs ii_ho_digest_74 fl_ho_114 (fun x11 => ?_)
      refine sm_msk [true, false, false, true] [some (.ref 0), none, none, some (.int a3)] rfl ?_
      exact ss_ho_digest_77 self42 hself42 (a3) (((31 : Int64) * a1)) (x11) w9
    · refine sm_iconst (-1 : Int32) ii_ho_digest_64 (by decide) ?_
      refine sm_goto 77 ii_ho_digest_65 (by decide) ?_
      refine sm_msk [true, false, false, true] [some (.ref 0), none, none, some (.int a3)] rfl ?_
      exact ss_ho_digest_77 self42 hself42 (a3) (((31 : Int64) * a1)) ((-1 : Int32)) w9
set_option maxHeartbeats 4000000 in
set_option maxRecDepth 100000 in
theorem ss_ho_digest_42_f {E : Nat × (Nat → Int32)}  : ∀ (n : Nat) (a1 : Int64) (a3 : Int32) (w : sm_Mem), sm_Sim E (mi_ho_digest) 42 [some (.ref 0), some (.long a1), none, some (.int a3)] [] w (ff_ho_digest_42_f  n a1 a3 w)
  | 0, _, _, _ => fun _ _ h => by cases h
  | n + 1, a1, a3, w => ss_ho_digest_42_b  _ (ss_ho_digest_42_f  n) a1 a3 w
set_option maxHeartbeats 4000000 in
set_option maxRecDepth 100000 in
theorem ss_ho_digest_42 {E : Nat × (Nat → Int32)}  (a1 : Int64) (a3 : Int32) (w : sm_Mem) : sm_Sim E (mi_ho_digest) 42 [some (.ref 0), some (.long a1), none, some (.int a3)] [] w (ff_ho_digest_42  a1 a3 w) := ss_ho_digest_42_f  sm_N a1 a3 w
noncomputable def ff_ho_digest_6_b  (self6 : Int64 → Int32 → sm_Mem → sm_R) (a1 : Int64) (a3 : Int32) (w : sm_Mem) : sm_R := (if (11 : Int32) ≤ a3 then (sm_cL (ff_hs_mixedInto (a1) w) fun x12 w13 => ff_ho_digest_42 (x12) ((0 : Int32)) w13) else (sm_cI (ff_ho_tally (a3) w) fun x14 w15 => self6 ((((31 : Int64) * a1) + (Int32.toInt64 x14))) ((a3 + (1 : Int32))) w15))
noncomputable def ff_ho_digest_6_f  : Nat → Int64 → Int32 → sm_Mem → sm_R
  | 0, _, _, _ => none
  | n + 1, a1, a3, w => ff_ho_digest_6_b  (ff_ho_digest_6_f  n) a1 a3 w
noncomputable def ff_ho_digest_6  (a1 : Int64) (a3 : Int32) (w : sm_Mem) : sm_R := ff_ho_digest_6_f  sm_N a1 a3 w
set_option maxHeartbeats 4000000 in
set_option maxRecDepth 100000 in
theorem ss_ho_digest_6_b {E : Nat × (Nat → Int32)}  (self6 : Int64 → Int32 → sm_Mem → sm_R) (hself6 : ∀ (a1 : Int64) (a3 : Int32) (w : sm_Mem), sm_Sim E (mi_ho_digest) 6 [some (.ref 0), some (.long a1), none, some (.int a3)] [] w (self6 a1 a3 w)) (a1 : Int64) (a3 : Int32) (w : sm_Mem) : sm_Sim E (mi_ho_digest) 6 [some (.ref 0), some (.long a1), none, some (.int a3)] [] w (ff_ho_digest_6_b  self6 a1 a3 w) := by
  unfold ff_ho_digest_6_b
  refine sm_iload_n ii_ho_digest_6 rfl ?_
  refine sm_bipush (11 : Int32) ii_ho_digest_7 (by decide) ?_
  refine sm_icmp_ge 31 ii_ho_digest_9 (by decide) ?_ ?_
  · refine sm_aload_n ii_ho_digest_31 rfl ?_
    refine sm_getR 36 ii_ho_digest_32 fl_ho_31 (k := 0) rfl ?_
    refine sm_lload_n ii_ho_digest_35 rfl ?_
    refine sm_cvL [.long a1] [] rfl ii_ho_digest_36 ml_ho_320 (mf_hs_mixedInto) (mv_hs_mixedInto) (Nat.le_of_ble_eq_true rfl) rfl 1 rfl rfl rfl rfl (mc_hs_mixedInto (a1) w) (fun x12 w13 => ?_)
    refine sm_lstore_n [some (.ref 0), some (.long x12), none, some (.int a3)] ii_ho_digest_39 rfl rfl ?_
    refine sm_iconst (0 : Int32) ii_ho_digest_40 (by decide) ?_
    refine sm_istore_n [some (.ref 0), some (.long x12), none, some (.int (0 : Int32))] ii_ho_digest_41 rfl rfl ?_
    exact ss_ho_digest_42 (x12) ((0 : Int32)) w13
  · refine sm_ldc2 (31 : Int64) ii_ho_digest_12 (List.mem_of_getElem? (i := 923) (by decide +kernel)) ?_
    refine sm_lload_n ii_ho_digest_15 rfl ?_
    refine sm_lmul ii_ho_digest_16 ?_
    refine sm_aload_n ii_ho_digest_17 rfl ?_
    refine sm_iload_n ii_ho_digest_18 rfl ?_
    refine sm_cvI [.int a3] [.long ((31 : Int64) * a1)] rfl ii_ho_digest_19 ml_ho_307 (mf_ho_tally) (mv_ho_tally) (Nat.le_of_ble_eq_true rfl) rfl 6 rfl rfl rfl rfl (mc_ho_tally (a3) w) (fun x14 w15 => ?_)
    refine sm_i2l ii_ho_digest_22 ?_
    refine sm_ladd ii_ho_digest_23 ?_
    refine sm_lstore_n [some (.ref 0), some (.long (((31 : Int64) * a1) + (Int32.toInt64 x14))), none, some (.int a3)] ii_ho_digest_24 rfl rfl ?_
    refine sm_iinc (a3 + (1 : Int32)) [some (.ref 0), some (.long (((31 : Int64) * a1) + (Int32.toInt64 x14))), none, some (.int (a3 + (1 : Int32)))] ii_ho_digest_25 rfl rfl rfl rfl ?_
    refine sm_goto 6 ii_ho_digest_28 (by decide) ?_
    exact hself6 ((((31 : Int64) * a1) + (Int32.toInt64 x14))) ((a3 + (1 : Int32))) w15
set_option maxHeartbeats 4000000 in
set_option maxRecDepth 100000 in
theorem ss_ho_digest_6_f {E : Nat × (Nat → Int32)}  : ∀ (n : Nat) (a1 : Int64) (a3 : Int32) (w : sm_Mem), sm_Sim E (mi_ho_digest) 6 [some (.ref 0), some (.long a1), none, some (.int a3)] [] w (ff_ho_digest_6_f  n a1 a3 w)
  | 0, _, _, _ => fun _ _ h => by cases h
  | n + 1, a1, a3, w => ss_ho_digest_6_b  _ (ss_ho_digest_6_f  n) a1 a3 w
set_option maxHeartbeats 4000000 in
set_option maxRecDepth 100000 in
theorem ss_ho_digest_6 {E : Nat × (Nat → Int32)}  (a1 : Int64) (a3 : Int32) (w : sm_Mem) : sm_Sim E (mi_ho_digest) 6 [some (.ref 0), some (.long a1), none, some (.int a3)] [] w (ff_ho_digest_6  a1 a3 w) := ss_ho_digest_6_f  sm_N a1 a3 w
noncomputable def ff_ho_digest   (w : sm_Mem) : sm_R := ff_ho_digest_6 ((17 : Int64)) ((0 : Int32)) w
set_option maxHeartbeats 4000000 in
set_option maxRecDepth 100000 in
theorem ss_ho_digest_0 {E : Nat × (Nat → Int32)}   (w : sm_Mem) : sm_Sim E (mi_ho_digest) 0 [some (.ref 0), none, none, none] [] w (ff_ho_digest   w) := by
  unfold ff_ho_digest
  refine sm_ldc2 (17 : Int64) ii_ho_digest_0 (List.mem_of_getElem? (i := 922) (by decide +kernel)) ?_
  refine sm_lstore_n [some (.ref 0), some (.long (17 : Int64)), none, none] ii_ho_digest_3 rfl rfl ?_
  refine sm_iconst (0 : Int32) ii_ho_digest_4 (by decide) ?_
  refine sm_istore_n [some (.ref 0), some (.long (17 : Int64)), none, some (.int (0 : Int32))] ii_ho_digest_5 rfl rfl ?_
  exact ss_ho_digest_6 ((17 : Int64)) ((0 : Int32)) w
set_option maxHeartbeats 4000000 in
set_option maxRecDepth 100000 in
theorem mc_ho_digest  (w : sm_Mem) : sm_MC mi_ho_digest [.ref 0] w (ff_ho_digest  w) := sm_MC_of (0, fun _ => 0) (by decide +kernel) (by decide) rfl (Nat.le_of_ble_eq_true rfl) (ss_ho_digest_0  w)
abbrev mi_mo_digest : sm_MI := (⟨"HerOrdersModel", "digest", "()J"⟩, prog_9_method_106_code, 5, (some .long), 7)
set_option maxRecDepth 100000 in
theorem mf_mo_digest : sm_MF mi_mo_digest 0 := ⟨List.mem_of_getElem? (i := 1454) (by decide +kernel), List.mem_of_getElem? (i := 132) (by decide +kernel), ⟨by decide, by decide⟩, by decide +kernel⟩
set_option maxRecDepth 100000 in
theorem mv_mo_digest : sm_MFV mi_mo_digest := ⟨List.mem_of_getElem? (i := 1452) (by decide +kernel), List.mem_of_getElem? (i := 1453) (by decide +kernel)⟩
set_option maxRecDepth 100000 in
theorem ii_mo_digest_0 : sm_D prog_9_method_106_code 0 3 3 (.ldc2_w 325) := ⟨by decide +kernel, rfl⟩
set_option maxRecDepth 100000 in
theorem ii_mo_digest_3 : sm_D prog_9_method_106_code 3 1 4 (.lstore_n 1) := ⟨by decide +kernel, rfl⟩
set_option maxRecDepth 100000 in
theorem ii_mo_digest_4 : sm_D prog_9_method_106_code 4 1 5 (.iconst 0) := ⟨by decide +kernel, rfl⟩
set_option maxRecDepth 100000 in
theorem ii_mo_digest_5 : sm_D prog_9_method_106_code 5 1 6 (.istore_n 3) := ⟨by decide +kernel, rfl⟩
set_option maxRecDepth 100000 in
theorem ii_mo_digest_6 : sm_D prog_9_method_106_code 6 1 7 (.iload_n 3) := ⟨by decide +kernel, rfl⟩
set_option maxRecDepth 100000 in
theorem ii_mo_digest_7 : sm_D prog_9_method_106_code 7 2 9 (.bipush 11) := ⟨by decide +kernel, rfl⟩
set_option maxRecDepth 100000 in
theorem ii_mo_digest_9 : sm_D prog_9_method_106_code 9 3 12 (.if_icmp .ge 22) := ⟨by decide +kernel, rfl⟩
set_option maxRecDepth 100000 in
theorem ii_mo_digest_12 : sm_D prog_9_method_106_code 12 3 15 (.ldc2_w 327) := ⟨by decide +kernel, rfl⟩
set_option maxRecDepth 100000 in
theorem ii_mo_digest_15 : sm_D prog_9_method_106_code 15 1 16 (.lload_n 1) := ⟨by decide +kernel, rfl⟩
set_option maxRecDepth 100000 in
theorem ii_mo_digest_16 : sm_D prog_9_method_106_code 16 1 17 (.lmul) := ⟨by decide +kernel, rfl⟩
set_option maxRecDepth 100000 in
theorem ii_mo_digest_17 : sm_D prog_9_method_106_code 17 1 18 (.aload_n 0) := ⟨by decide +kernel, rfl⟩
set_option maxRecDepth 100000 in
theorem ii_mo_digest_18 : sm_D prog_9_method_106_code 18 1 19 (.iload_n 3) := ⟨by decide +kernel, rfl⟩
set_option maxRecDepth 100000 in
theorem ii_mo_digest_19 : sm_D prog_9_method_106_code 19 3 22 (.invokevirtual 322) := ⟨by decide +kernel, rfl⟩
set_option maxRecDepth 100000 in
theorem ii_mo_digest_22 : sm_D prog_9_method_106_code 22 1 23 (.i2l) := ⟨by decide +kernel, rfl⟩
set_option maxRecDepth 100000 in
theorem ii_mo_digest_23 : sm_D prog_9_method_106_code 23 1 24 (.ladd) := ⟨by decide +kernel, rfl⟩
set_option maxRecDepth 100000 in
theorem ii_mo_digest_24 : sm_D prog_9_method_106_code 24 1 25 (.lstore_n 1) := ⟨by decide +kernel, rfl⟩
set_option maxRecDepth 100000 in
theorem ii_mo_digest_25 : sm_D prog_9_method_106_code 25 3 28 (.iinc 3 1) := ⟨by decide +kernel, rfl⟩
set_option maxRecDepth 100000 in
theorem ii_mo_digest_28 : sm_D prog_9_method_106_code 28 3 31 (.goto (-22)) := ⟨by decide +kernel, rfl⟩
set_option maxRecDepth 100000 in
theorem ii_mo_digest_31 : sm_D prog_9_method_106_code 31 1 32 (.iconst 0) := ⟨by decide +kernel, rfl⟩
set_option maxRecDepth 100000 in
theorem ii_mo_digest_32 : sm_D prog_9_method_106_code 32 1 33 (.istore_n 3) := ⟨by decide +kernel, rfl⟩
set_option maxRecDepth 100000 in
theorem ii_mo_digest_33 : sm_D prog_9_method_106_code 33 1 34 (.iload_n 3) := ⟨by decide +kernel, rfl⟩
set_option maxRecDepth 100000 in
theorem ii_mo_digest_34 : sm_D prog_9_method_106_code 34 1 35 (.aload_n 0) := ⟨by decide +kernel, rfl⟩
set_option maxRecDepth 100000 in
theorem ii_mo_digest_35 : sm_D prog_9_method_106_code 35 3 38 (.getfield 7) := ⟨by decide +kernel, rfl⟩
set_option maxRecDepth 100000 in
theorem ii_mo_digest_38 : sm_D prog_9_method_106_code 38 1 39 (.iconst 2) := ⟨by decide +kernel, rfl⟩
set_option maxRecDepth 100000 in
theorem ii_mo_digest_39 : sm_D prog_9_method_106_code 39 1 40 (.iaload) := ⟨by decide +kernel, rfl⟩
set_option maxRecDepth 100000 in
theorem ii_mo_digest_40 : sm_D prog_9_method_106_code 40 3 43 (.if_icmp .ge 42) := ⟨by decide +kernel, rfl⟩
set_option maxRecDepth 100000 in
theorem ii_mo_digest_43 : sm_D prog_9_method_106_code 43 3 46 (.ldc2_w 327) := ⟨by decide +kernel, rfl⟩
set_option maxRecDepth 100000 in
theorem ii_mo_digest_46 : sm_D prog_9_method_106_code 46 1 47 (.lload_n 1) := ⟨by decide +kernel, rfl⟩
set_option maxRecDepth 100000 in
theorem ii_mo_digest_47 : sm_D prog_9_method_106_code 47 1 48 (.lmul) := ⟨by decide +kernel, rfl⟩
set_option maxRecDepth 100000 in
theorem ii_mo_digest_48 : sm_D prog_9_method_106_code 48 1 49 (.aload_n 0) := ⟨by decide +kernel, rfl⟩
set_option maxRecDepth 100000 in
theorem ii_mo_digest_49 : sm_D prog_9_method_106_code 49 3 52 (.getfield 7) := ⟨by decide +kernel, rfl⟩
set_option maxRecDepth 100000 in
theorem ii_mo_digest_52 : sm_D prog_9_method_106_code 52 1 53 (.iconst 4) := ⟨by decide +kernel, rfl⟩
set_option maxRecDepth 100000 in
theorem ii_mo_digest_53 : sm_D prog_9_method_106_code 53 1 54 (.iload_n 3) := ⟨by decide +kernel, rfl⟩
set_option maxRecDepth 100000 in
theorem ii_mo_digest_54 : sm_D prog_9_method_106_code 54 1 55 (.iadd) := ⟨by decide +kernel, rfl⟩
set_option maxRecDepth 100000 in
theorem ii_mo_digest_55 : sm_D prog_9_method_106_code 55 1 56 (.iaload) := ⟨by decide +kernel, rfl⟩
set_option maxRecDepth 100000 in
theorem ii_mo_digest_56 : sm_D prog_9_method_106_code 56 1 57 (.i2l) := ⟨by decide +kernel, rfl⟩
set_option maxRecDepth 100000 in
theorem ii_mo_digest_57 : sm_D prog_9_method_106_code 57 1 58 (.ladd) := ⟨by decide +kernel, rfl⟩
set_option maxRecDepth 100000 in
theorem ii_mo_digest_58 : sm_D prog_9_method_106_code 58 1 59 (.lstore_n 1) := ⟨by decide +kernel, rfl⟩
set_option maxRecDepth 100000 in
theorem ii_mo_digest_59 : sm_D prog_9_method_106_code 59 3 62 (.ldc2_w 327) := ⟨by decide +kernel, rfl⟩
set_option maxRecDepth 100000 in
theorem ii_mo_digest_62 : sm_D prog_9_method_106_code 62 1 63 (.lload_n 1) := ⟨by decide +kernel, rfl⟩
set_option maxRecDepth 100000 in
theorem ii_mo_digest_63 : sm_D prog_9_method_106_code 63 1 64 (.lmul) := ⟨by decide +kernel, rfl⟩
set_option maxRecDepth 100000 in
theorem ii_mo_digest_64 : sm_D prog_9_method_106_code 64 1 65 (.aload_n 0) := ⟨by decide +kernel, rfl⟩
set_option maxRecDepth 100000 in
theorem ii_mo_digest_65 : sm_D prog_9_method_106_code 65 3 68 (.getfield 7) := ⟨by decide +kernel, rfl⟩
set_option maxRecDepth 100000 in
theorem ii_mo_digest_68 : sm_D prog_9_method_106_code 68 2 70 (.bipush 12) := ⟨by decide +kernel, rfl⟩
set_option maxRecDepth 100000 in
theorem ii_mo_digest_70 : sm_D prog_9_method_106_code 70 1 71 (.iload_n 3) := ⟨by decide +kernel, rfl⟩
set_option maxRecDepth 100000 in
theorem ii_mo_digest_71 : sm_D prog_9_method_106_code 71 1 72 (.iadd) := ⟨by decide +kernel, rfl⟩
set_option maxRecDepth 100000 in
theorem ii_mo_digest_72 : sm_D prog_9_method_106_code 72 1 73 (.iaload) := ⟨by decide +kernel, rfl⟩
set_option maxRecDepth 100000 in
theorem ii_mo_digest_73 : sm_D prog_9_method_106_code 73 1 74 (.i2l) := ⟨by decide +kernel, rfl⟩
set_option maxRecDepth 100000 in
theorem ii_mo_digest_74 : sm_D prog_9_method_106_code 74 1 75 (.ladd) := ⟨by decide +kernel, rfl⟩
set_option maxRecDepth 100000 in
theorem ii_mo_digest_75 : sm_D prog_9_method_106_code 75 1 76 (.lstore_n 1) := ⟨by decide +kernel, rfl⟩
set_option maxRecDepth 100000 in
theorem ii_mo_digest_76 : sm_D prog_9_method_106_code 76 3 79 (.iinc 3 1) := ⟨by decide +kernel, rfl⟩
set_option maxRecDepth 100000 in
theorem ii_mo_digest_79 : sm_D prog_9_method_106_code 79 3 82 (.goto (-46)) := ⟨by decide +kernel, rfl⟩
set_option maxRecDepth 100000 in
theorem ii_mo_digest_82 : sm_D prog_9_method_106_code 82 1 83 (.iconst 0) := ⟨by decide +kernel, rfl⟩
set_option maxRecDepth 100000 in
theorem ii_mo_digest_83 : sm_D prog_9_method_106_code 83 1 84 (.istore_n 3) := ⟨by decide +kernel, rfl⟩
set_option maxRecDepth 100000 in
theorem ii_mo_digest_84 : sm_D prog_9_method_106_code 84 1 85 (.iload_n 3) := ⟨by decide +kernel, rfl⟩
set_option maxRecDepth 100000 in
theorem ii_mo_digest_85 : sm_D prog_9_method_106_code 85 2 87 (.bipush 6) := ⟨by decide +kernel, rfl⟩
set_option maxRecDepth 100000 in
theorem ii_mo_digest_87 : sm_D prog_9_method_106_code 87 1 88 (.aload_n 0) := ⟨by decide +kernel, rfl⟩
set_option maxRecDepth 100000 in
theorem ii_mo_digest_88 : sm_D prog_9_method_106_code 88 3 91 (.getfield 135) := ⟨by decide +kernel, rfl⟩
set_option maxRecDepth 100000 in
theorem ii_mo_digest_91 : sm_D prog_9_method_106_code 91 1 92 (.imul) := ⟨by decide +kernel, rfl⟩
set_option maxRecDepth 100000 in
theorem ii_mo_digest_92 : sm_D prog_9_method_106_code 92 3 95 (.if_icmp .ge 29) := ⟨by decide +kernel, rfl⟩
set_option maxRecDepth 100000 in
theorem ii_mo_digest_95 : sm_D prog_9_method_106_code 95 3 98 (.ldc2_w 327) := ⟨by decide +kernel, rfl⟩
set_option maxRecDepth 100000 in
theorem ii_mo_digest_98 : sm_D prog_9_method_106_code 98 1 99 (.lload_n 1) := ⟨by decide +kernel, rfl⟩
set_option maxRecDepth 100000 in
theorem ii_mo_digest_99 : sm_D prog_9_method_106_code 99 1 100 (.lmul) := ⟨by decide +kernel, rfl⟩
set_option maxRecDepth 100000 in
theorem ii_mo_digest_100 : sm_D prog_9_method_106_code 100 1 101 (.aload_n 0) := ⟨by decide +kernel, rfl⟩
set_option maxRecDepth 100000 in
theorem ii_mo_digest_101 : sm_D prog_9_method_106_code 101 1 102 (.iload_n 3) := ⟨by decide +kernel, rfl⟩
set_option maxRecDepth 100000 in
theorem ii_mo_digest_102 : sm_D prog_9_method_106_code 102 2 104 (.bipush 6) := ⟨by decide +kernel, rfl⟩
set_option maxRecDepth 100000 in
theorem ii_mo_digest_104 : sm_D prog_9_method_106_code 104 1 105 (.idiv) := ⟨by decide +kernel, rfl⟩
set_option maxRecDepth 100000 in
theorem ii_mo_digest_105 : sm_D prog_9_method_106_code 105 1 106 (.iload_n 3) := ⟨by decide +kernel, rfl⟩
set_option maxRecDepth 100000 in
theorem ii_mo_digest_106 : sm_D prog_9_method_106_code 106 2 108 (.bipush 6) := ⟨by decide +kernel, rfl⟩
set_option maxRecDepth 100000 in
theorem ii_mo_digest_108 : sm_D prog_9_method_106_code 108 1 109 (.irem) := ⟨by decide +kernel, rfl⟩
set_option maxRecDepth 100000 in
theorem ii_mo_digest_109 : sm_D prog_9_method_106_code 109 3 112 (.invokevirtual 163) := ⟨by decide +kernel, rfl⟩
set_option maxRecDepth 100000 in
theorem ii_mo_digest_112 : sm_D prog_9_method_106_code 112 1 113 (.i2l) := ⟨by decide +kernel, rfl⟩
set_option maxRecDepth 100000 in
theorem ii_mo_digest_113 : sm_D prog_9_method_106_code 113 1 114 (.ladd) := ⟨by decide +kernel, rfl⟩
set_option maxRecDepth 100000 in
theorem ii_mo_digest_114 : sm_D prog_9_method_106_code 114 1 115 (.lstore_n 1) := ⟨by decide +kernel, rfl⟩
set_option maxRecDepth 100000 in
theorem ii_mo_digest_115 : sm_D prog_9_method_106_code 115 3 118 (.iinc 3 1) := ⟨by decide +kernel, rfl⟩
set_option maxRecDepth 100000 in
theorem ii_mo_digest_118 : sm_D prog_9_method_106_code 118 3 121 (.goto (-34)) := ⟨by decide +kernel, rfl⟩
set_option maxRecDepth 100000 in
theorem ii_mo_digest_121 : sm_D prog_9_method_106_code 121 1 122 (.iconst 1) := ⟨by decide +kernel, rfl⟩
set_option maxRecDepth 100000 in
theorem ii_mo_digest_122 : sm_D prog_9_method_106_code 122 1 123 (.istore_n 3) := ⟨by decide +kernel, rfl⟩
set_option maxRecDepth 100000 in
theorem ii_mo_digest_123 : sm_D prog_9_method_106_code 123 1 124 (.iload_n 3) := ⟨by decide +kernel, rfl⟩
set_option maxRecDepth 100000 in
theorem ii_mo_digest_124 : sm_D prog_9_method_106_code 124 1 125 (.iconst 4) := ⟨by decide +kernel, rfl⟩
set_option maxRecDepth 100000 in
theorem ii_mo_digest_125 : sm_D prog_9_method_106_code 125 3 128 (.if_icmp .ge 29) := ⟨by decide +kernel, rfl⟩
set_option maxRecDepth 100000 in
theorem ii_mo_digest_128 : sm_D prog_9_method_106_code 128 3 131 (.ldc2_w 327) := ⟨by decide +kernel, rfl⟩
set_option maxRecDepth 100000 in
theorem ii_mo_digest_131 : sm_D prog_9_method_106_code 131 1 132 (.lload_n 1) := ⟨by decide +kernel, rfl⟩
set_option maxRecDepth 100000 in
theorem ii_mo_digest_132 : sm_D prog_9_method_106_code 132 1 133 (.lmul) := ⟨by decide +kernel, rfl⟩
set_option maxRecDepth 100000 in
theorem ii_mo_digest_133 : sm_D prog_9_method_106_code 133 1 134 (.aload_n 0) := ⟨by decide +kernel, rfl⟩
set_option maxRecDepth 100000 in
theorem ii_mo_digest_134 : sm_D prog_9_method_106_code 134 3 137 (.getfield 7) := ⟨by decide +kernel, rfl⟩
set_option maxRecDepth 100000 in
theorem ii_mo_digest_137 : sm_D prog_9_method_106_code 137 3 140 (.sipush 1272) := ⟨by decide +kernel, rfl⟩
set_option maxRecDepth 100000 in
theorem ii_mo_digest_140 : sm_D prog_9_method_106_code 140 1 141 (.iload_n 3) := ⟨by decide +kernel, rfl⟩
set_option maxRecDepth 100000 in
theorem ii_mo_digest_141 : sm_D prog_9_method_106_code 141 1 142 (.imul) := ⟨by decide +kernel, rfl⟩
set_option maxRecDepth 100000 in
theorem ii_mo_digest_142 : sm_D prog_9_method_106_code 142 1 143 (.iconst 0) := ⟨by decide +kernel, rfl⟩
set_option maxRecDepth 100000 in
theorem ii_mo_digest_143 : sm_D prog_9_method_106_code 143 1 144 (.iadd) := ⟨by decide +kernel, rfl⟩
set_option maxRecDepth 100000 in
theorem ii_mo_digest_144 : sm_D prog_9_method_106_code 144 1 145 (.iaload) := ⟨by decide +kernel, rfl⟩
set_option maxRecDepth 100000 in
theorem ii_mo_digest_145 : sm_D prog_9_method_106_code 145 1 146 (.i2l) := ⟨by decide +kernel, rfl⟩
set_option maxRecDepth 100000 in
theorem ii_mo_digest_146 : sm_D prog_9_method_106_code 146 1 147 (.ladd) := ⟨by decide +kernel, rfl⟩
set_option maxRecDepth 100000 in
theorem ii_mo_digest_147 : sm_D prog_9_method_106_code 147 1 148 (.lstore_n 1) := ⟨by decide +kernel, rfl⟩
set_option maxRecDepth 100000 in
theorem ii_mo_digest_148 : sm_D prog_9_method_106_code 148 3 151 (.iinc 3 1) := ⟨by decide +kernel, rfl⟩
set_option maxRecDepth 100000 in
theorem ii_mo_digest_151 : sm_D prog_9_method_106_code 151 3 154 (.goto (-28)) := ⟨by decide +kernel, rfl⟩
set_option maxRecDepth 100000 in
theorem ii_mo_digest_154 : sm_D prog_9_method_106_code 154 1 155 (.iconst 0) := ⟨by decide +kernel, rfl⟩
set_option maxRecDepth 100000 in
theorem ii_mo_digest_155 : sm_D prog_9_method_106_code 155 1 156 (.istore_n 3) := ⟨by decide +kernel, rfl⟩
set_option maxRecDepth 100000 in
theorem ii_mo_digest_156 : sm_D prog_9_method_106_code 156 1 157 (.iload_n 3) := ⟨by decide +kernel, rfl⟩
set_option maxRecDepth 100000 in
theorem ii_mo_digest_157 : sm_D prog_9_method_106_code 157 2 159 (.bipush 6) := ⟨by decide +kernel, rfl⟩
set_option maxRecDepth 100000 in
theorem ii_mo_digest_159 : sm_D prog_9_method_106_code 159 3 162 (.if_icmp .ge 63) := ⟨by decide +kernel, rfl⟩
set_option maxRecDepth 100000 in
theorem ii_mo_digest_162 : sm_D prog_9_method_106_code 162 3 165 (.ldc2_w 327) := ⟨by decide +kernel, rfl⟩
set_option maxRecDepth 100000 in
theorem ii_mo_digest_165 : sm_D prog_9_method_106_code 165 1 166 (.lload_n 1) := ⟨by decide +kernel, rfl⟩
set_option maxRecDepth 100000 in
theorem ii_mo_digest_166 : sm_D prog_9_method_106_code 166 1 167 (.lmul) := ⟨by decide +kernel, rfl⟩
set_option maxRecDepth 100000 in
theorem ii_mo_digest_167 : sm_D prog_9_method_106_code 167 1 168 (.aload_n 0) := ⟨by decide +kernel, rfl⟩
set_option maxRecDepth 100000 in
theorem ii_mo_digest_168 : sm_D prog_9_method_106_code 168 3 171 (.getfield 22) := ⟨by decide +kernel, rfl⟩
set_option maxRecDepth 100000 in
theorem ii_mo_digest_171 : sm_D prog_9_method_106_code 171 1 172 (.iload_n 3) := ⟨by decide +kernel, rfl⟩
set_option maxRecDepth 100000 in
theorem ii_mo_digest_172 : sm_D prog_9_method_106_code 172 1 173 (.iaload) := ⟨by decide +kernel, rfl⟩
set_option maxRecDepth 100000 in
theorem ii_mo_digest_173 : sm_D prog_9_method_106_code 173 1 174 (.i2l) := ⟨by decide +kernel, rfl⟩
set_option maxRecDepth 100000 in
theorem ii_mo_digest_174 : sm_D prog_9_method_106_code 174 1 175 (.ladd) := ⟨by decide +kernel, rfl⟩
set_option maxRecDepth 100000 in
theorem ii_mo_digest_175 : sm_D prog_9_method_106_code 175 1 176 (.lstore_n 1) := ⟨by decide +kernel, rfl⟩
set_option maxRecDepth 100000 in
theorem ii_mo_digest_176 : sm_D prog_9_method_106_code 176 1 177 (.iconst 0) := ⟨by decide +kernel, rfl⟩
set_option maxRecDepth 100000 in
theorem ii_mo_digest_177 : sm_D prog_9_method_106_code 177 2 179 (.istore 4) := ⟨by decide +kernel, rfl⟩
set_option maxRecDepth 100000 in
theorem ii_mo_digest_179 : sm_D prog_9_method_106_code 179 2 181 (.iload 4) := ⟨by decide +kernel, rfl⟩
set_option maxRecDepth 100000 in
theorem ii_mo_digest_181 : sm_D prog_9_method_106_code 181 1 182 (.aload_n 0) := ⟨by decide +kernel, rfl⟩
set_option maxRecDepth 100000 in
theorem ii_mo_digest_182 : sm_D prog_9_method_106_code 182 3 185 (.getfield 22) := ⟨by decide +kernel, rfl⟩
set_option maxRecDepth 100000 in
theorem ii_mo_digest_185 : sm_D prog_9_method_106_code 185 1 186 (.iload_n 3) := ⟨by decide +kernel, rfl⟩
set_option maxRecDepth 100000 in
theorem ii_mo_digest_186 : sm_D prog_9_method_106_code 186 1 187 (.iaload) := ⟨by decide +kernel, rfl⟩
set_option maxRecDepth 100000 in
theorem ii_mo_digest_187 : sm_D prog_9_method_106_code 187 3 190 (.if_icmp .ge 29) := ⟨by decide +kernel, rfl⟩
set_option maxRecDepth 100000 in
theorem ii_mo_digest_190 : sm_D prog_9_method_106_code 190 3 193 (.ldc2_w 327) := ⟨by decide +kernel, rfl⟩
set_option maxRecDepth 100000 in
theorem ii_mo_digest_193 : sm_D prog_9_method_106_code 193 1 194 (.lload_n 1) := ⟨by decide +kernel, rfl⟩
set_option maxRecDepth 100000 in
theorem ii_mo_digest_194 : sm_D prog_9_method_106_code 194 1 195 (.lmul) := ⟨by decide +kernel, rfl⟩
set_option maxRecDepth 100000 in
theorem ii_mo_digest_195 : sm_D prog_9_method_106_code 195 1 196 (.aload_n 0) := ⟨by decide +kernel, rfl⟩
set_option maxRecDepth 100000 in
theorem ii_mo_digest_196 : sm_D prog_9_method_106_code 196 3 199 (.getfield 25) := ⟨by decide +kernel, rfl⟩
set_option maxRecDepth 100000 in
theorem ii_mo_digest_199 : sm_D prog_9_method_106_code 199 2 201 (.bipush 40) := ⟨by decide +kernel, rfl⟩
set_option maxRecDepth 100000 in
theorem ii_mo_digest_201 : sm_D prog_9_method_106_code 201 1 202 (.iload_n 3) := ⟨by decide +kernel, rfl⟩
set_option maxRecDepth 100000 in
theorem ii_mo_digest_202 : sm_D prog_9_method_106_code 202 1 203 (.imul) := ⟨by decide +kernel, rfl⟩
set_option maxRecDepth 100000 in
theorem ii_mo_digest_203 : sm_D prog_9_method_106_code 203 2 205 (.iload 4) := ⟨by decide +kernel, rfl⟩
set_option maxRecDepth 100000 in
theorem ii_mo_digest_205 : sm_D prog_9_method_106_code 205 1 206 (.iadd) := ⟨by decide +kernel, rfl⟩
set_option maxRecDepth 100000 in
theorem ii_mo_digest_206 : sm_D prog_9_method_106_code 206 1 207 (.iaload) := ⟨by decide +kernel, rfl⟩
set_option maxRecDepth 100000 in
theorem ii_mo_digest_207 : sm_D prog_9_method_106_code 207 1 208 (.i2l) := ⟨by decide +kernel, rfl⟩
set_option maxRecDepth 100000 in
theorem ii_mo_digest_208 : sm_D prog_9_method_106_code 208 1 209 (.ladd) := ⟨by decide +kernel, rfl⟩
set_option maxRecDepth 100000 in
theorem ii_mo_digest_209 : sm_D prog_9_method_106_code 209 1 210 (.lstore_n 1) := ⟨by decide +kernel, rfl⟩
set_option maxRecDepth 100000 in
theorem ii_mo_digest_210 : sm_D prog_9_method_106_code 210 3 213 (.iinc 4 1) := ⟨by decide +kernel, rfl⟩
set_option maxRecDepth 100000 in
theorem ii_mo_digest_213 : sm_D prog_9_method_106_code 213 3 216 (.goto (-34)) := ⟨by decide +kernel, rfl⟩
set_option maxRecDepth 100000 in
theorem ii_mo_digest_216 : sm_D prog_9_method_106_code 216 3 219 (.iinc 3 1) := ⟨by decide +kernel, rfl⟩
set_option maxRecDepth 100000 in
theorem ii_mo_digest_219 : sm_D prog_9_method_106_code 219 3 222 (.goto (-63)) := ⟨by decide +kernel, rfl⟩
set_option maxRecDepth 100000 in
theorem ii_mo_digest_222 : sm_D prog_9_method_106_code 222 1 223 (.iconst 0) := ⟨by decide +kernel, rfl⟩
set_option maxRecDepth 100000 in
theorem ii_mo_digest_223 : sm_D prog_9_method_106_code 223 1 224 (.istore_n 3) := ⟨by decide +kernel, rfl⟩
set_option maxRecDepth 100000 in
theorem ii_mo_digest_224 : sm_D prog_9_method_106_code 224 1 225 (.iload_n 3) := ⟨by decide +kernel, rfl⟩
set_option maxRecDepth 100000 in
theorem ii_mo_digest_225 : sm_D prog_9_method_106_code 225 1 226 (.iconst 4) := ⟨by decide +kernel, rfl⟩
set_option maxRecDepth 100000 in
theorem ii_mo_digest_226 : sm_D prog_9_method_106_code 226 3 229 (.if_icmp .ge 63) := ⟨by decide +kernel, rfl⟩
set_option maxRecDepth 100000 in
theorem ii_mo_digest_229 : sm_D prog_9_method_106_code 229 3 232 (.ldc2_w 327) := ⟨by decide +kernel, rfl⟩
set_option maxRecDepth 100000 in
theorem ii_mo_digest_232 : sm_D prog_9_method_106_code 232 1 233 (.lload_n 1) := ⟨by decide +kernel, rfl⟩
set_option maxRecDepth 100000 in
theorem ii_mo_digest_233 : sm_D prog_9_method_106_code 233 1 234 (.lmul) := ⟨by decide +kernel, rfl⟩
set_option maxRecDepth 100000 in
theorem ii_mo_digest_234 : sm_D prog_9_method_106_code 234 1 235 (.aload_n 0) := ⟨by decide +kernel, rfl⟩
set_option maxRecDepth 100000 in
theorem ii_mo_digest_235 : sm_D prog_9_method_106_code 235 3 238 (.getfield 28) := ⟨by decide +kernel, rfl⟩
set_option maxRecDepth 100000 in
theorem ii_mo_digest_238 : sm_D prog_9_method_106_code 238 1 239 (.iload_n 3) := ⟨by decide +kernel, rfl⟩
set_option maxRecDepth 100000 in
theorem ii_mo_digest_239 : sm_D prog_9_method_106_code 239 1 240 (.iaload) := ⟨by decide +kernel, rfl⟩
set_option maxRecDepth 100000 in
theorem ii_mo_digest_240 : sm_D prog_9_method_106_code 240 1 241 (.i2l) := ⟨by decide +kernel, rfl⟩
set_option maxRecDepth 100000 in
theorem ii_mo_digest_241 : sm_D prog_9_method_106_code 241 1 242 (.ladd) := ⟨by decide +kernel, rfl⟩
set_option maxRecDepth 100000 in
theorem ii_mo_digest_242 : sm_D prog_9_method_106_code 242 1 243 (.lstore_n 1) := ⟨by decide +kernel, rfl⟩
set_option maxRecDepth 100000 in
theorem ii_mo_digest_243 : sm_D prog_9_method_106_code 243 1 244 (.iconst 0) := ⟨by decide +kernel, rfl⟩
set_option maxRecDepth 100000 in
theorem ii_mo_digest_244 : sm_D prog_9_method_106_code 244 2 246 (.istore 4) := ⟨by decide +kernel, rfl⟩
set_option maxRecDepth 100000 in
theorem ii_mo_digest_246 : sm_D prog_9_method_106_code 246 2 248 (.iload 4) := ⟨by decide +kernel, rfl⟩
set_option maxRecDepth 100000 in
theorem ii_mo_digest_248 : sm_D prog_9_method_106_code 248 1 249 (.aload_n 0) := ⟨by decide +kernel, rfl⟩
set_option maxRecDepth 100000 in
theorem ii_mo_digest_249 : sm_D prog_9_method_106_code 249 3 252 (.getfield 28) := ⟨by decide +kernel, rfl⟩
set_option maxRecDepth 100000 in
theorem ii_mo_digest_252 : sm_D prog_9_method_106_code 252 1 253 (.iload_n 3) := ⟨by decide +kernel, rfl⟩
set_option maxRecDepth 100000 in
theorem ii_mo_digest_253 : sm_D prog_9_method_106_code 253 1 254 (.iaload) := ⟨by decide +kernel, rfl⟩
set_option maxRecDepth 100000 in
theorem ii_mo_digest_254 : sm_D prog_9_method_106_code 254 3 257 (.if_icmp .ge 29) := ⟨by decide +kernel, rfl⟩
set_option maxRecDepth 100000 in
theorem ii_mo_digest_257 : sm_D prog_9_method_106_code 257 3 260 (.ldc2_w 327) := ⟨by decide +kernel, rfl⟩
set_option maxRecDepth 100000 in
theorem ii_mo_digest_260 : sm_D prog_9_method_106_code 260 1 261 (.lload_n 1) := ⟨by decide +kernel, rfl⟩
set_option maxRecDepth 100000 in
theorem ii_mo_digest_261 : sm_D prog_9_method_106_code 261 1 262 (.lmul) := ⟨by decide +kernel, rfl⟩
set_option maxRecDepth 100000 in
theorem ii_mo_digest_262 : sm_D prog_9_method_106_code 262 1 263 (.aload_n 0) := ⟨by decide +kernel, rfl⟩
set_option maxRecDepth 100000 in
theorem ii_mo_digest_263 : sm_D prog_9_method_106_code 263 3 266 (.getfield 31) := ⟨by decide +kernel, rfl⟩
set_option maxRecDepth 100000 in
theorem ii_mo_digest_266 : sm_D prog_9_method_106_code 266 2 268 (.bipush 60) := ⟨by decide +kernel, rfl⟩
set_option maxRecDepth 100000 in
theorem ii_mo_digest_268 : sm_D prog_9_method_106_code 268 1 269 (.iload_n 3) := ⟨by decide +kernel, rfl⟩
set_option maxRecDepth 100000 in
theorem ii_mo_digest_269 : sm_D prog_9_method_106_code 269 1 270 (.imul) := ⟨by decide +kernel, rfl⟩
set_option maxRecDepth 100000 in
theorem ii_mo_digest_270 : sm_D prog_9_method_106_code 270 2 272 (.iload 4) := ⟨by decide +kernel, rfl⟩
set_option maxRecDepth 100000 in
theorem ii_mo_digest_272 : sm_D prog_9_method_106_code 272 1 273 (.iadd) := ⟨by decide +kernel, rfl⟩
set_option maxRecDepth 100000 in
theorem ii_mo_digest_273 : sm_D prog_9_method_106_code 273 1 274 (.iaload) := ⟨by decide +kernel, rfl⟩
set_option maxRecDepth 100000 in
theorem ii_mo_digest_274 : sm_D prog_9_method_106_code 274 1 275 (.i2l) := ⟨by decide +kernel, rfl⟩
set_option maxRecDepth 100000 in
theorem ii_mo_digest_275 : sm_D prog_9_method_106_code 275 1 276 (.ladd) := ⟨by decide +kernel, rfl⟩
set_option maxRecDepth 100000 in
theorem ii_mo_digest_276 : sm_D prog_9_method_106_code 276 1 277 (.lstore_n 1) := ⟨by decide +kernel, rfl⟩
set_option maxRecDepth 100000 in
theorem ii_mo_digest_277 : sm_D prog_9_method_106_code 277 3 280 (.iinc 4 1) := ⟨by decide +kernel, rfl⟩
set_option maxRecDepth 100000 in
theorem ii_mo_digest_280 : sm_D prog_9_method_106_code 280 3 283 (.goto (-34)) := ⟨by decide +kernel, rfl⟩
set_option maxRecDepth 100000 in
theorem ii_mo_digest_283 : sm_D prog_9_method_106_code 283 3 286 (.iinc 3 1) := ⟨by decide +kernel, rfl⟩
set_option maxRecDepth 100000 in
theorem ii_mo_digest_286 : sm_D prog_9_method_106_code 286 3 289 (.goto (-62)) := ⟨by decide +kernel, rfl⟩
set_option maxRecDepth 100000 in
theorem ii_mo_digest_289 : sm_D prog_9_method_106_code 289 1 290 (.lload_n 1) := ⟨by decide +kernel, rfl⟩
set_option maxRecDepth 100000 in
theorem ii_mo_digest_290 : sm_D prog_9_method_106_code 290 1 291 (.lreturn) := ⟨by decide +kernel, rfl⟩
noncomputable def ff_mo_digest_246_b (self224 : Int64 → Int32 → sm_Mem → sm_R) (self246 : Int64 → Int32 → Int32 → sm_Mem → sm_R) (a1 : Int64) (a3 : Int32) (a4 : Int32) (w : sm_Mem) : sm_R := (Option.bind (sm_rd w 69 4 a3) fun x1 => (if x1 ≤ a4 then self224 (a1) ((a3 + (1 : Int32))) w else (Option.bind (sm_rd w 70 240 (((60 : Int32) * a3) + a4)) fun x2 => self246 ((((31 : Int64) * a1) + (Int32.toInt64 x2))) (a3) ((a4 + (1 : Int32))) w)))
noncomputable def ff_mo_digest_246_f (self224 : Int64 → Int32 → sm_Mem → sm_R) : Nat → Int64 → Int32 → Int32 → sm_Mem → sm_R
  | 0, _, _, _, _ => none
  | n + 1, a1, a3, a4, w => ff_mo_digest_246_b self224 (ff_mo_digest_246_f self224 n) a1 a3 a4 w
noncomputable def ff_mo_digest_246 (self224 : Int64 → Int32 → sm_Mem → sm_R) (a1 : Int64) (a3 : Int32) (a4 : Int32) (w : sm_Mem) : sm_R := ff_mo_digest_246_f self224 sm_N a1 a3 a4 w
set_option maxHeartbeats 4000000 in
set_option maxRecDepth 100000 in
theorem ss_mo_digest_246_b {E : Nat × (Nat → Int32)} (self224 : Int64 → Int32 → sm_Mem → sm_R) (hself224 : ∀ (a1 : Int64) (a3 : Int32) (w : sm_Mem), sm_Sim E (mi_mo_digest) 224 [some (.ref 62), some (.long a1), none, some (.int a3), none] [] w (self224 a1 a3 w)) (self246 : Int64 → Int32 → Int32 → sm_Mem → sm_R) (hself246 : ∀ (a1 : Int64) (a3 : Int32) (a4 : Int32) (w : sm_Mem), sm_Sim E (mi_mo_digest) 246 [some (.ref 62), some (.long a1), none, some (.int a3), some (.int a4)] [] w (self246 a1 a3 a4 w)) (a1 : Int64) (a3 : Int32) (a4 : Int32) (w : sm_Mem) : sm_Sim E (mi_mo_digest) 246 [some (.ref 62), some (.long a1), none, some (.int a3), some (.int a4)] [] w (ff_mo_digest_246_b self224 self246 a1 a3 a4 w) := by
  unfold ff_mo_digest_246_b
  refine sm_iload ii_mo_digest_246 rfl ?_
  refine sm_aload_n ii_mo_digest_248 rfl ?_
  refine sm_getR 69 ii_mo_digest_249 fl_mo_28 (k := 62) rfl ?_
  refine sm_iload_n ii_mo_digest_252 rfl ?_
  refine sm_iald ii_mo_digest_253 (k := 69) rfl (fun x1 => ?_)
  refine sm_icmp_ge 283 ii_mo_digest_254 (by decide) ?_ ?_
  · refine sm_iinc (a3 + (1 : Int32)) [some (.ref 62), some (.long a1), none, some (.int (a3 + (1 : Int32))), some (.int a4)] ii_mo_digest_283 rfl rfl rfl rfl ?_
    refine sm_goto 224 ii_mo_digest_286 (by decide) ?_
    refine sm_msk [true, true, false, true, false] [some (.ref 62), some (.long a1), none, some (.int (a3 + (1 : Int32))), none] rfl ?_
    exact hself224 (a1) ((a3 + (1 : Int32))) w
  · refine sm_ldc2 (31 : Int64) ii_mo_digest_257 (List.mem_of_getElem? (i := 1456) (by decide +kernel)) ?_
    refine sm_lload_n ii_mo_digest_260 rfl ?_
    refine sm_lmul ii_mo_digest_261 ?_
    refine sm_aload_n ii_mo_digest_262 rfl ?_
    refine sm_getR 70 ii_mo_digest_263 fl_mo_31 (k := 62) rfl ?_
    refine sm_bipush (60 : Int32) ii_mo_digest_266 (by decide) ?_
    refine sm_iload_n ii_mo_digest_268 rfl ?_
    refine sm_imul ii_mo_digest_269 ?_
    refine sm_iload ii_mo_digest_270 rfl ?_
    refine sm_iadd ii_mo_digest_272 ?_
    refine sm_iald ii_mo_digest_273 (k := 70) rfl (fun x2 => ?_)
    refine sm_i2l ii_mo_digest_274 ?_
    refine sm_ladd ii_mo_digest_275 ?_
    refine sm_lstore_n [some (.ref 62), some (.long (((31 : Int64) * a1) + (Int32.toInt64 x2))), none, some (.int a3), some (.int a4)] ii_mo_digest_276 rfl rfl ?_
    refine sm_iinc (a4 + (1 : Int32)) [some (.ref 62), some (.long (((31 : Int64) * a1) + (Int32.toInt64 x2))), none, some (.int a3), some (.int (a4 + (1 : Int32)))] ii_mo_digest_277 rfl rfl rfl rfl ?_
    refine sm_goto 246 ii_mo_digest_280 (by decide) ?_
    exact hself246 ((((31 : Int64) * a1) + (Int32.toInt64 x2))) (a3) ((a4 + (1 : Int32))) w
set_option maxHeartbeats 4000000 in
set_option maxRecDepth 100000 in
theorem ss_mo_digest_246_f {E : Nat × (Nat → Int32)} (self224 : Int64 → Int32 → sm_Mem → sm_R) (hself224 : ∀ (a1 : Int64) (a3 : Int32) (w : sm_Mem), sm_Sim E (mi_mo_digest) 224 [some (.ref 62), some (.long a1), none, some (.int a3), none] [] w (self224 a1 a3 w)) : ∀ (n : Nat) (a1 : Int64) (a3 : Int32) (a4 : Int32) (w : sm_Mem), sm_Sim E (mi_mo_digest) 246 [some (.ref 62), some (.long a1), none, some (.int a3), some (.int a4)] [] w (ff_mo_digest_246_f self224 n a1 a3 a4 w)
  | 0, _, _, _, _ => fun _ _ h => by cases h
  | n + 1, a1, a3, a4, w => ss_mo_digest_246_b self224 hself224 _ (ss_mo_digest_246_f self224 hself224 n) a1 a3 a4 w
set_option maxHeartbeats 4000000 in
set_option maxRecDepth 100000 in
theorem ss_mo_digest_246 {E : Nat × (Nat → Int32)} (self224 : Int64 → Int32 → sm_Mem → sm_R) (hself224 : ∀ (a1 : Int64) (a3 : Int32) (w : sm_Mem), sm_Sim E (mi_mo_digest) 224 [some (.ref 62), some (.long a1), none, some (.int a3), none] [] w (self224 a1 a3 w)) (a1 : Int64) (a3 : Int32) (a4 : Int32) (w : sm_Mem) : sm_Sim E (mi_mo_digest) 246 [some (.ref 62), some (.long a1), none, some (.int a3), some (.int a4)] [] w (ff_mo_digest_246 self224 a1 a3 a4 w) := ss_mo_digest_246_f self224 hself224 sm_N a1 a3 a4 w
noncomputable def ff_mo_digest_224_b  (self224 : Int64 → Int32 → sm_Mem → sm_R) (a1 : Int64) (a3 : Int32) (w : sm_Mem) : sm_R := (if (4 : Int32) ≤ a3 then (some (.long a1, w)) else (Option.bind (sm_rd w 69 4 a3) fun x3 => ff_mo_digest_246 self224 ((((31 : Int64) * a1) + (Int32.toInt64 x3))) (a3) ((0 : Int32)) w))
noncomputable def ff_mo_digest_224_f  : Nat → Int64 → Int32 → sm_Mem → sm_R
  | 0, _, _, _ => none
  | n + 1, a1, a3, w => ff_mo_digest_224_b  (ff_mo_digest_224_f  n) a1 a3 w
noncomputable def ff_mo_digest_224  (a1 : Int64) (a3 : Int32) (w : sm_Mem) : sm_R := ff_mo_digest_224_f  sm_N a1 a3 w
set_option maxHeartbeats 4000000 in
set_option maxRecDepth 100000 in
theorem ss_mo_digest_224_b {E : Nat × (Nat → Int32)}  (self224 : Int64 → Int32 → sm_Mem → sm_R) (hself224 : ∀ (a1 : Int64) (a3 : Int32) (w : sm_Mem), sm_Sim E (mi_mo_digest) 224 [some (.ref 62), some (.long a1), none, some (.int a3), none] [] w (self224 a1 a3 w)) (a1 : Int64) (a3 : Int32) (w : sm_Mem) : sm_Sim E (mi_mo_digest) 224 [some (.ref 62), some (.long a1), none, some (.int a3), none] [] w (ff_mo_digest_224_b  self224 a1 a3 w) := by
  unfold ff_mo_digest_224_b
  refine sm_iload_n ii_mo_digest_224 rfl ?_
  refine sm_iconst (4 : Int32) ii_mo_digest_225 (by decide) ?_
  refine sm_icmp_ge 289 ii_mo_digest_226 (by decide) ?_ ?_
  · refine sm_lload_n ii_mo_digest_289 rfl ?_
    exact sm_lret ii_mo_digest_290 rfl
  · refine sm_ldc2 (31 : Int64) ii_mo_digest_229 (List.mem_of_getElem? (i := 1456) (by decide +kernel)) ?_
    refine sm_lload_n ii_mo_digest_232 rfl ?_
    refine sm_lmul ii_mo_digest_233 ?_
    refine sm_aload_n ii_mo_digest_234 rfl ?_
    refine sm_getR 69 ii_mo_digest_235 fl_mo_28 (k := 62) rfl ?_
    refine sm_iload_n ii_mo_digest_238 rfl ?_
    refine sm_iald ii_mo_digest_239 (k := 69) rfl (fun x3 => ?_)
    refine sm_i2l ii_mo_digest_240 ?_
    refine sm_ladd ii_mo_digest_241 ?_
    refine sm_lstore_n [some (.ref 62), some (.long (((31 : Int64) * a1) + (Int32.toInt64 x3))), none, some (.int a3), none] ii_mo_digest_242 rfl rfl ?_
    refine sm_iconst (0 : Int32) ii_mo_digest_243 (by decide) ?_
    refine sm_istore [some (.ref 62), some (.long (((31 : Int64) * a1) + (Int32.toInt64 x3))), none, some (.int a3), some (.int (0 : Int32))] ii_mo_digest_244 rfl rfl ?_
    exact ss_mo_digest_246 self224 hself224 ((((31 : Int64) * a1) + (Int32.toInt64 x3))) (a3) ((0 : Int32)) w
set_option maxHeartbeats 4000000 in
set_option maxRecDepth 100000 in
theorem ss_mo_digest_224_f {E : Nat × (Nat → Int32)}  : ∀ (n : Nat) (a1 : Int64) (a3 : Int32) (w : sm_Mem), sm_Sim E (mi_mo_digest) 224 [some (.ref 62), some (.long a1), none, some (.int a3), none] [] w (ff_mo_digest_224_f  n a1 a3 w)
  | 0, _, _, _ => fun _ _ h => by cases h
  | n + 1, a1, a3, w => ss_mo_digest_224_b  _ (ss_mo_digest_224_f  n) a1 a3 w
set_option maxHeartbeats 4000000 in
set_option maxRecDepth 100000 in
theorem ss_mo_digest_224 {E : Nat × (Nat → Int32)}  (a1 : Int64) (a3 : Int32) (w : sm_Mem) : sm_Sim E (mi_mo_digest) 224 [some (.ref 62), some (.long a1), none, some (.int a3), none] [] w (ff_mo_digest_224  a1 a3 w) := ss_mo_digest_224_f  sm_N a1 a3 w
noncomputable def ff_mo_digest_179_b (self156 : Int64 → Int32 → sm_Mem → sm_R) (self179 : Int64 → Int32 → Int32 → sm_Mem → sm_R) (a1 : Int64) (a3 : Int32) (a4 : Int32) (w : sm_Mem) : sm_R := (Option.bind (sm_rd w 67 6 a3) fun x4 => (if x4 ≤ a4 then self156 (a1) ((a3 + (1 : Int32))) w else (Option.bind (sm_rd w 68 240 (((40 : Int32) * a3) + a4)) fun x5 => self179 ((((31 : Int64) * a1) + (Int32.toInt64 x5))) (a3) ((a4 + (1 : Int32))) w)))
noncomputable def ff_mo_digest_179_f (self156 : Int64 → Int32 → sm_Mem → sm_R) : Nat → Int64 → Int32 → Int32 → sm_Mem → sm_R
  | 0, _, _, _, _ => none
  | n + 1, a1, a3, a4, w => ff_mo_digest_179_b self156 (ff_mo_digest_179_f self156 n) a1 a3 a4 w
noncomputable def ff_mo_digest_179 (self156 : Int64 → Int32 → sm_Mem → sm_R) (a1 : Int64) (a3 : Int32) (a4 : Int32) (w : sm_Mem) : sm_R := ff_mo_digest_179_f self156 sm_N a1 a3 a4 w
set_option maxHeartbeats 4000000 in
set_option maxRecDepth 100000 in
theorem ss_mo_digest_179_b {E : Nat × (Nat → Int32)} (self156 : Int64 → Int32 → sm_Mem → sm_R) (hself156 : ∀ (a1 : Int64) (a3 : Int32) (w : sm_Mem), sm_Sim E (mi_mo_digest) 156 [some (.ref 62), some (.long a1), none, some (.int a3), none] [] w (self156 a1 a3 w)) (self179 : Int64 → Int32 → Int32 → sm_Mem → sm_R) (hself179 : ∀ (a1 : Int64) (a3 : Int32) (a4 : Int32) (w : sm_Mem), sm_Sim E (mi_mo_digest) 179 [some (.ref 62), some (.long a1), none, some (.int a3), some (.int a4)] [] w (self179 a1 a3 a4 w)) (a1 : Int64) (a3 : Int32) (a4 : Int32) (w : sm_Mem) : sm_Sim E (mi_mo_digest) 179 [some (.ref 62), some (.long a1), none, some (.int a3), some (.int a4)] [] w (ff_mo_digest_179_b self156 self179 a1 a3 a4 w) := by
  unfold ff_mo_digest_179_b
  refine sm_iload ii_mo_digest_179 rfl ?_
  refine sm_aload_n ii_mo_digest_181 rfl ?_
  refine sm_getR 67 ii_mo_digest_182 fl_mo_22 (k := 62) rfl ?_
  refine sm_iload_n ii_mo_digest_185 rfl ?_
  refine sm_iald ii_mo_digest_186 (k := 67) rfl (fun x4 => ?_)
  refine sm_icmp_ge 216 ii_mo_digest_187 (by decide) ?_ ?_
  · refine sm_iinc (a3 + (1 : Int32)) [some (.ref 62), some (.long a1), none, some (.int (a3 + (1 : Int32))), some (.int a4)] ii_mo_digest_216 rfl rfl rfl rfl ?_
    refine sm_goto 156 ii_mo_digest_219 (by decide) ?_
    refine sm_msk [true, true, false, true, false] [some (.ref 62), some (.long a1), none, some (.int (a3 + (1 : Int32))), none] rfl ?_
    exact hself156 (a1) ((a3 + (1 : Int32))) w
  · refine sm_ldc2 (31 : Int64) ii_mo_digest_190 (List.mem_of_getElem? (i := 1456) (by decide +kernel)) ?_
    refine sm_lload_n ii_mo_digest_193 rfl ?_
    refine sm_lmul ii_mo_digest_194 ?_
    refine sm_aload_n ii_mo_digest_195 rfl ?_
    refine sm_getR 68 ii_mo_digest_196 fl_mo_25 (k := 62) rfl ?_
    refine sm_bipush (40 : Int32) ii_mo_digest_199 (by decide) ?_
    refine sm_iload_n ii_mo_digest_201 rfl ?_
    refine sm_imul ii_mo_digest_202 ?_
    refine sm_iload ii_mo_digest_203 rfl ?_
    refine sm_iadd ii_mo_digest_205 ?_
    refine sm_iald ii_mo_digest_206 (k := 68) rfl (fun x5 => ?_)
    refine sm_i2l ii_mo_digest_207 ?_
    refine sm_ladd ii_mo_digest_208 ?_
    refine sm_lstore_n [some (.ref 62), some (.long (((31 : Int64) * a1) + (Int32.toInt64 x5))), none, some (.int a3), some (.int a4)] ii_mo_digest_209 rfl rfl ?_
    refine sm_iinc (a4 + (1 : Int32)) [some (.ref 62), some (.long (((31 : Int64) * a1) + (Int32.toInt64 x5))), none, some (.int a3), some (.int (a4 + (1 : Int32)))] ii_mo_digest_210 rfl rfl rfl rfl ?_
    refine sm_goto 179 ii_mo_digest_213 (by decide) ?_
    exact hself179 ((((31 : Int64) * a1) + (Int32.toInt64 x5))) (a3) ((a4 + (1 : Int32))) w
set_option maxHeartbeats 4000000 in
set_option maxRecDepth 100000 in
theorem ss_mo_digest_179_f {E : Nat × (Nat → Int32)} (self156 : Int64 → Int32 → sm_Mem → sm_R) (hself156 : ∀ (a1 : Int64) (a3 : Int32) (w : sm_Mem), sm_Sim E (mi_mo_digest) 156 [some (.ref 62), some (.long a1), none, some (.int a3), none] [] w (self156 a1 a3 w)) : ∀ (n : Nat) (a1 : Int64) (a3 : Int32) (a4 : Int32) (w : sm_Mem), sm_Sim E (mi_mo_digest) 179 [some (.ref 62), some (.long a1), none, some (.int a3), some (.int a4)] [] w (ff_mo_digest_179_f self156 n a1 a3 a4 w)
  | 0, _, _, _, _ => fun _ _ h => by cases h
  | n + 1, a1, a3, a4, w => ss_mo_digest_179_b self156 hself156 _ (ss_mo_digest_179_f self156 hself156 n) a1 a3 a4 w
set_option maxHeartbeats 4000000 in
set_option maxRecDepth 100000 in
theorem ss_mo_digest_179 {E : Nat × (Nat → Int32)} (self156 : Int64 → Int32 → sm_Mem → sm_R) (hself156 : ∀ (a1 : Int64) (a3 : Int32) (w : sm_Mem), sm_Sim E (mi_mo_digest) 156 [some (.ref 62), some (.long a1), none, some (.int a3), none] [] w (self156 a1 a3 w)) (a1 : Int64) (a3 : Int32) (a4 : Int32) (w : sm_Mem) : sm_Sim E (mi_mo_digest) 179 [some (.ref 62), some (.long a1), none, some (.int a3), some (.int a4)] [] w (ff_mo_digest_179 self156 a1 a3 a4 w) := ss_mo_digest_179_f self156 hself156 sm_N a1 a3 a4 w
noncomputable def ff_mo_digest_156_b  (self156 : Int64 → Int32 → sm_Mem → sm_R) (a1 : Int64) (a3 : Int32) (w : sm_Mem) : sm_R := (if (6 : Int32) ≤ a3 then ff_mo_digest_224 (a1) ((0 : Int32)) w else (Option.bind (sm_rd w 67 6 a3) fun x6 => ff_mo_digest_179 self156 ((((31 : Int64) * a1) + (Int32.toInt64 x6))) (a3) ((0 : Int32)) w))
noncomputable def ff_mo_digest_156_f  : Nat → Int64 → Int32 → sm_Mem → sm_R
  | 0, _, _, _ => none
  | n + 1, a1, a3, w => ff_mo_digest_156_b  (ff_mo_digest_156_f  n) a1 a3 w
noncomputable def ff_mo_digest_156  (a1 : Int64) (a3 : Int32) (w : sm_Mem) : sm_R := ff_mo_digest_156_f  sm_N a1 a3 w
set_option maxHeartbeats 4000000 in
set_option maxRecDepth 100000 in
theorem ss_mo_digest_156_b {E : Nat × (Nat → Int32)}  (self156 : Int64 → Int32 → sm_Mem → sm_R) (hself156 : ∀ (a1 : Int64) (a3 : Int32) (w : sm_Mem), sm_Sim E (mi_mo_digest) 156 [some (.ref 62), some (.long a1), none, some (.int a3), none] [] w (self156 a1 a3 w)) (a1 : Int64) (a3 : Int32) (w : sm_Mem) : sm_Sim E (mi_mo_digest) 156 [some (.ref 62), some (.long a1), none, some (.int a3), none] [] w (ff_mo_digest_156_b  self156 a1 a3 w) := by
  unfold ff_mo_digest_156_b
  refine sm_iload_n ii_mo_digest_156 rfl ?_
  refine sm_bipush (6 : Int32) ii_mo_digest_157 (by decide) ?_
  refine sm_icmp_ge 222 ii_mo_digest_159 (by decide) ?_ ?_
  · refine sm_iconst (0 : Int32) ii_mo_digest_222 (by decide) ?_
    refine sm_istore_n [some (.ref 62), some (.long a1), none, some (.int (0 : Int32)), none] ii_mo_digest_223 rfl rfl ?_
    exact ss_mo_digest_224 (a1) ((0 : Int32)) w
  · refine sm_ldc2 (31 : Int64) ii_mo_digest_162 (List.mem_of_getElem? (i := 1456) (by decide +kernel)) ?_
    refine sm_lload_n ii_mo_digest_165 rfl ?_
    refine sm_lmul ii_mo_digest_166 ?_
    refine sm_aload_n ii_mo_digest_167 rfl ?_
    refine sm_getR 67 ii_mo_digest_168 fl_mo_22 (k := 62) rfl ?_
    refine sm_iload_n ii_mo_digest_171 rfl ?_
    refine sm_iald ii_mo_digest_172 (k := 67) rfl (fun x6 => ?_)
    refine sm_i2l ii_mo_digest_173 ?_
    refine sm_ladd ii_mo_digest_174 ?_
    refine sm_lstore_n [some (.ref 62), some (.long (((31 : Int64) * a1) + (Int32.toInt64 x6))), none, some (.int a3), none] ii_mo_digest_175 rfl rfl ?_
    refine sm_iconst (0 : Int32) ii_mo_digest_176 (by decide) ?_
    refine sm_istore [some (.ref 62), some (.long (((31 : Int64) * a1) + (Int32.toInt64 x6))), none, some (.int a3), some (.int (0 : Int32))] ii_mo_digest_177 rfl rfl ?_
    exact ss_mo_digest_179 self156 hself156 ((((31 : Int64) * a1) + (Int32.toInt64 x6))) (a3) ((0 : Int32)) w
set_option maxHeartbeats 4000000 in
set_option maxRecDepth 100000 in
theorem ss_mo_digest_156_f {E : Nat × (Nat → Int32)}  : ∀ (n : Nat) (a1 : Int64) (a3 : Int32) (w : sm_Mem), sm_Sim E (mi_mo_digest) 156 [some (.ref 62), some (.long a1), none, some (.int a3), none] [] w (ff_mo_digest_156_f  n a1 a3 w)
  | 0, _, _, _ => fun _ _ h => by cases h
  | n + 1, a1, a3, w => ss_mo_digest_156_b  _ (ss_mo_digest_156_f  n) a1 a3 w
set_option maxHeartbeats 4000000 in
set_option maxRecDepth 100000 in
theorem ss_mo_digest_156 {E : Nat × (Nat → Int32)}  (a1 : Int64) (a3 : Int32) (w : sm_Mem) : sm_Sim E (mi_mo_digest) 156 [some (.ref 62), some (.long a1), none, some (.int a3), none] [] w (ff_mo_digest_156  a1 a3 w) := ss_mo_digest_156_f  sm_N a1 a3 w
noncomputable def ff_mo_digest_123_b  (self123 : Int64 → Int32 → sm_Mem → sm_R) (a1 : Int64) (a3 : Int32) (w : sm_Mem) : sm_R := (if (4 : Int32) ≤ a3 then ff_mo_digest_156 (a1) ((0 : Int32)) w else (Option.bind (sm_rd w 63 5184 (((1272 : Int32) * a3) + (0 : Int32))) fun x7 => self123 ((((31 : Int64) * a1) + (Int32.toInt64 x7))) ((a3 + (1 : Int32))) w))
noncomputable def ff_mo_digest_123_f  : Nat → Int64 → Int32 → sm_Mem → sm_R
  | 0, _, _, _ => none
  | n + 1, a1, a3, w => ff_mo_digest_123_b  (ff_mo_digest_123_f  n) a1 a3 w
noncomputable def ff_mo_digest_123  (a1 : Int64) (a3 : Int32) (w : sm_Mem) : sm_R := ff_mo_digest_123_f  sm_N a1 a3 w
set_option maxHeartbeats 4000000 in
set_option maxRecDepth 100000 in
theorem ss_mo_digest_123_b {E : Nat × (Nat → Int32)}  (self123 : Int64 → Int32 → sm_Mem → sm_R) (hself123 : ∀ (a1 : Int64) (a3 : Int32) (w : sm_Mem), sm_Sim E (mi_mo_digest) 123 [some (.ref 62), some (.long a1), none, some (.int a3), none] [] w (self123 a1 a3 w)) (a1 : Int64) (a3 : Int32) (w : sm_Mem) : sm_Sim E (mi_mo_digest) 123 [some (.ref 62), some (.long a1), none, some (.int a3), none] [] w (ff_mo_digest_123_b  self123 a1 a3 w) := by
  unfold ff_mo_digest_123_b
  refine sm_iload_n ii_mo_digest_123 rfl ?_
  refine sm_iconst (4 : Int32) ii_mo_digest_124 (by decide) ?_
  refine sm_icmp_ge 154 ii_mo_digest_125 (by decide) ?_ ?_
  · refine sm_iconst (0 : Int32) ii_mo_digest_154 (by decide) ?_
    refine sm_istore_n [some (.ref 62), some (.long a1), none, some (.int (0 : Int32)), none] ii_mo_digest_155 rfl rfl ?_
    exact ss_mo_digest_156 (a1) ((0 : Int32)) w
  · refine sm_ldc2 (31 : Int64) ii_mo_digest_128 (List.mem_of_getElem? (i := 1456) (by decide +kernel)) ?_
    refine sm_lload_n ii_mo_digest_131 rfl ?_
    refine sm_lmul ii_mo_digest_132 ?_
    refine sm_aload_n ii_mo_digest_133 rfl ?_
    refine sm_getR 63 ii_mo_digest_134 fl_mo_7 (k := 62) rfl ?_
    refine sm_sipush (1272 : Int32) ii_mo_digest_137 (by decide) ?_
    refine sm_iload_n ii_mo_digest_140 rfl ?_
    refine sm_imul ii_mo_digest_141 ?_
    refine sm_iconst (0 : Int32) ii_mo_digest_142 (by decide) ?_
    refine sm_iadd ii_mo_digest_143 ?_
    refine sm_iald ii_mo_digest_144 (k := 63) rfl (fun x7 => ?_)
    refine sm_i2l ii_mo_digest_145 ?_
    refine sm_ladd ii_mo_digest_146 ?_
    refine sm_lstore_n [some (.ref 62), some (.long (((31 : Int64) * a1) + (Int32.toInt64 x7))), none, some (.int a3), none] ii_mo_digest_147 rfl rfl ?_
    refine sm_iinc (a3 + (1 : Int32)) [some (.ref 62), some (.long (((31 : Int64) * a1) + (Int32.toInt64 x7))), none, some (.int (a3 + (1 : Int32))), none] ii_mo_digest_148 rfl rfl rfl rfl ?_
    refine sm_goto 123 ii_mo_digest_151 (by decide) ?_
    exact hself123 ((((31 : Int64) * a1) + (Int32.toInt64 x7))) ((a3 + (1 : Int32))) w
set_option maxHeartbeats 4000000 in
set_option maxRecDepth 100000 in
theorem ss_mo_digest_123_f {E : Nat × (Nat → Int32)}  : ∀ (n : Nat) (a1 : Int64) (a3 : Int32) (w : sm_Mem), sm_Sim E (mi_mo_digest) 123 [some (.ref 62), some (.long a1), none, some (.int a3), none] [] w (ff_mo_digest_123_f  n a1 a3 w)
  | 0, _, _, _ => fun _ _ h => by cases h
  | n + 1, a1, a3, w => ss_mo_digest_123_b  _ (ss_mo_digest_123_f  n) a1 a3 w
set_option maxHeartbeats 4000000 in
set_option maxRecDepth 100000 in
theorem ss_mo_digest_123 {E : Nat × (Nat → Int32)}  (a1 : Int64) (a3 : Int32) (w : sm_Mem) : sm_Sim E (mi_mo_digest) 123 [some (.ref 62), some (.long a1), none, some (.int a3), none] [] w (ff_mo_digest_123  a1 a3 w) := ss_mo_digest_123_f  sm_N a1 a3 w
noncomputable def ff_mo_digest_84_b  (self84 : Int64 → Int32 → sm_Mem → sm_R) (a1 : Int64) (a3 : Int32) (w : sm_Mem) : sm_R := (if ((6 : Int32) * (w.1 62 1)) ≤ a3 then ff_mo_digest_123 (a1) ((1 : Int32)) w else (if (6 : Int32) = (0 : Int32) then none else (if (6 : Int32) = (0 : Int32) then none else (sm_cI (ff_mo_toldOf ((a3 / (6 : Int32))) ((a3 - a3 / (6 : Int32) * (6 : Int32))) w) fun x10 w11 => self84 ((((31 : Int64) * a1) + (Int32.toInt64 x10))) ((a3 + (1 : Int32))) w11))))
noncomputable def ff_mo_digest_84_f  : Nat → Int64 → Int32 → sm_Mem → sm_R
  | 0, _, _, _ => none
  | n + 1, a1, a3, w => ff_mo_digest_84_b  (ff_mo_digest_84_f  n) a1 a3 w
noncomputable def ff_mo_digest_84  (a1 : Int64) (a3 : Int32) (w : sm_Mem) : sm_R := ff_mo_digest_84_f  sm_N a1 a3 w
set_option maxHeartbeats 4000000 in
set_option maxRecDepth 100000 in
theorem ss_mo_digest_84_b {E : Nat × (Nat → Int32)}  (self84 : Int64 → Int32 → sm_Mem → sm_R) (hself84 : ∀ (a1 : Int64) (a3 : Int32) (w : sm_Mem), sm_Sim E (mi_mo_digest) 84 [some (.ref 62), some (.long a1), none, some (.int a3), none] [] w (self84 a1 a3 w)) (a1 : Int64) (a3 : Int32) (w : sm_Mem) : sm_Sim E (mi_mo_digest) 84 [some (.ref 62), some (.long a1), none, some (.int a3), none] [] w (ff_mo_digest_84_b  self84 a1 a3 w) := by
  unfold ff_mo_digest_84_b
  refine sm_iload_n ii_mo_digest_84 rfl ?_
  refine sm_bipush (6 : Int32) ii_mo_digest_85 (by decide) ?_
  refine sm_aload_n ii_mo_digest_87 rfl ?_
  refine sm_getI ii_mo_digest_88 fl_mo_135 (k := 62) rfl ?_
  refine sm_imul ii_mo_digest_91 ?_
  refine sm_icmp_ge 121 ii_mo_digest_92 (by decide) ?_ ?_
  · refine sm_iconst (1 : Int32) ii_mo_digest_121 (by decide) ?_
    refine sm_istore_n [some (.ref 62), some (.long a1), none, some (.int (1 : Int32)), none] ii_mo_digest_122 rfl rfl ?_
    exact ss_mo_digest_123 (a1) ((1 : Int32)) w
  · refine sm_ldc2 (31 : Int64) ii_mo_digest_95 (List.mem_of_getElem? (i := 1456) (by decide +kernel)) ?_
    refine sm_lload_n ii_mo_digest_98 rfl ?_
    refine sm_lmul ii_mo_digest_99 ?_
    refine sm_aload_n ii_mo_digest_100 rfl ?_
    refine sm_iload_n ii_mo_digest_101 rfl ?_
    refine sm_bipush (6 : Int32) ii_mo_digest_102 (by decide) ?_
    refine sm_idiv ii_mo_digest_104 ?_
    refine sm_iload_n ii_mo_digest_105 rfl ?_
    refine sm_bipush (6 : Int32) ii_mo_digest_106 (by decide) ?_
    refine sm_irem ii_mo_digest_108 ?_
    refine sm_cvI [.int (a3 / (6 : Int32)), .int (a3 - a3 / (6 : Int32) * (6 : Int32))] [.long ((31 : Int64) * a1)] rfl ii_mo_digest_109 ml_mo_163 (mf_mo_toldOf) (mv_mo_toldOf) (Nat.le_of_ble_eq_true rfl) rfl 7 rfl rfl rfl rfl (mc_mo_toldOf ((a3 / (6 : Int32))) ((a3 - a3 / (6 : Int32) * (6 : Int32))) w) (fun x10 w11 => ?_)
    refine sm_i2l ii_mo_digest_112 ?_
    refine sm_ladd ii_mo_digest_113 ?_
    refine sm_lstore_n [some (.ref 62), some (.long (((31 : Int64) * a1) + (Int32.toInt64 x10))), none, some (.int a3), none] ii_mo_digest_114 rfl rfl ?_
    refine sm_iinc (a3 + (1 : Int32)) [some (.ref 62), some (.long (((31 : Int64) * a1) + (Int32.toInt64 x10))), none, some (.int (a3 + (1 : Int32))), none] ii_mo_digest_115 rfl rfl rfl rfl ?_
    refine sm_goto 84 ii_mo_digest_118 (by decide) ?_
    exact hself84 ((((31 : Int64) * a1) + (Int32.toInt64 x10))) ((a3 + (1 : Int32))) w11
set_option maxHeartbeats 4000000 in
set_option maxRecDepth 100000 in
theorem ss_mo_digest_84_f {E : Nat × (Nat → Int32)}  : ∀ (n : Nat) (a1 : Int64) (a3 : Int32) (w : sm_Mem), sm_Sim E (mi_mo_digest) 84 [some (.ref 62), some (.long a1), none, some (.int a3), none] [] w (ff_mo_digest_84_f  n a1 a3 w)
  | 0, _, _, _ => fun _ _ h => by cases h
  | n + 1, a1, a3, w => ss_mo_digest_84_b  _ (ss_mo_digest_84_f  n) a1 a3 w
set_option maxHeartbeats 4000000 in
set_option maxRecDepth 100000 in
theorem ss_mo_digest_84 {E : Nat × (Nat → Int32)}  (a1 : Int64) (a3 : Int32) (w : sm_Mem) : sm_Sim E (mi_mo_digest) 84 [some (.ref 62), some (.long a1), none, some (.int a3), none] [] w (ff_mo_digest_84  a1 a3 w) := ss_mo_digest_84_f  sm_N a1 a3 w
noncomputable def ff_mo_digest_33_b  (self33 : Int64 → Int32 → sm_Mem → sm_R) (a1 : Int64) (a3 : Int32) (w : sm_Mem) : sm_R := (Option.bind (sm_rd w 63 5184 (2 : Int32)) fun x12 => (if x12 ≤ a3 then ff_mo_digest_84 (a1) ((0 : Int32)) w else (Option.bind (sm_rd w 63 5184 ((4 : Int32) + a3)) fun x13 => (Option.bind (sm_rd w 63 5184 ((12 : Int32) + a3)) fun x14 => self33 ((((31 : Int64) * (((31 : Int64) * a1) + (Int32.toInt64 x13))) + (Int32.toInt64 x14))) ((a3 + (1 : Int32))) w))))
noncomputable def ff_mo_digest_33_f  : Nat → Int64 → Int32 → sm_Mem → sm_R
  | 0, _, _, _ => none
  | n + 1, a1, a3, w => ff_mo_digest_33_b  (ff_mo_digest_33_f  n) a1 a3 w
noncomputable def ff_mo_digest_33  (a1 : Int64) (a3 : Int32) (w : sm_Mem) : sm_R := ff_mo_digest_33_f  sm_N a1 a3 w
set_option maxHeartbeats 4000000 in
set_option maxRecDepth 100000 in
theorem ss_mo_digest_33_b {E : Nat × (Nat → Int32)}  (self33 : Int64 → Int32 → sm_Mem → sm_R) (hself33 : ∀ (a1 : Int64) (a3 : Int32) (w : sm_Mem), sm_Sim E (mi_mo_digest) 33 [some (.ref 62), some (.long a1), none, some (.int a3), none] [] w (self33 a1 a3 w)) (a1 : Int64) (a3 : Int32) (w : sm_Mem) : sm_Sim E (mi_mo_digest) 33 [some (.ref 62), some (.long a1), none, some (.int a3), none] [] w (ff_mo_digest_33_b  self33 a1 a3 w) := by
  unfold ff_mo_digest_33_b
  refine sm_iload_n ii_mo_digest_33 rfl ?_
  refine sm_aload_n ii_mo_digest_34 rfl ?_
  refine sm_getR 63 ii_mo_digest_35 fl_mo_7 (k := 62) rfl ?_
  refine sm_iconst (2 : Int32) ii_mo_digest_38 (by decide) ?_
  refine sm_iald ii_mo_digest_39 (k := 63) rfl (fun x12 => ?_)
  refine sm_icmp_ge 82 ii_mo_digest_40 (by decide) ?_ ?_
  · refine sm_iconst (0 : Int32) ii_mo_digest_82 (by decide) ?_
    refine sm_istore_n [some (.ref 62), some (.long a1), none, some (.int (0 : Int32)), none] ii_mo_digest_83 rfl rfl ?_
    exact ss_mo_digest_84 (a1) ((0 : Int32)) w
  · refine sm_ldc2 (31 : Int64) ii_mo_digest_43 (List.mem_of_getElem? (i := 1456) (by decide +kernel)) ?_
    refine sm_lload_n ii_mo_digest_46 rfl ?_
    refine sm_lmul ii_mo_digest_47 ?_
    refine sm_aload_n ii_mo_digest_48 rfl ?_
    refine sm_getR 63 ii_mo_digest_49 fl_mo_7 (k := 62) rfl ?_
    refine sm_iconst (4 : Int32) ii_mo_digest_52 (by decide) ?_
    refine sm_iload_n ii_mo_digest_53 rfl ?_
    refine sm_iadd ii_mo_digest_54 ?_
    refine sm_iald ii_mo_digest_55 (k := 63) rfl (fun x13 => ?_)
    refine sm_i2l ii_mo_digest_56 ?_
    refine sm_ladd ii_mo_digest_57 ?_
    refine sm_lstore_n [some (.ref 62), some (.long (((31 : Int64) * a1) + (Int32.toInt64 x13))), none, some (.int a3), none] ii_mo_digest_58 rfl rfl ?_
    refine sm_ldc2 (31 : Int64) ii_mo_digest_59 (List.mem_of_getElem? (i := 1456) (by decide +kernel)) ?_
    refine sm_lload_n ii_mo_digest_62 rfl ?_
    refine sm_lmul ii_mo_digest_63 ?_
    refine sm_aload_n ii_mo_digest_64 rfl ?_
    refine sm_getR 63 ii_mo_digest_65 fl_mo_7 (k := 62) rfl ?_
    refine sm_bipush (12 : Int32) ii_mo_digest_68 (by decide) ?_
    refine sm_iload_n ii_mo_digest_70 rfl ?_
    refine sm_iadd ii_mo_digest_71 ?_
    refine sm_iald ii_mo_digest_72 (k := 63) rfl (fun x14 => ?_)
    refine sm_i2l ii_mo_digest_73 ?_
    refine sm_ladd ii_mo_digest_74 ?_
    refine sm_lstore_n [some (.ref 62), some (.long (((31 : Int64) * (((31 : Int64) * a1) + (Int32.toInt64 x13))) + (Int32.toInt64 x14))), none, some (.int a3), none] ii_mo_digest_75 rfl rfl ?_
    refine sm_iinc (a3 + (1 : Int32)) [some (.ref 62), some (.long (((31 : Int64) * (((31 : Int64) * a1) + (Int32.toInt64 x13))) + (Int32.toInt64 x14))), none, some (.int (a3 + (1 : Int32))), none] ii_mo_digest_76 rfl rfl rfl rfl ?_
    refine sm_goto 33 ii_mo_digest_79 (by decide) ?_
    exact hself33 ((((31 : Int64) * (((31 : Int64) * a1) + (Int32.toInt64 x13))) + (Int32.toInt64 x14))) ((a3 + (1 : Int32))) w
set_option maxHeartbeats 4000000 in
set_option maxRecDepth 100000 in
theorem ss_mo_digest_33_f {E : Nat × (Nat → Int32)}  : ∀ (n : Nat) (a1 : Int64) (a3 : Int32) (w : sm_Mem), sm_Sim E (mi_mo_digest) 33 [some (.ref 62), some (.long a1), none, some (.int a3), none] [] w (ff_mo_digest_33_f  n a1 a3 w)
  | 0, _, _, _ => fun _ _ h => by cases h
  | n + 1, a1, a3, w => ss_mo_digest_33_b  _ (ss_mo_digest_33_f  n) a1 a3 w
set_option maxHeartbeats 4000000 in
set_option maxRecDepth 100000 in
theorem ss_mo_digest_33 {E : Nat × (Nat → Int32)}  (a1 : Int64) (a3 : Int32) (w : sm_Mem) : sm_Sim E (mi_mo_digest) 33 [some (.ref 62), some (.long a1), none, some (.int a3), none] [] w (ff_mo_digest_33  a1 a3 w) := ss_mo_digest_33_f  sm_N a1 a3 w
noncomputable def ff_mo_digest_6_b  (self6 : Int64 → Int32 → sm_Mem → sm_R) (a1 : Int64) (a3 : Int32) (w : sm_Mem) : sm_R := (if (11 : Int32) ≤ a3 then ff_mo_digest_33 (a1) ((0 : Int32)) w else (sm_cI (ff_mo_countOf (a3) w) fun x15 w16 => self6 ((((31 : Int64) * a1) + (Int32.toInt64 x15))) ((a3 + (1 : Int32))) w16))
noncomputable def ff_mo_digest_6_f  : Nat → Int64 → Int32 → sm_Mem → sm_R
  | 0, _, _, _ => none
  | n + 1, a1, a3, w => ff_mo_digest_6_b  (ff_mo_digest_6_f  n) a1 a3 w
noncomputable def ff_mo_digest_6  (a1 : Int64) (a3 : Int32) (w : sm_Mem) : sm_R := ff_mo_digest_6_f  sm_N a1 a3 w
set_option maxHeartbeats 4000000 in
set_option maxRecDepth 100000 in
theorem ss_mo_digest_6_b {E : Nat × (Nat → Int32)}  (self6 : Int64 → Int32 → sm_Mem → sm_R) (hself6 : ∀ (a1 : Int64) (a3 : Int32) (w : sm_Mem), sm_Sim E (mi_mo_digest) 6 [some (.ref 62), some (.long a1), none, some (.int a3), none] [] w (self6 a1 a3 w)) (a1 : Int64) (a3 : Int32) (w : sm_Mem) : sm_Sim E (mi_mo_digest) 6 [some (.ref 62), some (.long a1), none, some (.int a3), none] [] w (ff_mo_digest_6_b  self6 a1 a3 w) := by
  unfold ff_mo_digest_6_b
  refine sm_iload_n ii_mo_digest_6 rfl ?_
  refine sm_bipush (11 : Int32) ii_mo_digest_7 (by decide) ?_
  refine sm_icmp_ge 31 ii_mo_digest_9 (by decide) ?_ ?_
  · refine sm_iconst (0 : Int32) ii_mo_digest_31 (by decide) ?_
    refine sm_istore_n [some (.ref 62), some (.long a1), none, some (.int (0 : Int32)), none] ii_mo_digest_32 rfl rfl ?_
    exact ss_mo_digest_33 (a1) ((0 : Int32)) w
  · refine sm_ldc2 (31 : Int64) ii_mo_digest_12 (List.mem_of_getElem? (i := 1456) (by decide +kernel)) ?_
    refine sm_lload_n ii_mo_digest_15 rfl ?_
    refine sm_lmul ii_mo_digest_16 ?_
    refine sm_aload_n ii_mo_digest_17 rfl ?_
    refine sm_iload_n ii_mo_digest_18 rfl ?_
    refine sm_cvI [.int a3] [.long ((31 : Int64) * a1)] rfl ii_mo_digest_19 ml_mo_322 (mf_mo_countOf) (mv_mo_countOf) (Nat.le_of_ble_eq_true rfl) rfl 7 rfl rfl rfl rfl (mc_mo_countOf (a3) w) (fun x15 w16 => ?_)
    refine sm_i2l ii_mo_digest_22 ?_
    refine sm_ladd ii_mo_digest_23 ?_
    refine sm_lstore_n [some (.ref 62), some (.long (((31 : Int64) * a1) + (Int32.toInt64 x15))), none, some (.int a3), none] ii_mo_digest_24 rfl rfl ?_
    refine sm_iinc (a3 + (1 : Int32)) [some (.ref 62), some (.long (((31 : Int64) * a1) + (Int32.toInt64 x15))), none, some (.int (a3 + (1 : Int32))), none] ii_mo_digest_25 rfl rfl rfl rfl ?_
    refine sm_goto 6 ii_mo_digest_28 (by decide) ?_
    exact hself6 ((((31 : Int64) * a1) + (Int32.toInt64 x15))) ((a3 + (1 : Int32))) w16
set_option maxHeartbeats 4000000 in
set_option maxRecDepth 100000 in
theorem ss_mo_digest_6_f {E : Nat × (Nat → Int32)}  : ∀ (n : Nat) (a1 : Int64) (a3 : Int32) (w : sm_Mem), sm_Sim E (mi_mo_digest) 6 [some (.ref 62), some (.long a1), none, some (.int a3), none] [] w (ff_mo_digest_6_f  n a1 a3 w)
  | 0, _, _, _ => fun _ _ h => by cases h
  | n + 1, a1, a3, w => ss_mo_digest_6_b  _ (ss_mo_digest_6_f  n) a1 a3 w
set_option maxHeartbeats 4000000 in
set_option maxRecDepth 100000 in
theorem ss_mo_digest_6 {E : Nat × (Nat → Int32)}  (a1 : Int64) (a3 : Int32) (w : sm_Mem) : sm_Sim E (mi_mo_digest) 6 [some (.ref 62), some (.long a1), none, some (.int a3), none] [] w (ff_mo_digest_6  a1 a3 w) := ss_mo_digest_6_f  sm_N a1 a3 w
noncomputable def ff_mo_digest   (w : sm_Mem) : sm_R := ff_mo_digest_6 ((17 : Int64)) ((0 : Int32)) w
set_option maxHeartbeats 4000000 in
set_option maxRecDepth 100000 in
theorem ss_mo_digest_0 {E : Nat × (Nat → Int32)}   (w : sm_Mem) : sm_Sim E (mi_mo_digest) 0 [some (.ref 62), none, none, none, none] [] w (ff_mo_digest   w) := by
  unfold ff_mo_digest
  refine sm_ldc2 (17 : Int64) ii_mo_digest_0 (List.mem_of_getElem? (i := 1455) (by decide +kernel)) ?_
  refine sm_lstore_n [some (.ref 62), some (.long (17 : Int64)), none, none, none] ii_mo_digest_3 rfl rfl ?_
  refine sm_iconst (0 : Int32) ii_mo_digest_4 (by decide) ?_
  refine sm_istore_n [some (.ref 62), some (.long (17 : Int64)), none, some (.int (0 : Int32)), none] ii_mo_digest_5 rfl rfl ?_
  exact ss_mo_digest_6 ((17 : Int64)) ((0 : Int32)) w
set_option maxHeartbeats 4000000 in
set_option maxRecDepth 100000 in
theorem mc_mo_digest  (w : sm_Mem) : sm_MC mi_mo_digest [.ref 62] w (ff_mo_digest  w) := sm_MC_of (0, fun _ => 0) (by decide +kernel) (by decide) rfl (Nat.le_of_ble_eq_true rfl) (ss_mo_digest_0  w)
