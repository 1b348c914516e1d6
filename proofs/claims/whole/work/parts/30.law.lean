/-! the law, behind its two constructors -/
set_option maxRecDepth 100000 in
theorem ml_la_13 : sm_ML "HerOrdersLaw" 13 ⟨"HerOrders", "row", "(II)I"⟩ := Or.inl (List.mem_of_getElem? (i := 385) (by decide +kernel))
set_option maxRecDepth 100000 in
theorem ml_la_17 : sm_ML "HerOrdersLaw" 17 ⟨"HerOrdersModel", "row", "(II)I"⟩ := Or.inl (List.mem_of_getElem? (i := 1033) (by decide +kernel))
set_option maxRecDepth 100000 in
theorem ml_la_18 : sm_ML "HerOrdersLaw" 18 ⟨"HerOrders", "lay", "(III)I"⟩ := Or.inl (List.mem_of_getElem? (i := 407) (by decide +kernel))
set_option maxRecDepth 100000 in
theorem ml_la_22 : sm_ML "HerOrdersLaw" 22 ⟨"HerOrdersModel", "lay", "(III)I"⟩ := Or.inl (List.mem_of_getElem? (i := 1052) (by decide +kernel))
set_option maxRecDepth 100000 in
theorem ml_la_23 : sm_ML "HerOrdersLaw" 23 ⟨"HerOrders", "at", "(II)I"⟩ := Or.inl (List.mem_of_getElem? (i := 423) (by decide +kernel))
set_option maxRecDepth 100000 in
theorem ml_la_26 : sm_ML "HerOrdersLaw" 26 ⟨"HerOrdersModel", "at", "(II)I"⟩ := Or.inl (List.mem_of_getElem? (i := 1064) (by decide +kernel))
set_option maxRecDepth 100000 in
theorem ml_la_27 : sm_ML "HerOrdersLaw" 27 ⟨"HerOrders", "tear", "(I)I"⟩ := Or.inl (List.mem_of_getElem? (i := 427) (by decide +kernel))
set_option maxRecDepth 100000 in
theorem ml_la_31 : sm_ML "HerOrdersLaw" 31 ⟨"HerOrdersModel", "tear", "(I)I"⟩ := Or.inl (List.mem_of_getElem? (i := 1068) (by decide +kernel))
set_option maxRecDepth 100000 in
theorem ml_la_32 : sm_ML "HerOrdersLaw" 32 ⟨"HerOrders", "copy", "(IIIII)I"⟩ := Or.inl (List.mem_of_getElem? (i := 431) (by decide +kernel))
set_option maxRecDepth 100000 in
theorem ml_la_36 : sm_ML "HerOrdersLaw" 36 ⟨"HerOrdersModel", "copy", "(IIIII)I"⟩ := Or.inl (List.mem_of_getElem? (i := 1072) (by decide +kernel))
set_option maxRecDepth 100000 in
theorem ml_la_37 : sm_ML "HerOrdersLaw" 37 ⟨"HerOrders", "mean", "(I)I"⟩ := Or.inl (List.mem_of_getElem? (i := 442) (by decide +kernel))
set_option maxRecDepth 100000 in
theorem ml_la_40 : sm_ML "HerOrdersLaw" 40 ⟨"HerOrdersModel", "mean", "(I)I"⟩ := Or.inl (List.mem_of_getElem? (i := 1080) (by decide +kernel))
set_option maxRecDepth 100000 in
theorem ml_la_41 : sm_ML "HerOrdersLaw" 41 ⟨"HerOrders", "text", "(II)I"⟩ := Or.inl (List.mem_of_getElem? (i := 450) (by decide +kernel))
set_option maxRecDepth 100000 in
theorem ml_la_44 : sm_ML "HerOrdersLaw" 44 ⟨"HerOrdersModel", "text", "(II)I"⟩ := Or.inl (List.mem_of_getElem? (i := 1084) (by decide +kernel))
set_option maxRecDepth 100000 in
theorem ml_la_45 : sm_ML "HerOrdersLaw" 45 ⟨"HerOrders", "put", "(III)I"⟩ := Or.inl (List.mem_of_getElem? (i := 454) (by decide +kernel))
set_option maxRecDepth 100000 in
theorem ml_la_48 : sm_ML "HerOrdersLaw" 48 ⟨"HerOrdersModel", "put", "(III)I"⟩ := Or.inl (List.mem_of_getElem? (i := 1092) (by decide +kernel))
set_option maxRecDepth 100000 in
theorem ml_la_49 : sm_ML "HerOrdersLaw" 49 ⟨"HerOrders", "fault", "(I)I"⟩ := Or.inl (List.mem_of_getElem? (i := 458) (by decide +kernel))
set_option maxRecDepth 100000 in
theorem ml_la_52 : sm_ML "HerOrdersLaw" 52 ⟨"HerOrdersModel", "fault", "(I)I"⟩ := Or.inl (List.mem_of_getElem? (i := 1096) (by decide +kernel))
set_option maxRecDepth 100000 in
theorem ml_la_53 : sm_ML "HerOrdersLaw" 53 ⟨"HerOrders", "house", "(I)I"⟩ := Or.inl (List.mem_of_getElem? (i := 473) (by decide +kernel))
set_option maxRecDepth 100000 in
theorem ml_la_56 : sm_ML "HerOrdersLaw" 56 ⟨"HerOrdersModel", "house", "(I)I"⟩ := Or.inl (List.mem_of_getElem? (i := 1123) (by decide +kernel))
set_option maxRecDepth 100000 in
theorem ml_la_57 : sm_ML "HerOrdersLaw" 57 ⟨"HerOrders", "speaker", "(II)I"⟩ := Or.inl (List.mem_of_getElem? (i := 497) (by decide +kernel))
set_option maxRecDepth 100000 in
theorem ml_la_60 : sm_ML "HerOrdersLaw" 60 ⟨"HerOrdersModel", "speaker", "(II)I"⟩ := Or.inl (List.mem_of_getElem? (i := 1127) (by decide +kernel))
set_option maxRecDepth 100000 in
theorem ml_la_61 : sm_ML "HerOrdersLaw" 61 ⟨"HerOrders", "mark", "(II)I"⟩ := Or.inl (List.mem_of_getElem? (i := 513) (by decide +kernel))
set_option maxRecDepth 100000 in
theorem ml_la_64 : sm_ML "HerOrdersLaw" 64 ⟨"HerOrdersModel", "mark", "(II)I"⟩ := Or.inl (List.mem_of_getElem? (i := 1139) (by decide +kernel))
set_option maxRecDepth 100000 in
theorem ml_la_65 : sm_ML "HerOrdersLaw" 65 ⟨"HerOrders", "say", "(II)I"⟩ := Or.inl (List.mem_of_getElem? (i := 561) (by decide +kernel))
set_option maxRecDepth 100000 in
theorem ml_la_68 : sm_ML "HerOrdersLaw" 68 ⟨"HerOrdersModel", "say", "(II)I"⟩ := Or.inl (List.mem_of_getElem? (i := 1188) (by decide +kernel))
set_option maxRecDepth 100000 in
theorem ml_la_69 : sm_ML "HerOrdersLaw" 69 ⟨"HerOrders", "end", "()I"⟩ := Or.inl (List.mem_of_getElem? (i := 579) (by decide +kernel))
set_option maxRecDepth 100000 in
theorem ml_la_73 : sm_ML "HerOrdersLaw" 73 ⟨"HerOrdersModel", "end", "()I"⟩ := Or.inl (List.mem_of_getElem? (i := 1203) (by decide +kernel))
set_option maxRecDepth 100000 in
theorem ml_la_74 : sm_ML "HerOrdersLaw" 74 ⟨"HerOrders", "hour", "()I"⟩ := Or.inl (List.mem_of_getElem? (i := 583) (by decide +kernel))
set_option maxRecDepth 100000 in
theorem ml_la_77 : sm_ML "HerOrdersLaw" 77 ⟨"HerOrdersModel", "hour", "()I"⟩ := Or.inl (List.mem_of_getElem? (i := 1211) (by decide +kernel))
set_option maxRecDepth 100000 in
theorem ml_la_78 : sm_ML "HerOrdersLaw" 78 ⟨"HerOrders", "walk", "(II)I"⟩ := Or.inl (List.mem_of_getElem? (i := 587) (by decide +kernel))
set_option maxRecDepth 100000 in
theorem ml_la_81 : sm_ML "HerOrdersLaw" 81 ⟨"HerOrdersModel", "walk", "(II)I"⟩ := Or.inl (List.mem_of_getElem? (i := 1219) (by decide +kernel))
set_option maxRecDepth 100000 in
theorem ml_la_82 : sm_ML "HerOrdersLaw" 82 ⟨"HerOrders", "undo", "(I)I"⟩ := Or.inl (List.mem_of_getElem? (i := 592) (by decide +kernel))
set_option maxRecDepth 100000 in
theorem ml_la_85 : sm_ML "HerOrdersLaw" 85 ⟨"HerOrdersModel", "undo", "(I)I"⟩ := Or.inl (List.mem_of_getElem? (i := 1223) (by decide +kernel))
set_option maxRecDepth 100000 in
theorem ml_la_86 : sm_ML "HerOrdersLaw" 86 ⟨"HerOrders", "keep", "(I)I"⟩ := Or.inl (List.mem_of_getElem? (i := 597) (by decide +kernel))
set_option maxRecDepth 100000 in
theorem ml_la_89 : sm_ML "HerOrdersLaw" 89 ⟨"HerOrdersModel", "keep", "(I)I"⟩ := Or.inl (List.mem_of_getElem? (i := 1227) (by decide +kernel))
set_option maxRecDepth 100000 in
theorem ml_la_90 : sm_ML "HerOrdersLaw" 90 ⟨"HerOrders", "on", "(I)I"⟩ := Or.inl (List.mem_of_getElem? (i := 605) (by decide +kernel))
set_option maxRecDepth 100000 in
theorem ml_la_93 : sm_ML "HerOrdersLaw" 93 ⟨"HerOrdersModel", "on", "(I)I"⟩ := Or.inl (List.mem_of_getElem? (i := 1236) (by decide +kernel))
set_option maxRecDepth 100000 in
theorem ml_la_94 : sm_ML "HerOrdersLaw" 94 ⟨"HerOrders", "who", "(I)I"⟩ := Or.inl (List.mem_of_getElem? (i := 613) (by decide +kernel))
set_option maxRecDepth 100000 in
theorem ml_la_97 : sm_ML "HerOrdersLaw" 97 ⟨"HerOrdersModel", "who", "(I)I"⟩ := Or.inl (List.mem_of_getElem? (i := 1240) (by decide +kernel))
set_option maxRecDepth 100000 in
theorem ml_la_98 : sm_ML "HerOrdersLaw" 98 ⟨"HerOrders", "what", "(I)I"⟩ := Or.inl (List.mem_of_getElem? (i := 617) (by decide +kernel))
set_option maxRecDepth 100000 in
theorem ml_la_101 : sm_ML "HerOrdersLaw" 101 ⟨"HerOrdersModel", "what", "(I)I"⟩ := Or.inl (List.mem_of_getElem? (i := 1248) (by decide +kernel))
set_option maxRecDepth 100000 in
theorem ml_la_102 : sm_ML "HerOrdersLaw" 102 ⟨"HerOrders", "said", "(I)I"⟩ := Or.inl (List.mem_of_getElem? (i := 622) (by decide +kernel))
set_option maxRecDepth 100000 in
theorem ml_la_105 : sm_ML "HerOrdersLaw" 105 ⟨"HerOrdersModel", "said", "(I)I"⟩ := Or.inl (List.mem_of_getElem? (i := 1252) (by decide +kernel))
set_option maxRecDepth 100000 in
theorem ml_la_106 : sm_ML "HerOrdersLaw" 106 ⟨"HerOrders", "ways", "(I)I"⟩ := Or.inl (List.mem_of_getElem? (i := 626) (by decide +kernel))
set_option maxRecDepth 100000 in
theorem ml_la_109 : sm_ML "HerOrdersLaw" 109 ⟨"HerOrdersModel", "ways", "(I)I"⟩ := Or.inl (List.mem_of_getElem? (i := 1256) (by decide +kernel))
set_option maxRecDepth 100000 in
theorem ml_la_110 : sm_ML "HerOrdersLaw" 110 ⟨"HerOrders", "few", "(II)I"⟩ := Or.inl (List.mem_of_getElem? (i := 684) (by decide +kernel))
set_option maxRecDepth 100000 in
theorem ml_la_113 : sm_ML "HerOrdersLaw" 113 ⟨"HerOrdersModel", "few", "(II)I"⟩ := Or.inl (List.mem_of_getElem? (i := 1292) (by decide +kernel))
set_option maxRecDepth 100000 in
theorem ml_la_114 : sm_ML "HerOrdersLaw" 114 ⟨"HerOrders", "far", "(I)I"⟩ := Or.inl (List.mem_of_getElem? (i := 693) (by decide +kernel))
set_option maxRecDepth 100000 in
theorem ml_la_117 : sm_ML "HerOrdersLaw" 117 ⟨"HerOrdersModel", "far", "(I)I"⟩ := Or.inl (List.mem_of_getElem? (i := 1296) (by decide +kernel))
set_option maxRecDepth 100000 in
theorem ml_la_118 : sm_ML "HerOrdersLaw" 118 ⟨"HerOrders", "dumb", "()I"⟩ := Or.inl (List.mem_of_getElem? (i := 701) (by decide +kernel))
set_option maxRecDepth 100000 in
theorem ml_la_121 : sm_ML "HerOrdersLaw" 121 ⟨"HerOrdersModel", "dumb", "()I"⟩ := Or.inl (List.mem_of_getElem? (i := 1308) (by decide +kernel))
set_option maxRecDepth 100000 in
theorem ml_la_122 : sm_ML "HerOrdersLaw" 122 ⟨"HerOrders", "longest", "(I)I"⟩ := Or.inl (List.mem_of_getElem? (i := 716) (by decide +kernel))
set_option maxRecDepth 100000 in
theorem ml_la_125 : sm_ML "HerOrdersLaw" 125 ⟨"HerOrdersModel", "longest", "(I)I"⟩ := Or.inl (List.mem_of_getElem? (i := 1319) (by decide +kernel))
set_option maxRecDepth 100000 in
theorem ml_la_126 : sm_ML "HerOrdersLaw" 126 ⟨"HerOrders", "heard", "(I)I"⟩ := Or.inl (List.mem_of_getElem? (i := 738) (by decide +kernel))
set_option maxRecDepth 100000 in
theorem ml_la_129 : sm_ML "HerOrdersLaw" 129 ⟨"HerOrdersModel", "heard", "(I)I"⟩ := Or.inl (List.mem_of_getElem? (i := 1323) (by decide +kernel))
set_option maxRecDepth 100000 in
theorem ml_la_130 : sm_ML "HerOrdersLaw" 130 ⟨"HerOrders", "sure", "(I)I"⟩ := Or.inl (List.mem_of_getElem? (i := 754) (by decide +kernel))
set_option maxRecDepth 100000 in
theorem ml_la_133 : sm_ML "HerOrdersLaw" 133 ⟨"HerOrdersModel", "sure", "(I)I"⟩ := Or.inl (List.mem_of_getElem? (i := 1327) (by decide +kernel))
set_option maxRecDepth 100000 in
theorem ml_la_134 : sm_ML "HerOrdersLaw" 134 ⟨"HerOrders", "kinds", "(II)I"⟩ := Or.inl (List.mem_of_getElem? (i := 762) (by decide +kernel))
set_option maxRecDepth 100000 in
theorem ml_la_137 : sm_ML "HerOrdersLaw" 137 ⟨"HerOrdersModel", "kinds", "(II)I"⟩ := Or.inl (List.mem_of_getElem? (i := 1331) (by decide +kernel))
set_option maxRecDepth 100000 in
theorem ml_la_138 : sm_ML "HerOrdersLaw" 138 ⟨"HerOrders", "test", "(II)I"⟩ := Or.inl (List.mem_of_getElem? (i := 783) (by decide +kernel))
set_option maxRecDepth 100000 in
theorem ml_la_141 : sm_ML "HerOrdersLaw" 141 ⟨"HerOrdersModel", "test", "(II)I"⟩ := Or.inl (List.mem_of_getElem? (i := 1343) (by decide +kernel))
set_option maxRecDepth 100000 in
theorem ml_la_142 : sm_ML "HerOrdersLaw" 142 ⟨"HerOrders", "fourth", "(II)I"⟩ := Or.inl (List.mem_of_getElem? (i := 792) (by decide +kernel))
set_option maxRecDepth 100000 in
theorem ml_la_145 : sm_ML "HerOrdersLaw" 145 ⟨"HerOrdersModel", "fourth", "(II)I"⟩ := Or.inl (List.mem_of_getElem? (i := 1347) (by decide +kernel))
set_option maxRecDepth 100000 in
theorem ml_la_146 : sm_ML "HerOrdersLaw" 146 ⟨"HerOrders", "off", "(I)I"⟩ := Or.inl (List.mem_of_getElem? (i := 804) (by decide +kernel))
set_option maxRecDepth 100000 in
theorem ml_la_149 : sm_ML "HerOrdersLaw" 149 ⟨"HerOrdersModel", "off", "(I)I"⟩ := Or.inl (List.mem_of_getElem? (i := 1351) (by decide +kernel))
set_option maxRecDepth 100000 in
theorem ml_la_150 : sm_ML "HerOrdersLaw" 150 ⟨"HerOrders", "struck", "(I)I"⟩ := Or.inl (List.mem_of_getElem? (i := 813) (by decide +kernel))
set_option maxRecDepth 100000 in
theorem ml_la_153 : sm_ML "HerOrdersLaw" 153 ⟨"HerOrdersModel", "struck", "(I)I"⟩ := Or.inl (List.mem_of_getElem? (i := 1355) (by decide +kernel))
set_option maxRecDepth 100000 in
theorem ml_la_154 : sm_ML "HerOrdersLaw" 154 ⟨"HerOrders", "odds", "(II)I"⟩ := Or.inl (List.mem_of_getElem? (i := 826) (by decide +kernel))
set_option maxRecDepth 100000 in
theorem ml_la_157 : sm_ML "HerOrdersLaw" 157 ⟨"HerOrdersModel", "odds", "(II)I"⟩ := Or.inl (List.mem_of_getElem? (i := 1379) (by decide +kernel))
set_option maxRecDepth 100000 in
theorem ml_la_158 : sm_ML "HerOrdersLaw" 158 ⟨"HerOrders", "mid", "(II)I"⟩ := Or.inl (List.mem_of_getElem? (i := 848) (by decide +kernel))
set_option maxRecDepth 100000 in
theorem ml_la_161 : sm_ML "HerOrdersLaw" 161 ⟨"HerOrdersModel", "mid", "(II)I"⟩ := Or.inl (List.mem_of_getElem? (i := 1392) (by decide +kernel))
set_option maxRecDepth 100000 in
theorem ml_la_162 : sm_ML "HerOrdersLaw" 162 ⟨"HerOrders", "lots", "(II)I"⟩ := Or.inl (List.mem_of_getElem? (i := 856) (by decide +kernel))
set_option maxRecDepth 100000 in
theorem ml_la_165 : sm_ML "HerOrdersLaw" 165 ⟨"HerOrdersModel", "lots", "(II)I"⟩ := Or.inl (List.mem_of_getElem? (i := 1396) (by decide +kernel))
set_option maxRecDepth 100000 in
theorem ml_la_166 : sm_ML "HerOrdersLaw" 166 ⟨"HerOrders", "asked", "()I"⟩ := Or.inl (List.mem_of_getElem? (i := 870) (by decide +kernel))
set_option maxRecDepth 100000 in
theorem ml_la_169 : sm_ML "HerOrdersLaw" 169 ⟨"HerOrdersModel", "asked", "()I"⟩ := Or.inl (List.mem_of_getElem? (i := 1407) (by decide +kernel))
set_option maxRecDepth 100000 in
theorem ml_la_170 : sm_ML "HerOrdersLaw" 170 ⟨"HerOrders", "upper", "()J"⟩ := Or.inl (List.mem_of_getElem? (i := 874) (by decide +kernel))
set_option maxRecDepth 100000 in
theorem ml_la_174 : sm_ML "HerOrdersLaw" 174 ⟨"HerOrdersModel", "upper", "()J"⟩ := Or.inl (List.mem_of_getElem? (i := 1411) (by decide +kernel))
set_option maxRecDepth 100000 in
theorem ml_la_175 : sm_ML "HerOrdersLaw" 175 ⟨"HerOrders", "lower", "()J"⟩ := Or.inl (List.mem_of_getElem? (i := 878) (by decide +kernel))
set_option maxRecDepth 100000 in
theorem ml_la_178 : sm_ML "HerOrdersLaw" 178 ⟨"HerOrdersModel", "lower", "()J"⟩ := Or.inl (List.mem_of_getElem? (i := 1415) (by decide +kernel))
set_option maxRecDepth 100000 in
theorem ml_la_179 : sm_ML "HerOrdersLaw" 179 ⟨"HerOrders", "count", "(I)I"⟩ := Or.inl (List.mem_of_getElem? (i := 882) (by decide +kernel))
set_option maxRecDepth 100000 in
theorem ml_la_182 : sm_ML "HerOrdersLaw" 182 ⟨"HerOrdersModel", "count", "(I)I"⟩ := Or.inl (List.mem_of_getElem? (i := 1419) (by decide +kernel))
set_option maxRecDepth 100000 in
theorem ml_la_183 : sm_ML "HerOrdersLaw" 183 ⟨"HerOrders", "finding", "()I"⟩ := Or.inl (List.mem_of_getElem? (i := 910) (by decide +kernel))
set_option maxRecDepth 100000 in
theorem ml_la_186 : sm_ML "HerOrdersLaw" 186 ⟨"HerOrdersModel", "finding", "()I"⟩ := Or.inl (List.mem_of_getElem? (i := 1443) (by decide +kernel))
set_option maxRecDepth 100000 in
theorem ml_la_187 : sm_ML "HerOrdersLaw" 187 ⟨"HerOrders", "findings", "(I)I"⟩ := Or.inl (List.mem_of_getElem? (i := 914) (by decide +kernel))
set_option maxRecDepth 100000 in
theorem ml_la_190 : sm_ML "HerOrdersLaw" 190 ⟨"HerOrdersModel", "findings", "(I)I"⟩ := Or.inl (List.mem_of_getElem? (i := 1447) (by decide +kernel))
set_option maxRecDepth 100000 in
theorem ml_la_191 : sm_ML "HerOrdersLaw" 191 ⟨"HerOrders", "digest", "()J"⟩ := Or.inl (List.mem_of_getElem? (i := 918) (by decide +kernel))
set_option maxRecDepth 100000 in
theorem ml_la_194 : sm_ML "HerOrdersLaw" 194 ⟨"HerOrdersModel", "digest", "()J"⟩ := Or.inl (List.mem_of_getElem? (i := 1451) (by decide +kernel))
abbrev mi_la_law : sm_MI := (⟨"HerOrdersLaw", "law", "([I)Z"⟩, code, 4, some .boolean, 1500)
set_option maxRecDepth 100000 in
theorem ii_la_law_16 : sm_D code 16 1 17 (.iconst 0) := ⟨by decide +kernel, rfl⟩
set_option maxRecDepth 100000 in
theorem ii_la_law_17 : sm_D code 17 1 18 (.istore_n 3) := ⟨by decide +kernel, rfl⟩
set_option maxRecDepth 100000 in
theorem ii_la_law_18 : sm_D code 18 1 19 (.iload_n 3) := ⟨by decide +kernel, rfl⟩
set_option maxRecDepth 100000 in
theorem ii_la_law_19 : sm_D code 19 1 20 (.aload_n 0) := ⟨by decide +kernel, rfl⟩
set_option maxRecDepth 100000 in
theorem ii_la_law_20 : sm_D code 20 1 21 (.arraylength) := ⟨by decide +kernel, rfl⟩
set_option maxRecDepth 100000 in
theorem ii_la_law_21 : sm_D code 21 2 23 (.bipush 6) := ⟨by decide +kernel, rfl⟩
set_option maxRecDepth 100000 in
theorem ii_la_law_23 : sm_D code 23 1 24 (.isub) := ⟨by decide +kernel, rfl⟩
set_option maxRecDepth 100000 in
theorem ii_la_law_24 : sm_D code 24 3 27 (.if_icmp .gt 1361) := ⟨by decide +kernel, rfl⟩
set_option maxRecDepth 100000 in
theorem ii_la_law_27 : sm_D code 27 1 28 (.aload_n 0) := ⟨by decide +kernel, rfl⟩
set_option maxRecDepth 100000 in
theorem ii_la_law_28 : sm_D code 28 1 29 (.iload_n 3) := ⟨by decide +kernel, rfl⟩
set_option maxRecDepth 100000 in
theorem ii_la_law_29 : sm_D code 29 1 30 (.iaload) := ⟨by decide +kernel, rfl⟩
set_option maxRecDepth 100000 in
theorem ii_la_law_30 : sm_D code 30 2 32 (.bipush 63) := ⟨by decide +kernel, rfl⟩
set_option maxRecDepth 100000 in
theorem ii_la_law_32 : sm_D code 32 1 33 (.iand) := ⟨by decide +kernel, rfl⟩
set_option maxRecDepth 100000 in
theorem ii_la_law_33 : sm_D code 33 191 224 (.tableswitch 1346 0 43 #[191, 224, 267, 300, 323, 386, 409, 442, 485, 508, 531, 564, 597, 630, 643, 656, 689, 712, 735, 758, 781, 804, 827, 850, 883, 906, 919, 942, 965, 988, 1021, 1054, 1087, 1110, 1133, 1166, 1199, 1232, 1245, 1259, 1273, 1296, 1309, 1332]) := ⟨by decide +kernel, rfl⟩
set_option maxRecDepth 100000 in
theorem ii_la_law_224 : sm_D code 224 1 225 (.aload_n 1) := ⟨by decide +kernel, rfl⟩
set_option maxRecDepth 100000 in
theorem ii_la_law_225 : sm_D code 225 1 226 (.aload_n 0) := ⟨by decide +kernel, rfl⟩
set_option maxRecDepth 100000 in
theorem ii_la_law_226 : sm_D code 226 1 227 (.iload_n 3) := ⟨by decide +kernel, rfl⟩
set_option maxRecDepth 100000 in
theorem ii_la_law_227 : sm_D code 227 1 228 (.iconst 1) := ⟨by decide +kernel, rfl⟩
set_option maxRecDepth 100000 in
theorem ii_la_law_228 : sm_D code 228 1 229 (.iadd) := ⟨by decide +kernel, rfl⟩
set_option maxRecDepth 100000 in
theorem ii_la_law_229 : sm_D code 229 1 230 (.iaload) := ⟨by decide +kernel, rfl⟩
set_option maxRecDepth 100000 in
theorem ii_la_law_230 : sm_D code 230 1 231 (.aload_n 0) := ⟨by decide +kernel, rfl⟩
set_option maxRecDepth 100000 in
theorem ii_la_law_231 : sm_D code 231 1 232 (.iload_n 3) := ⟨by decide +kernel, rfl⟩
set_option maxRecDepth 100000 in
theorem ii_la_law_232 : sm_D code 232 1 233 (.iconst 2) := ⟨by decide +kernel, rfl⟩
set_option maxRecDepth 100000 in
theorem ii_la_law_233 : sm_D code 233 1 234 (.iadd) := ⟨by decide +kernel, rfl⟩
set_option maxRecDepth 100000 in
theorem ii_la_law_234 : sm_D code 234 1 235 (.iaload) := ⟨by decide +kernel, rfl⟩
set_option maxRecDepth 100000 in
theorem ii_la_law_235 : sm_D code 235 3 238 (.invokevirtual 13) := ⟨by decide +kernel, rfl⟩
set_option maxRecDepth 100000 in
theorem ii_la_law_238 : sm_D code 238 1 239 (.aload_n 2) := ⟨by decide +kernel, rfl⟩
set_option maxRecDepth 100000 in
theorem ii_la_law_239 : sm_D code 239 1 240 (.aload_n 0) := ⟨by decide +kernel, rfl⟩
set_option maxRecDepth 100000 in
theorem ii_la_law_240 : sm_D code 240 1 241 (.iload_n 3) := ⟨by decide +kernel, rfl⟩
set_option maxRecDepth 100000 in
theorem ii_la_law_241 : sm_D code 241 1 242 (.iconst 1) := ⟨by decide +kernel, rfl⟩
set_option maxRecDepth 100000 in
theorem ii_la_law_242 : sm_D code 242 1 243 (.iadd) := ⟨by decide +kernel, rfl⟩
set_option maxRecDepth 100000 in
theorem ii_la_law_243 : sm_D code 243 1 244 (.iaload) := ⟨by decide +kernel, rfl⟩
set_option maxRecDepth 100000 in
theorem ii_la_law_244 : sm_D code 244 1 245 (.aload_n 0) := ⟨by decide +kernel, rfl⟩
set_option maxRecDepth 100000 in
theorem ii_la_law_245 : sm_D code 245 1 246 (.iload_n 3) := ⟨by decide +kernel, rfl⟩
set_option maxRecDepth 100000 in
theorem ii_la_law_246 : sm_D code 246 1 247 (.iconst 2) := ⟨by decide +kernel, rfl⟩
set_option maxRecDepth 100000 in
theorem ii_la_law_247 : sm_D code 247 1 248 (.iadd) := ⟨by decide +kernel, rfl⟩
set_option maxRecDepth 100000 in
theorem ii_la_law_248 : sm_D code 248 1 249 (.iaload) := ⟨by decide +kernel, rfl⟩
set_option maxRecDepth 100000 in
theorem ii_la_law_249 : sm_D code 249 3 252 (.invokevirtual 17) := ⟨by decide +kernel, rfl⟩
set_option maxRecDepth 100000 in
theorem ii_la_law_252 : sm_D code 252 3 255 (.if_icmp .eq 1127) := ⟨by decide +kernel, rfl⟩
set_option maxRecDepth 100000 in
theorem ii_la_law_255 : sm_D code 255 1 256 (.iconst 0) := ⟨by decide +kernel, rfl⟩
set_option maxRecDepth 100000 in
theorem ii_la_law_256 : sm_D code 256 1 257 (.ireturn) := ⟨by decide +kernel, rfl⟩
set_option maxRecDepth 100000 in
theorem ii_la_law_257 : sm_D code 257 1 258 (.aload_n 1) := ⟨by decide +kernel, rfl⟩
set_option maxRecDepth 100000 in
theorem ii_la_law_258 : sm_D code 258 1 259 (.aload_n 0) := ⟨by decide +kernel, rfl⟩
set_option maxRecDepth 100000 in
theorem ii_la_law_259 : sm_D code 259 1 260 (.iload_n 3) := ⟨by decide +kernel, rfl⟩
set_option maxRecDepth 100000 in
theorem ii_la_law_260 : sm_D code 260 1 261 (.iconst 1) := ⟨by decide +kernel, rfl⟩
set_option maxRecDepth 100000 in
theorem ii_la_law_261 : sm_D code 261 1 262 (.iadd) := ⟨by decide +kernel, rfl⟩
set_option maxRecDepth 100000 in
theorem ii_la_law_262 : sm_D code 262 1 263 (.iaload) := ⟨by decide +kernel, rfl⟩
set_option maxRecDepth 100000 in
theorem ii_la_law_263 : sm_D code 263 1 264 (.aload_n 0) := ⟨by decide +kernel, rfl⟩
set_option maxRecDepth 100000 in
theorem ii_la_law_264 : sm_D code 264 1 265 (.iload_n 3) := ⟨by decide +kernel, rfl⟩
set_option maxRecDepth 100000 in
theorem ii_la_law_265 : sm_D code 265 1 266 (.iconst 2) := ⟨by decide +kernel, rfl⟩
set_option maxRecDepth 100000 in
theorem ii_la_law_266 : sm_D code 266 1 267 (.iadd) := ⟨by decide +kernel, rfl⟩
set_option maxRecDepth 100000 in
theorem ii_la_law_267 : sm_D code 267 1 268 (.iaload) := ⟨by decide +kernel, rfl⟩
set_option maxRecDepth 100000 in
theorem ii_la_law_268 : sm_D code 268 1 269 (.aload_n 0) := ⟨by decide +kernel, rfl⟩
set_option maxRecDepth 100000 in
theorem ii_la_law_269 : sm_D code 269 1 270 (.iload_n 3) := ⟨by decide +kernel, rfl⟩
set_option maxRecDepth 100000 in
theorem ii_la_law_270 : sm_D code 270 1 271 (.iconst 3) := ⟨by decide +kernel, rfl⟩
set_option maxRecDepth 100000 in
theorem ii_la_law_271 : sm_D code 271 1 272 (.iadd) := ⟨by decide +kernel, rfl⟩
set_option maxRecDepth 100000 in
theorem ii_la_law_272 : sm_D code 272 1 273 (.iaload) := ⟨by decide +kernel, rfl⟩
set_option maxRecDepth 100000 in
theorem ii_la_law_273 : sm_D code 273 3 276 (.invokevirtual 18) := ⟨by decide +kernel, rfl⟩
set_option maxRecDepth 100000 in
theorem ii_la_law_276 : sm_D code 276 1 277 (.aload_n 2) := ⟨by decide +kernel, rfl⟩
set_option maxRecDepth 100000 in
theorem ii_la_law_277 : sm_D code 277 1 278 (.aload_n 0) := ⟨by decide +kernel, rfl⟩
set_option maxRecDepth 100000 in
theorem ii_la_law_278 : sm_D code 278 1 279 (.iload_n 3) := ⟨by decide +kernel, rfl⟩
set_option maxRecDepth 100000 in
theorem ii_la_law_279 : sm_D code 279 1 280 (.iconst 1) := ⟨by decide +kernel, rfl⟩
set_option maxRecDepth 100000 in
theorem ii_la_law_280 : sm_D code 280 1 281 (.iadd) := ⟨by decide +kernel, rfl⟩
set_option maxRecDepth 100000 in
theorem ii_la_law_281 : sm_D code 281 1 282 (.iaload) := ⟨by decide +kernel, rfl⟩
set_option maxRecDepth 100000 in
theorem ii_la_law_282 : sm_D code 282 1 283 (.aload_n 0) := ⟨by decide +kernel, rfl⟩
set_option maxRecDepth 100000 in
theorem ii_la_law_283 : sm_D code 283 1 284 (.iload_n 3) := ⟨by decide +kernel, rfl⟩
set_option maxRecDepth 100000 in
theorem ii_la_law_284 : sm_D code 284 1 285 (.iconst 2) := ⟨by decide +kernel, rfl⟩
set_option maxRecDepth 100000 in
theorem ii_la_law_285 : sm_D code 285 1 286 (.iadd) := ⟨by decide +kernel, rfl⟩
set_option maxRecDepth 100000 in
theorem ii_la_law_286 : sm_D code 286 1 287 (.iaload) := ⟨by decide +kernel, rfl⟩
set_option maxRecDepth 100000 in
theorem ii_la_law_287 : sm_D code 287 1 288 (.aload_n 0) := ⟨by decide +kernel, rfl⟩
set_option maxRecDepth 100000 in
theorem ii_la_law_288 : sm_D code 288 1 289 (.iload_n 3) := ⟨by decide +kernel, rfl⟩
set_option maxRecDepth 100000 in
theorem ii_la_law_289 : sm_D code 289 1 290 (.iconst 3) := ⟨by decide +kernel, rfl⟩
set_option maxRecDepth 100000 in
theorem ii_la_law_290 : sm_D code 290 1 291 (.iadd) := ⟨by decide +kernel, rfl⟩
set_option maxRecDepth 100000 in
theorem ii_la_law_291 : sm_D code 291 1 292 (.iaload) := ⟨by decide +kernel, rfl⟩
set_option maxRecDepth 100000 in
theorem ii_la_law_292 : sm_D code 292 3 295 (.invokevirtual 22) := ⟨by decide +kernel, rfl⟩
set_option maxRecDepth 100000 in
theorem ii_la_law_295 : sm_D code 295 3 298 (.if_icmp .eq 1084) := ⟨by decide +kernel, rfl⟩
set_option maxRecDepth 100000 in
theorem ii_la_law_298 : sm_D code 298 1 299 (.iconst 0) := ⟨by decide +kernel, rfl⟩
set_option maxRecDepth 100000 in
theorem ii_la_law_299 : sm_D code 299 1 300 (.ireturn) := ⟨by decide +kernel, rfl⟩
set_option maxRecDepth 100000 in
theorem ii_la_law_300 : sm_D code 300 1 301 (.aload_n 1) := ⟨by decide +kernel, rfl⟩
set_option maxRecDepth 100000 in
theorem ii_la_law_301 : sm_D code 301 1 302 (.aload_n 0) := ⟨by decide +kernel, rfl⟩
set_option maxRecDepth 100000 in
theorem ii_la_law_302 : sm_D code 302 1 303 (.iload_n 3) := ⟨by decide +kernel, rfl⟩
set_option maxRecDepth 100000 in
theorem ii_la_law_303 : sm_D code 303 1 304 (.iconst 1) := ⟨by decide +kernel, rfl⟩
set_option maxRecDepth 100000 in
theorem ii_la_law_304 : sm_D code 304 1 305 (.iadd) := ⟨by decide +kernel, rfl⟩
set_option maxRecDepth 100000 in
theorem ii_la_law_305 : sm_D code 305 1 306 (.iaload) := ⟨by decide +kernel, rfl⟩
set_option maxRecDepth 100000 in
theorem ii_la_law_306 : sm_D code 306 1 307 (.aload_n 0) := ⟨by decide +kernel, rfl⟩
set_option maxRecDepth 100000 in
theorem ii_la_law_307 : sm_D code 307 1 308 (.iload_n 3) := ⟨by decide +kernel, rfl⟩
set_option maxRecDepth 100000 in
theorem ii_la_law_308 : sm_D code 308 1 309 (.iconst 2) := ⟨by decide +kernel, rfl⟩
set_option maxRecDepth 100000 in
theorem ii_la_law_309 : sm_D code 309 1 310 (.iadd) := ⟨by decide +kernel, rfl⟩
set_option maxRecDepth 100000 in
theorem ii_la_law_310 : sm_D code 310 1 311 (.iaload) := ⟨by decide +kernel, rfl⟩
set_option maxRecDepth 100000 in
theorem ii_la_law_311 : sm_D code 311 3 314 (.invokevirtual 23) := ⟨by decide +kernel, rfl⟩
set_option maxRecDepth 100000 in
theorem ii_la_law_314 : sm_D code 314 1 315 (.aload_n 2) := ⟨by decide +kernel, rfl⟩
set_option maxRecDepth 100000 in
theorem ii_la_law_315 : sm_D code 315 1 316 (.aload_n 0) := ⟨by decide +kernel, rfl⟩
set_option maxRecDepth 100000 in
theorem ii_la_law_316 : sm_D code 316 1 317 (.iload_n 3) := ⟨by decide +kernel, rfl⟩
set_option maxRecDepth 100000 in
theorem ii_la_law_317 : sm_D code 317 1 318 (.iconst 1) := ⟨by decide +kernel, rfl⟩
set_option maxRecDepth 100000 in
theorem ii_la_law_318 : sm_D code 318 1 319 (.iadd) := ⟨by decide +kernel, rfl⟩
set_option maxRecDepth 100000 in
theorem ii_la_law_319 : sm_D code 319 1 320 (.iaload) := ⟨by decide +kernel, rfl⟩
set_option maxRecDepth 100000 in
theorem ii_la_law_320 : sm_D code 320 1 321 (.aload_n 0) := ⟨by decide +kernel, rfl⟩
set_option maxRecDepth 100000 in
theorem ii_la_law_321 : sm_D code 321 1 322 (.iload_n 3) := ⟨by decide +kernel, rfl⟩
set_option maxRecDepth 100000 in
theorem ii_la_law_322 : sm_D code 322 1 323 (.iconst 2) := ⟨by decide +kernel, rfl⟩
set_option maxRecDepth 100000 in
theorem ii_la_law_323 : sm_D code 323 1 324 (.iadd) := ⟨by decide +kernel, rfl⟩
set_option maxRecDepth 100000 in
theorem ii_la_law_324 : sm_D code 324 1 325 (.iaload) := ⟨by decide +kernel, rfl⟩
set_option maxRecDepth 100000 in
theorem ii_la_law_325 : sm_D code 325 3 328 (.invokevirtual 26) := ⟨by decide +kernel, rfl⟩
set_option maxRecDepth 100000 in
theorem ii_la_law_328 : sm_D code 328 3 331 (.if_icmp .eq 1051) := ⟨by decide +kernel, rfl⟩
set_option maxRecDepth 100000 in
theorem ii_la_law_331 : sm_D code 331 1 332 (.iconst 0) := ⟨by decide +kernel, rfl⟩
set_option maxRecDepth 100000 in
theorem ii_la_law_332 : sm_D code 332 1 333 (.ireturn) := ⟨by decide +kernel, rfl⟩
set_option maxRecDepth 100000 in
theorem ii_la_law_333 : sm_D code 333 1 334 (.aload_n 1) := ⟨by decide +kernel, rfl⟩
set_option maxRecDepth 100000 in
theorem ii_la_law_334 : sm_D code 334 1 335 (.aload_n 0) := ⟨by decide +kernel, rfl⟩
set_option maxRecDepth 100000 in
theorem ii_la_law_335 : sm_D code 335 1 336 (.iload_n 3) := ⟨by decide +kernel, rfl⟩
set_option maxRecDepth 100000 in
theorem ii_la_law_336 : sm_D code 336 1 337 (.iconst 1) := ⟨by decide +kernel, rfl⟩
set_option maxRecDepth 100000 in
theorem ii_la_law_337 : sm_D code 337 1 338 (.iadd) := ⟨by decide +kernel, rfl⟩
set_option maxRecDepth 100000 in
theorem ii_la_law_338 : sm_D code 338 1 339 (.iaload) := ⟨by decide +kernel, rfl⟩
set_option maxRecDepth 100000 in
theorem ii_la_law_339 : sm_D code 339 3 342 (.invokevirtual 27) := ⟨by decide +kernel, rfl⟩
set_option maxRecDepth 100000 in
theorem ii_la_law_342 : sm_D code 342 1 343 (.aload_n 2) := ⟨by decide +kernel, rfl⟩
set_option maxRecDepth 100000 in
theorem ii_la_law_343 : sm_D code 343 1 344 (.aload_n 0) := ⟨by decide +kernel, rfl⟩
set_option maxRecDepth 100000 in
theorem ii_la_law_344 : sm_D code 344 1 345 (.iload_n 3) := ⟨by decide +kernel, rfl⟩
set_option maxRecDepth 100000 in
theorem ii_la_law_345 : sm_D code 345 1 346 (.iconst 1) := ⟨by decide +kernel, rfl⟩
set_option maxRecDepth 100000 in
theorem ii_la_law_346 : sm_D code 346 1 347 (.iadd) := ⟨by decide +kernel, rfl⟩
set_option maxRecDepth 100000 in
theorem ii_la_law_347 : sm_D code 347 1 348 (.iaload) := ⟨by decide +kernel, rfl⟩
set_option maxRecDepth 100000 in
theorem ii_la_law_348 : sm_D code 348 3 351 (.invokevirtual 31) := ⟨by decide +kernel, rfl⟩
set_option maxRecDepth 100000 in
theorem ii_la_law_351 : sm_D code 351 3 354 (.if_icmp .eq 1028) := ⟨by decide +kernel, rfl⟩
set_option maxRecDepth 100000 in
theorem ii_la_law_354 : sm_D code 354 1 355 (.iconst 0) := ⟨by decide +kernel, rfl⟩
set_option maxRecDepth 100000 in
theorem ii_la_law_355 : sm_D code 355 1 356 (.ireturn) := ⟨by decide +kernel, rfl⟩
set_option maxRecDepth 100000 in
theorem ii_la_law_356 : sm_D code 356 1 357 (.aload_n 1) := ⟨by decide +kernel, rfl⟩
set_option maxRecDepth 100000 in
theorem ii_la_law_357 : sm_D code 357 1 358 (.aload_n 0) := ⟨by decide +kernel, rfl⟩
set_option maxRecDepth 100000 in
theorem ii_la_law_358 : sm_D code 358 1 359 (.iload_n 3) := ⟨by decide +kernel, rfl⟩
set_option maxRecDepth 100000 in
theorem ii_la_law_359 : sm_D code 359 1 360 (.iconst 1) := ⟨by decide +kernel, rfl⟩
set_option maxRecDepth 100000 in
theorem ii_la_law_360 : sm_D code 360 1 361 (.iadd) := ⟨by decide +kernel, rfl⟩
set_option maxRecDepth 100000 in
theorem ii_la_law_361 : sm_D code 361 1 362 (.iaload) := ⟨by decide +kernel, rfl⟩
set_option maxRecDepth 100000 in
theorem ii_la_law_362 : sm_D code 362 1 363 (.aload_n 0) := ⟨by decide +kernel, rfl⟩
set_option maxRecDepth 100000 in
theorem ii_la_law_363 : sm_D code 363 1 364 (.iload_n 3) := ⟨by decide +kernel, rfl⟩
set_option maxRecDepth 100000 in
theorem ii_la_law_364 : sm_D code 364 1 365 (.iconst 2) := ⟨by decide +kernel, rfl⟩
set_option maxRecDepth 100000 in
theorem ii_la_law_365 : sm_D code 365 1 366 (.iadd) := ⟨by decide +kernel, rfl⟩
set_option maxRecDepth 100000 in
theorem ii_la_law_366 : sm_D code 366 1 367 (.iaload) := ⟨by decide +kernel, rfl⟩
set_option maxRecDepth 100000 in
theorem ii_la_law_367 : sm_D code 367 1 368 (.aload_n 0) := ⟨by decide +kernel, rfl⟩
set_option maxRecDepth 100000 in
theorem ii_la_law_368 : sm_D code 368 1 369 (.iload_n 3) := ⟨by decide +kernel, rfl⟩
set_option maxRecDepth 100000 in
theorem ii_la_law_369 : sm_D code 369 1 370 (.iconst 3) := ⟨by decide +kernel, rfl⟩
set_option maxRecDepth 100000 in
theorem ii_la_law_370 : sm_D code 370 1 371 (.iadd) := ⟨by decide +kernel, rfl⟩
set_option maxRecDepth 100000 in
theorem ii_la_law_371 : sm_D code 371 1 372 (.iaload) := ⟨by decide +kernel, rfl⟩
set_option maxRecDepth 100000 in
theorem ii_la_law_372 : sm_D code 372 1 373 (.aload_n 0) := ⟨by decide +kernel, rfl⟩
set_option maxRecDepth 100000 in
theorem ii_la_law_373 : sm_D code 373 1 374 (.iload_n 3) := ⟨by decide +kernel, rfl⟩
set_option maxRecDepth 100000 in
theorem ii_la_law_374 : sm_D code 374 1 375 (.iconst 4) := ⟨by decide +kernel, rfl⟩
set_option maxRecDepth 100000 in
theorem ii_la_law_375 : sm_D code 375 1 376 (.iadd) := ⟨by decide +kernel, rfl⟩
set_option maxRecDepth 100000 in
theorem ii_la_law_376 : sm_D code 376 1 377 (.iaload) := ⟨by decide +kernel, rfl⟩
set_option maxRecDepth 100000 in
theorem ii_la_law_377 : sm_D code 377 1 378 (.aload_n 0) := ⟨by decide +kernel, rfl⟩
set_option maxRecDepth 100000 in
theorem ii_la_law_378 : sm_D code 378 1 379 (.iload_n 3) := ⟨by decide +kernel, rfl⟩
set_option maxRecDepth 100000 in
theorem ii_la_law_379 : sm_D code 379 1 380 (.iconst 5) := ⟨by decide +kernel, rfl⟩
set_option maxRecDepth 100000 in
theorem ii_la_law_380 : sm_D code 380 1 381 (.iadd) := ⟨by decide +kernel, rfl⟩
set_option maxRecDepth 100000 in
theorem ii_la_law_381 : sm_D code 381 1 382 (.iaload) := ⟨by decide +kernel, rfl⟩
set_option maxRecDepth 100000 in
theorem ii_la_law_382 : sm_D code 382 3 385 (.invokevirtual 32) := ⟨by decide +kernel, rfl⟩
set_option maxRecDepth 100000 in
theorem ii_la_law_385 : sm_D code 385 1 386 (.aload_n 2) := ⟨by decide +kernel, rfl⟩
set_option maxRecDepth 100000 in
theorem ii_la_law_386 : sm_D code 386 1 387 (.aload_n 0) := ⟨by decide +kernel, rfl⟩
set_option maxRecDepth 100000 in
theorem ii_la_law_387 : sm_D code 387 1 388 (.iload_n 3) := ⟨by decide +kernel, rfl⟩
set_option maxRecDepth 100000 in
theorem ii_la_law_388 : sm_D code 388 1 389 (.iconst 1) := ⟨by decide +kernel, rfl⟩
set_option maxRecDepth 100000 in
theorem ii_la_law_389 : sm_D code 389 1 390 (.iadd) := ⟨by decide +kernel, rfl⟩
set_option maxRecDepth 100000 in
theorem ii_la_law_390 : sm_D code 390 1 391 (.iaload) := ⟨by decide +kernel, rfl⟩
set_option maxRecDepth 100000 in
theorem ii_la_law_391 : sm_D code 391 1 392 (.aload_n 0) := ⟨by decide +kernel, rfl⟩
set_option maxRecDepth 100000 in
theorem ii_la_law_392 : sm_D code 392 1 393 (.iload_n 3) := ⟨by decide +kernel, rfl⟩
set_option maxRecDepth 100000 in
theorem ii_la_law_393 : sm_D code 393 1 394 (.iconst 2) := ⟨by decide +kernel, rfl⟩
set_option maxRecDepth 100000 in
theorem ii_la_law_394 : sm_D code 394 1 395 (.iadd) := ⟨by decide +kernel, rfl⟩
set_option maxRecDepth 100000 in
theorem ii_la_law_395 : sm_D code 395 1 396 (.iaload) := ⟨by decide +kernel, rfl⟩
set_option maxRecDepth 100000 in
theorem ii_la_law_396 : sm_D code 396 1 397 (.aload_n 0) := ⟨by decide +kernel, rfl⟩
set_option maxRecDepth 100000 in
theorem ii_la_law_397 : sm_D code 397 1 398 (.iload_n 3) := ⟨by decide +kernel, rfl⟩
set_option maxRecDepth 100000 in
theorem ii_la_law_398 : sm_D code 398 1 399 (.iconst 3) := ⟨by decide +kernel, rfl⟩
set_option maxRecDepth 100000 in
theorem ii_la_law_399 : sm_D code 399 1 400 (.iadd) := ⟨by decide +kernel, rfl⟩
set_option maxRecDepth 100000 in
theorem ii_la_law_400 : sm_D code 400 1 401 (.iaload) := ⟨by decide +kernel, rfl⟩
set_option maxRecDepth 100000 in
theorem ii_la_law_401 : sm_D code 401 1 402 (.aload_n 0) := ⟨by decide +kernel, rfl⟩
set_option maxRecDepth 100000 in
theorem ii_la_law_402 : sm_D code 402 1 403 (.iload_n 3) := ⟨by decide +kernel, rfl⟩
set_option maxRecDepth 100000 in
theorem ii_la_law_403 : sm_D code 403 1 404 (.iconst 4) := ⟨by decide +kernel, rfl⟩
set_option maxRecDepth 100000 in
theorem ii_la_law_404 : sm_D code 404 1 405 (.iadd) := ⟨by decide +kernel, rfl⟩
set_option maxRecDepth 100000 in
theorem ii_la_law_405 : sm_D code 405 1 406 (.iaload) := ⟨by decide +kernel, rfl⟩
set_option maxRecDepth 100000 in
theorem ii_la_law_406 : sm_D code 406 1 407 (.aload_n 0) := ⟨by decide +kernel, rfl⟩
set_option maxRecDepth 100000 in
theorem ii_la_law_407 : sm_D code 407 1 408 (.iload_n 3) := ⟨by decide +kernel, rfl⟩
set_option maxRecDepth 100000 in
theorem ii_la_law_408 : sm_D code 408 1 409 (.iconst 5) := ⟨by decide +kernel, rfl⟩
set_option maxRecDepth 100000 in
theorem ii_la_law_409 : sm_D code 409 1 410 (.iadd) := ⟨by decide +kernel, rfl⟩
set_option maxRecDepth 100000 in
theorem ii_la_law_410 : sm_D code 410 1 411 (.iaload) := ⟨by decide +kernel, rfl⟩
set_option maxRecDepth 100000 in
theorem ii_la_law_411 : sm_D code 411 3 414 (.invokevirtual 36) := ⟨by decide +kernel, rfl⟩
set_option maxRecDepth 100000 in
theorem ii_la_law_414 : sm_D code 414 3 417 (.if_icmp .eq 965) := ⟨by decide +kernel, rfl⟩
set_option maxRecDepth 100000 in
theorem ii_la_law_417 : sm_D code 417 1 418 (.iconst 0) := ⟨by decide +kernel, rfl⟩
set_option maxRecDepth 100000 in
theorem ii_la_law_418 : sm_D code 418 1 419 (.ireturn) := ⟨by decide +kernel, rfl⟩
set_option maxRecDepth 100000 in
theorem ii_la_law_419 : sm_D code 419 1 420 (.aload_n 1) := ⟨by decide +kernel, rfl⟩
set_option maxRecDepth 100000 in
theorem ii_la_law_420 : sm_D code 420 1 421 (.aload_n 0) := ⟨by decide +kernel, rfl⟩
set_option maxRecDepth 100000 in
theorem ii_la_law_421 : sm_D code 421 1 422 (.iload_n 3) := ⟨by decide +kernel, rfl⟩
set_option maxRecDepth 100000 in
theorem ii_la_law_422 : sm_D code 422 1 423 (.iconst 1) := ⟨by decide +kernel, rfl⟩
set_option maxRecDepth 100000 in
theorem ii_la_law_423 : sm_D code 423 1 424 (.iadd) := ⟨by decide +kernel, rfl⟩
set_option maxRecDepth 100000 in
theorem ii_la_law_424 : sm_D code 424 1 425 (.iaload) := ⟨by decide +kernel, rfl⟩
set_option maxRecDepth 100000 in
theorem ii_la_law_425 : sm_D code 425 3 428 (.invokevirtual 37) := ⟨by decide +kernel, rfl⟩
set_option maxRecDepth 100000 in
theorem ii_la_law_428 : sm_D code 428 1 429 (.aload_n 2) := ⟨by decide +kernel, rfl⟩
set_option maxRecDepth 100000 in
theorem ii_la_law_429 : sm_D code 429 1 430 (.aload_n 0) := ⟨by decide +kernel, rfl⟩
set_option maxRecDepth 100000 in
theorem ii_la_law_430 : sm_D code 430 1 431 (.iload_n 3) := ⟨by decide +kernel, rfl⟩
set_option maxRecDepth 100000 in
theorem ii_la_law_431 : sm_D code 431 1 432 (.iconst 1) := ⟨by decide +kernel, rfl⟩
set_option maxRecDepth 100000 in
theorem ii_la_law_432 : sm_D code 432 1 433 (.iadd) := ⟨by decide +kernel, rfl⟩
set_option maxRecDepth 100000 in
theorem ii_la_law_433 : sm_D code 433 1 434 (.iaload) := ⟨by decide +kernel, rfl⟩
set_option maxRecDepth 100000 in
theorem ii_la_law_434 : sm_D code 434 3 437 (.invokevirtual 40) := ⟨by decide +kernel, rfl⟩
set_option maxRecDepth 100000 in
theorem ii_la_law_437 : sm_D code 437 3 440 (.if_icmp .eq 942) := ⟨by decide +kernel, rfl⟩
set_option maxRecDepth 100000 in
theorem ii_la_law_440 : sm_D code 440 1 441 (.iconst 0) := ⟨by decide +kernel, rfl⟩
set_option maxRecDepth 100000 in
theorem ii_la_law_441 : sm_D code 441 1 442 (.ireturn) := ⟨by decide +kernel, rfl⟩
set_option maxRecDepth 100000 in
theorem ii_la_law_442 : sm_D code 442 1 443 (.aload_n 1) := ⟨by decide +kernel, rfl⟩
set_option maxRecDepth 100000 in
theorem ii_la_law_443 : sm_D code 443 1 444 (.aload_n 0) := ⟨by decide +kernel, rfl⟩
set_option maxRecDepth 100000 in
theorem ii_la_law_444 : sm_D code 444 1 445 (.iload_n 3) := ⟨by decide +kernel, rfl⟩
set_option maxRecDepth 100000 in
theorem ii_la_law_445 : sm_D code 445 1 446 (.iconst 1) := ⟨by decide +kernel, rfl⟩
set_option maxRecDepth 100000 in
theorem ii_la_law_446 : sm_D code 446 1 447 (.iadd) := ⟨by decide +kernel, rfl⟩
set_option maxRecDepth 100000 in
theorem ii_la_law_447 : sm_D code 447 1 448 (.iaload) := ⟨by decide +kernel, rfl⟩
set_option maxRecDepth 100000 in
theorem ii_la_law_448 : sm_D code 448 1 449 (.aload_n 0) := ⟨by decide +kernel, rfl⟩
set_option maxRecDepth 100000 in
theorem ii_la_law_449 : sm_D code 449 1 450 (.iload_n 3) := ⟨by decide +kernel, rfl⟩
set_option maxRecDepth 100000 in
theorem ii_la_law_450 : sm_D code 450 1 451 (.iconst 2) := ⟨by decide +kernel, rfl⟩
set_option maxRecDepth 100000 in
theorem ii_la_law_451 : sm_D code 451 1 452 (.iadd) := ⟨by decide +kernel, rfl⟩
set_option maxRecDepth 100000 in
theorem ii_la_law_452 : sm_D code 452 1 453 (.iaload) := ⟨by decide +kernel, rfl⟩
set_option maxRecDepth 100000 in
theorem ii_la_law_453 : sm_D code 453 3 456 (.invokevirtual 41) := ⟨by decide +kernel, rfl⟩
set_option maxRecDepth 100000 in
theorem ii_la_law_456 : sm_D code 456 1 457 (.aload_n 2) := ⟨by decide +kernel, rfl⟩
set_option maxRecDepth 100000 in
theorem ii_la_law_457 : sm_D code 457 1 458 (.aload_n 0) := ⟨by decide +kernel, rfl⟩
set_option maxRecDepth 100000 in
theorem ii_la_law_458 : sm_D code 458 1 459 (.iload_n 3) := ⟨by decide +kernel, rfl⟩
set_option maxRecDepth 100000 in
theorem ii_la_law_459 : sm_D code 459 1 460 (.iconst 1) := ⟨by decide +kernel, rfl⟩
set_option maxRecDepth 100000 in
theorem ii_la_law_460 : sm_D code 460 1 461 (.iadd) := ⟨by decide +kernel, rfl⟩
set_option maxRecDepth 100000 in
theorem ii_la_law_461 : sm_D code 461 1 462 (.iaload) := ⟨by decide +kernel, rfl⟩
set_option maxRecDepth 100000 in
theorem ii_la_law_462 : sm_D code 462 1 463 (.aload_n 0) := ⟨by decide +kernel, rfl⟩
set_option maxRecDepth 100000 in
theorem ii_la_law_463 : sm_D code 463 1 464 (.iload_n 3) := ⟨by decide +kernel, rfl⟩
set_option maxRecDepth 100000 in
theorem ii_la_law_464 : sm_D code 464 1 465 (.iconst 2) := ⟨by decide +kernel, rfl⟩
set_option maxRecDepth 100000 in
theorem ii_la_law_465 : sm_D code 465 1 466 (.iadd) := ⟨by decide +kernel, rfl⟩
set_option maxRecDepth 100000 in
theorem ii_la_law_466 : sm_D code 466 1 467 (.iaload) := ⟨by decide +kernel, rfl⟩
set_option maxRecDepth 100000 in
theorem ii_la_law_467 : sm_D code 467 3 470 (.invokevirtual 44) := ⟨by decide +kernel, rfl⟩
set_option maxRecDepth 100000 in
theorem ii_la_law_470 : sm_D code 470 3 473 (.if_icmp .eq 909) := ⟨by decide +kernel, rfl⟩
set_option maxRecDepth 100000 in
theorem ii_la_law_473 : sm_D code 473 1 474 (.iconst 0) := ⟨by decide +kernel, rfl⟩
set_option maxRecDepth 100000 in
theorem ii_la_law_474 : sm_D code 474 1 475 (.ireturn) := ⟨by decide +kernel, rfl⟩
set_option maxRecDepth 100000 in
theorem ii_la_law_475 : sm_D code 475 1 476 (.aload_n 1) := ⟨by decide +kernel, rfl⟩
set_option maxRecDepth 100000 in
theorem ii_la_law_476 : sm_D code 476 1 477 (.aload_n 0) := ⟨by decide +kernel, rfl⟩
set_option maxRecDepth 100000 in
theorem ii_la_law_477 : sm_D code 477 1 478 (.iload_n 3) := ⟨by decide +kernel, rfl⟩
set_option maxRecDepth 100000 in
theorem ii_la_law_478 : sm_D code 478 1 479 (.iconst 1) := ⟨by decide +kernel, rfl⟩
set_option maxRecDepth 100000 in
theorem ii_la_law_479 : sm_D code 479 1 480 (.iadd) := ⟨by decide +kernel, rfl⟩
set_option maxRecDepth 100000 in
theorem ii_la_law_480 : sm_D code 480 1 481 (.iaload) := ⟨by decide +kernel, rfl⟩
set_option maxRecDepth 100000 in
theorem ii_la_law_481 : sm_D code 481 1 482 (.aload_n 0) := ⟨by decide +kernel, rfl⟩
set_option maxRecDepth 100000 in
theorem ii_la_law_482 : sm_D code 482 1 483 (.iload_n 3) := ⟨by decide +kernel, rfl⟩
set_option maxRecDepth 100000 in
theorem ii_la_law_483 : sm_D code 483 1 484 (.iconst 2) := ⟨by decide +kernel, rfl⟩
set_option maxRecDepth 100000 in
theorem ii_la_law_484 : sm_D code 484 1 485 (.iadd) := ⟨by decide +kernel, rfl⟩
set_option maxRecDepth 100000 in
theorem ii_la_law_485 : sm_D code 485 1 486 (.iaload) := ⟨by decide +kernel, rfl⟩
set_option maxRecDepth 100000 in
theorem ii_la_law_486 : sm_D code 486 1 487 (.aload_n 0) := ⟨by decide +kernel, rfl⟩
set_option maxRecDepth 100000 in
theorem ii_la_law_487 : sm_D code 487 1 488 (.iload_n 3) := ⟨by decide +kernel, rfl⟩
set_option maxRecDepth 100000 in
theorem ii_la_law_488 : sm_D code 488 1 489 (.iconst 3) := ⟨by decide +kernel, rfl⟩
set_option maxRecDepth 100000 in
theorem ii_la_law_489 : sm_D code 489 1 490 (.iadd) := ⟨by decide +kernel, rfl⟩
set_option maxRecDepth 100000 in
theorem ii_la_law_490 : sm_D code 490 1 491 (.iaload) := ⟨by decide +kernel, rfl⟩
set_option maxRecDepth 100000 in
theorem ii_la_law_491 : sm_D code 491 3 494 (.invokevirtual 45) := ⟨by decide +kernel, rfl⟩
set_option maxRecDepth 100000 in
theorem ii_la_law_494 : sm_D code 494 1 495 (.aload_n 2) := ⟨by decide +kernel, rfl⟩
set_option maxRecDepth 100000 in
theorem ii_la_law_495 : sm_D code 495 1 496 (.aload_n 0) := ⟨by decide +kernel, rfl⟩
set_option maxRecDepth 100000 in
theorem ii_la_law_496 : sm_D code 496 1 497 (.iload_n 3) := ⟨by decide +kernel, rfl⟩
set_option maxRecDepth 100000 in
theorem ii_la_law_497 : sm_D code 497 1 498 (.iconst 1) := ⟨by decide +kernel, rfl⟩
set_option maxRecDepth 100000 in
theorem ii_la_law_498 : sm_D code 498 1 499 (.iadd) := ⟨by decide +kernel, rfl⟩
set_option maxRecDepth 100000 in
theorem ii_la_law_499 : sm_D code 499 1 500 (.iaload) := ⟨by decide +kernel, rfl⟩
set_option maxRecDepth 100000 in
theorem ii_la_law_500 : sm_D code 500 1 501 (.aload_n 0) := ⟨by decide +kernel, rfl⟩
set_option maxRecDepth 100000 in
theorem ii_la_law_501 : sm_D code 501 1 502 (.iload_n 3) := ⟨by decide +kernel, rfl⟩
set_option maxRecDepth 100000 in
theorem ii_la_law_502 : sm_D code 502 1 503 (.iconst 2) := ⟨by decide +kernel, rfl⟩
set_option maxRecDepth 100000 in
theorem ii_la_law_503 : sm_D code 503 1 504 (.iadd) := ⟨by decide +kernel, rfl⟩
set_option maxRecDepth 100000 in
theorem ii_la_law_504 : sm_D code 504 1 505 (.iaload) := ⟨by decide +kernel, rfl⟩
set_option maxRecDepth 100000 in
theorem ii_la_law_505 : sm_D code 505 1 506 (.aload_n 0) := ⟨by decide +kernel, rfl⟩
set_option maxRecDepth 100000 in
theorem ii_la_law_506 : sm_D code 506 1 507 (.iload_n 3) := ⟨by decide +kernel, rfl⟩
set_option maxRecDepth 100000 in
theorem ii_la_law_507 : sm_D code 507 1 508 (.iconst 3) := ⟨by decide +kernel, rfl⟩
set_option maxRecDepth 100000 in
theorem ii_la_law_508 : sm_D code 508 1 509 (.iadd) := ⟨by decide +kernel, rfl⟩
set_option maxRecDepth 100000 in
theorem ii_la_law_509 : sm_D code 509 1 510 (.iaload) := ⟨by decide +kernel, rfl⟩
set_option maxRecDepth 100000 in
theorem ii_la_law_510 : sm_D code 510 3 513 (.invokevirtual 48) := ⟨by decide +kernel, rfl⟩
set_option maxRecDepth 100000 in
theorem ii_la_law_513 : sm_D code 513 3 516 (.if_icmp .eq 866) := ⟨by decide +kernel, rfl⟩
set_option maxRecDepth 100000 in
theorem ii_la_law_516 : sm_D code 516 1 517 (.iconst 0) := ⟨by decide +kernel, rfl⟩
set_option maxRecDepth 100000 in
theorem ii_la_law_517 : sm_D code 517 1 518 (.ireturn) := ⟨by decide +kernel, rfl⟩
set_option maxRecDepth 100000 in
theorem ii_la_law_518 : sm_D code 518 1 519 (.aload_n 1) := ⟨by decide +kernel, rfl⟩
set_option maxRecDepth 100000 in
theorem ii_la_law_519 : sm_D code 519 1 520 (.aload_n 0) := ⟨by decide +kernel, rfl⟩
set_option maxRecDepth 100000 in
theorem ii_la_law_520 : sm_D code 520 1 521 (.iload_n 3) := ⟨by decide +kernel, rfl⟩
set_option maxRecDepth 100000 in
theorem ii_la_law_521 : sm_D code 521 1 522 (.iconst 1) := ⟨by decide +kernel, rfl⟩
set_option maxRecDepth 100000 in
theorem ii_la_law_522 : sm_D code 522 1 523 (.iadd) := ⟨by decide +kernel, rfl⟩
set_option maxRecDepth 100000 in
theorem ii_la_law_523 : sm_D code 523 1 524 (.iaload) := ⟨by decide +kernel, rfl⟩
set_option maxRecDepth 100000 in
theorem ii_la_law_524 : sm_D code 524 3 527 (.invokevirtual 49) := ⟨by decide +kernel, rfl⟩
set_option maxRecDepth 100000 in
theorem ii_la_law_527 : sm_D code 527 1 528 (.aload_n 2) := ⟨by decide +kernel, rfl⟩
set_option maxRecDepth 100000 in
theorem ii_la_law_528 : sm_D code 528 1 529 (.aload_n 0) := ⟨by decide +kernel, rfl⟩
set_option maxRecDepth 100000 in
theorem ii_la_law_529 : sm_D code 529 1 530 (.iload_n 3) := ⟨by decide +kernel, rfl⟩
set_option maxRecDepth 100000 in
theorem ii_la_law_530 : sm_D code 530 1 531 (.iconst 1) := ⟨by decide +kernel, rfl⟩
set_option maxRecDepth 100000 in
theorem ii_la_law_531 : sm_D code 531 1 532 (.iadd) := ⟨by decide +kernel, rfl⟩
set_option maxRecDepth 100000 in
theorem ii_la_law_532 : sm_D code 532 1 533 (.iaload) := ⟨by decide +kernel, rfl⟩
set_option maxRecDepth 100000 in
theorem ii_la_law_533 : sm_D code 533 3 536 (.invokevirtual 52) := ⟨by decide +kernel, rfl⟩
set_option maxRecDepth 100000 in
theorem ii_la_law_536 : sm_D code 536 3 539 (.if_icmp .eq 843) := ⟨by decide +kernel, rfl⟩
set_option maxRecDepth 100000 in
theorem ii_la_law_539 : sm_D code 539 1 540 (.iconst 0) := ⟨by decide +kernel, rfl⟩
set_option maxRecDepth 100000 in
theorem ii_la_law_540 : sm_D code 540 1 541 (.ireturn) := ⟨by decide +kernel, rfl⟩
set_option maxRecDepth 100000 in
theorem ii_la_law_541 : sm_D code 541 1 542 (.aload_n 1) := ⟨by decide +kernel, rfl⟩
set_option maxRecDepth 100000 in
theorem ii_la_law_542 : sm_D code 542 1 543 (.aload_n 0) := ⟨by decide +kernel, rfl⟩
set_option maxRecDepth 100000 in
theorem ii_la_law_543 : sm_D code 543 1 544 (.iload_n 3) := ⟨by decide +kernel, rfl⟩
set_option maxRecDepth 100000 in
theorem ii_la_law_544 : sm_D code 544 1 545 (.iconst 1) := ⟨by decide +kernel, rfl⟩
set_option maxRecDepth 100000 in
theorem ii_la_law_545 : sm_D code 545 1 546 (.iadd) := ⟨by decide +kernel, rfl⟩
set_option maxRecDepth 100000 in
theorem ii_la_law_546 : sm_D code 546 1 547 (.iaload) := ⟨by decide +kernel, rfl⟩
set_option maxRecDepth 100000 in
theorem ii_la_law_547 : sm_D code 547 3 550 (.invokevirtual 53) := ⟨by decide +kernel, rfl⟩
set_option maxRecDepth 100000 in
theorem ii_la_law_550 : sm_D code 550 1 551 (.aload_n 2) := ⟨by decide +kernel, rfl⟩
set_option maxRecDepth 100000 in
theorem ii_la_law_551 : sm_D code 551 1 552 (.aload_n 0) := ⟨by decide +kernel, rfl⟩
set_option maxRecDepth 100000 in
theorem ii_la_law_552 : sm_D code 552 1 553 (.iload_n 3) := ⟨by decide +kernel, rfl⟩
set_option maxRecDepth 100000 in
theorem ii_la_law_553 : sm_D code 553 1 554 (.iconst 1) := ⟨by decide +kernel, rfl⟩
set_option maxRecDepth 100000 in
theorem ii_la_law_554 : sm_D code 554 1 555 (.iadd) := ⟨by decide +kernel, rfl⟩
set_option maxRecDepth 100000 in
theorem ii_la_law_555 : sm_D code 555 1 556 (.iaload) := ⟨by decide +kernel, rfl⟩
set_option maxRecDepth 100000 in
theorem ii_la_law_556 : sm_D code 556 3 559 (.invokevirtual 56) := ⟨by decide +kernel, rfl⟩
set_option maxRecDepth 100000 in
theorem ii_la_law_559 : sm_D code 559 3 562 (.if_icmp .eq 820) := ⟨by decide +kernel, rfl⟩
set_option maxRecDepth 100000 in
theorem ii_la_law_562 : sm_D code 562 1 563 (.iconst 0) := ⟨by decide +kernel, rfl⟩
set_option maxRecDepth 100000 in
theorem ii_la_law_563 : sm_D code 563 1 564 (.ireturn) := ⟨by decide +kernel, rfl⟩
set_option maxRecDepth 100000 in
theorem ii_la_law_564 : sm_D code 564 1 565 (.aload_n 1) := ⟨by decide +kernel, rfl⟩
set_option maxRecDepth 100000 in
theorem ii_la_law_565 : sm_D code 565 1 566 (.aload_n 0) := ⟨by decide +kernel, rfl⟩
set_option maxRecDepth 100000 in
theorem ii_la_law_566 : sm_D code 566 1 567 (.iload_n 3) := ⟨by decide +kernel, rfl⟩
set_option maxRecDepth 100000 in
theorem ii_la_law_567 : sm_D code 567 1 568 (.iconst 1) := ⟨by decide +kernel, rfl⟩
set_option maxRecDepth 100000 in
theorem ii_la_law_568 : sm_D code 568 1 569 (.iadd) := ⟨by decide +kernel, rfl⟩
set_option maxRecDepth 100000 in
theorem ii_la_law_569 : sm_D code 569 1 570 (.iaload) := ⟨by decide +kernel, rfl⟩
set_option maxRecDepth 100000 in
theorem ii_la_law_570 : sm_D code 570 1 571 (.aload_n 0) := ⟨by decide +kernel, rfl⟩
set_option maxRecDepth 100000 in
theorem ii_la_law_571 : sm_D code 571 1 572 (.iload_n 3) := ⟨by decide +kernel, rfl⟩
set_option maxRecDepth 100000 in
theorem ii_la_law_572 : sm_D code 572 1 573 (.iconst 2) := ⟨by decide +kernel, rfl⟩
set_option maxRecDepth 100000 in
theorem ii_la_law_573 : sm_D code 573 1 574 (.iadd) := ⟨by decide +kernel, rfl⟩
set_option maxRecDepth 100000 in
theorem ii_la_law_574 : sm_D code 574 1 575 (.iaload) := ⟨by decide +kernel, rfl⟩
set_option maxRecDepth 100000 in
theorem ii_la_law_575 : sm_D code 575 3 578 (.invokevirtual 57) := ⟨by decide +kernel, rfl⟩
set_option maxRecDepth 100000 in
theorem ii_la_law_578 : sm_D code 578 1 579 (.aload_n 2) := ⟨by decide +kernel, rfl⟩
set_option maxRecDepth 100000 in
theorem ii_la_law_579 : sm_D code 579 1 580 (.aload_n 0) := ⟨by decide +kernel, rfl⟩
set_option maxRecDepth 100000 in
theorem ii_la_law_580 : sm_D code 580 1 581 (.iload_n 3) := ⟨by decide +kernel, rfl⟩
set_option maxRecDepth 100000 in
theorem ii_la_law_581 : sm_D code 581 1 582 (.iconst 1) := ⟨by decide +kernel, rfl⟩
set_option maxRecDepth 100000 in
theorem ii_la_law_582 : sm_D code 582 1 583 (.iadd) := ⟨by decide +kernel, rfl⟩
set_option maxRecDepth 100000 in
theorem ii_la_law_583 : sm_D code 583 1 584 (.iaload) := ⟨by decide +kernel, rfl⟩
set_option maxRecDepth 100000 in
theorem ii_la_law_584 : sm_D code 584 1 585 (.aload_n 0) := ⟨by decide +kernel, rfl⟩
set_option maxRecDepth 100000 in
theorem ii_la_law_585 : sm_D code 585 1 586 (.iload_n 3) := ⟨by decide +kernel, rfl⟩
set_option maxRecDepth 100000 in
theorem ii_la_law_586 : sm_D code 586 1 587 (.iconst 2) := ⟨by decide +kernel, rfl⟩
set_option maxRecDepth 100000 in
theorem ii_la_law_587 : sm_D code 587 1 588 (.iadd) := ⟨by decide +kernel, rfl⟩
set_option maxRecDepth 100000 in
theorem ii_la_law_588 : sm_D code 588 1 589 (.iaload) := ⟨by decide +kernel, rfl⟩
set_option maxRecDepth 100000 in
theorem ii_la_law_589 : sm_D code 589 3 592 (.invokevirtual 60) := ⟨by decide +kernel, rfl⟩
set_option maxRecDepth 100000 in
theorem ii_la_law_592 : sm_D code 592 3 595 (.if_icmp .eq 787) := ⟨by decide +kernel, rfl⟩
set_option maxRecDepth 100000 in
theorem ii_la_law_595 : sm_D code 595 1 596 (.iconst 0) := ⟨by decide +kernel, rfl⟩
set_option maxRecDepth 100000 in
theorem ii_la_law_596 : sm_D code 596 1 597 (.ireturn) := ⟨by decide +kernel, rfl⟩
set_option maxRecDepth 100000 in
theorem ii_la_law_597 : sm_D code 597 1 598 (.aload_n 1) := ⟨by decide +kernel, rfl⟩
set_option maxRecDepth 100000 in
theorem ii_la_law_598 : sm_D code 598 1 599 (.aload_n 0) := ⟨by decide +kernel, rfl⟩
set_option maxRecDepth 100000 in
theorem ii_la_law_599 : sm_D code 599 1 600 (.iload_n 3) := ⟨by decide +kernel, rfl⟩
set_option maxRecDepth 100000 in
theorem ii_la_law_600 : sm_D code 600 1 601 (.iconst 1) := ⟨by decide +kernel, rfl⟩
set_option maxRecDepth 100000 in
theorem ii_la_law_601 : sm_D code 601 1 602 (.iadd) := ⟨by decide +kernel, rfl⟩
set_option maxRecDepth 100000 in
theorem ii_la_law_602 : sm_D code 602 1 603 (.iaload) := ⟨by decide +kernel, rfl⟩
set_option maxRecDepth 100000 in
theorem ii_la_law_603 : sm_D code 603 1 604 (.aload_n 0) := ⟨by decide +kernel, rfl⟩
set_option maxRecDepth 100000 in
theorem ii_la_law_604 : sm_D code 604 1 605 (.iload_n 3) := ⟨by decide +kernel, rfl⟩
set_option maxRecDepth 100000 in
theorem ii_la_law_605 : sm_D code 605 1 606 (.iconst 2) := ⟨by decide +kernel, rfl⟩
set_option maxRecDepth 100000 in
theorem ii_la_law_606 : sm_D code 606 1 607 (.iadd) := ⟨by decide +kernel, rfl⟩
set_option maxRecDepth 100000 in
theorem ii_la_law_607 : sm_D code 607 1 608 (.iaload) := ⟨by decide +kernel, rfl⟩
set_option maxRecDepth 100000 in
theorem ii_la_law_608 : sm_D code 608 3 611 (.invokevirtual 61) := ⟨by decide +kernel, rfl⟩
set_option maxRecDepth 100000 in
theorem ii_la_law_611 : sm_D code 611 1 612 (.aload_n 2) := ⟨by decide +kernel, rfl⟩
set_option maxRecDepth 100000 in
theorem ii_la_law_612 : sm_D code 612 1 613 (.aload_n 0) := ⟨by decide +kernel, rfl⟩
set_option maxRecDepth 100000 in
theorem ii_la_law_613 : sm_D code 613 1 614 (.iload_n 3) := ⟨by decide +kernel, rfl⟩
set_option maxRecDepth 100000 in
theorem ii_la_law_614 : sm_D code 614 1 615 (.iconst 1) := ⟨by decide +kernel, rfl⟩
set_option maxRecDepth 100000 in
theorem ii_la_law_615 : sm_D code 615 1 616 (.iadd) := ⟨by decide +kernel, rfl⟩
set_option maxRecDepth 100000 in
theorem ii_la_law_616 : sm_D code 616 1 617 (.iaload) := ⟨by decide +kernel, rfl⟩
set_option maxRecDepth 100000 in
theorem ii_la_law_617 : sm_D code 617 1 618 (.aload_n 0) := ⟨by decide +kernel, rfl⟩
set_option maxRecDepth 100000 in
theorem ii_la_law_618 : sm_D code 618 1 619 (.iload_n 3) := ⟨by decide +kernel, rfl⟩
set_option maxRecDepth 100000 in
theorem ii_la_law_619 : sm_D code 619 1 620 (.iconst 2) := ⟨by decide +kernel, rfl⟩
set_option maxRecDepth 100000 in
theorem ii_la_law_620 : sm_D code 620 1 621 (.iadd) := ⟨by decide +kernel, rfl⟩
set_option maxRecDepth 100000 in
theorem ii_la_law_621 : sm_D code 621 1 622 (.iaload) := ⟨by decide +kernel, rfl⟩
set_option maxRecDepth 100000 in
theorem ii_la_law_622 : sm_D code 622 3 625 (.invokevirtual 64) := ⟨by decide +kernel, rfl⟩
set_option maxRecDepth 100000 in
theorem ii_la_law_625 : sm_D code 625 3 628 (.if_icmp .eq 754) := ⟨by decide +kernel, rfl⟩
set_option maxRecDepth 100000 in
theorem ii_la_law_628 : sm_D code 628 1 629 (.iconst 0) := ⟨by decide +kernel, rfl⟩
set_option maxRecDepth 100000 in
theorem ii_la_law_629 : sm_D code 629 1 630 (.ireturn) := ⟨by decide +kernel, rfl⟩
set_option maxRecDepth 100000 in
theorem ii_la_law_630 : sm_D code 630 1 631 (.aload_n 1) := ⟨by decide +kernel, rfl⟩
set_option maxRecDepth 100000 in
theorem ii_la_law_631 : sm_D code 631 1 632 (.aload_n 0) := ⟨by decide +kernel, rfl⟩
set_option maxRecDepth 100000 in
theorem ii_la_law_632 : sm_D code 632 1 633 (.iload_n 3) := ⟨by decide +kernel, rfl⟩
set_option maxRecDepth 100000 in
theorem ii_la_law_633 : sm_D code 633 1 634 (.iconst 1) := ⟨by decide +kernel, rfl⟩
set_option maxRecDepth 100000 in
theorem ii_la_law_634 : sm_D code 634 1 635 (.iadd) := ⟨by decide +kernel, rfl⟩
set_option maxRecDepth 100000 in
theorem ii_la_law_635 : sm_D code 635 1 636 (.iaload) := ⟨by decide +kernel, rfl⟩
set_option maxRecDepth 100000 in
theorem ii_la_law_636 : sm_D code 636 1 637 (.aload_n 0) := ⟨by decide +kernel, rfl⟩
set_option maxRecDepth 100000 in
theorem ii_la_law_637 : sm_D code 637 1 638 (.iload_n 3) := ⟨by decide +kernel, rfl⟩
set_option maxRecDepth 100000 in
theorem ii_la_law_638 : sm_D code 638 1 639 (.iconst 2) := ⟨by decide +kernel, rfl⟩
set_option maxRecDepth 100000 in
theorem ii_la_law_639 : sm_D code 639 1 640 (.iadd) := ⟨by decide +kernel, rfl⟩
set_option maxRecDepth 100000 in
theorem ii_la_law_640 : sm_D code 640 1 641 (.iaload) := ⟨by decide +kernel, rfl⟩
set_option maxRecDepth 100000 in
theorem ii_la_law_641 : sm_D code 641 3 644 (.invokevirtual 65) := ⟨by decide +kernel, rfl⟩
set_option maxRecDepth 100000 in
theorem ii_la_law_644 : sm_D code 644 1 645 (.aload_n 2) := ⟨by decide +kernel, rfl⟩
set_option maxRecDepth 100000 in
theorem ii_la_law_645 : sm_D code 645 1 646 (.aload_n 0) := ⟨by decide +kernel, rfl⟩
set_option maxRecDepth 100000 in
theorem ii_la_law_646 : sm_D code 646 1 647 (.iload_n 3) := ⟨by decide +kernel, rfl⟩
set_option maxRecDepth 100000 in
theorem ii_la_law_647 : sm_D code 647 1 648 (.iconst 1) := ⟨by decide +kernel, rfl⟩
set_option maxRecDepth 100000 in
theorem ii_la_law_648 : sm_D code 648 1 649 (.iadd) := ⟨by decide +kernel, rfl⟩
set_option maxRecDepth 100000 in
theorem ii_la_law_649 : sm_D code 649 1 650 (.iaload) := ⟨by decide +kernel, rfl⟩
set_option maxRecDepth 100000 in
theorem ii_la_law_650 : sm_D code 650 1 651 (.aload_n 0) := ⟨by decide +kernel, rfl⟩
set_option maxRecDepth 100000 in
theorem ii_la_law_651 : sm_D code 651 1 652 (.iload_n 3) := ⟨by decide +kernel, rfl⟩
set_option maxRecDepth 100000 in
theorem ii_la_law_652 : sm_D code 652 1 653 (.iconst 2) := ⟨by decide +kernel, rfl⟩
set_option maxRecDepth 100000 in
theorem ii_la_law_653 : sm_D code 653 1 654 (.iadd) := ⟨by decide +kernel, rfl⟩
set_option maxRecDepth 100000 in
theorem ii_la_law_654 : sm_D code 654 1 655 (.iaload) := ⟨by decide +kernel, rfl⟩
set_option maxRecDepth 100000 in
theorem ii_la_law_655 : sm_D code 655 3 658 (.invokevirtual 68) := ⟨by decide +kernel, rfl⟩
set_option maxRecDepth 100000 in
theorem ii_la_law_658 : sm_D code 658 3 661 (.if_icmp .eq 721) := ⟨by decide +kernel, rfl⟩
set_option maxRecDepth 100000 in
theorem ii_la_law_661 : sm_D code 661 1 662 (.iconst 0) := ⟨by decide +kernel, rfl⟩
set_option maxRecDepth 100000 in
theorem ii_la_law_662 : sm_D code 662 1 663 (.ireturn) := ⟨by decide +kernel, rfl⟩
set_option maxRecDepth 100000 in
theorem ii_la_law_663 : sm_D code 663 1 664 (.aload_n 1) := ⟨by decide +kernel, rfl⟩
set_option maxRecDepth 100000 in
theorem ii_la_law_664 : sm_D code 664 3 667 (.invokevirtual 69) := ⟨by decide +kernel, rfl⟩
set_option maxRecDepth 100000 in
theorem ii_la_law_667 : sm_D code 667 1 668 (.aload_n 2) := ⟨by decide +kernel, rfl⟩
set_option maxRecDepth 100000 in
theorem ii_la_law_668 : sm_D code 668 3 671 (.invokevirtual 73) := ⟨by decide +kernel, rfl⟩
set_option maxRecDepth 100000 in
theorem ii_la_law_671 : sm_D code 671 3 674 (.if_icmp .eq 708) := ⟨by decide +kernel, rfl⟩
set_option maxRecDepth 100000 in
theorem ii_la_law_674 : sm_D code 674 1 675 (.iconst 0) := ⟨by decide +kernel, rfl⟩
set_option maxRecDepth 100000 in
theorem ii_la_law_675 : sm_D code 675 1 676 (.ireturn) := ⟨by decide +kernel, rfl⟩
set_option maxRecDepth 100000 in
theorem ii_la_law_676 : sm_D code 676 1 677 (.aload_n 1) := ⟨by decide +kernel, rfl⟩
set_option maxRecDepth 100000 in
theorem ii_la_law_677 : sm_D code 677 3 680 (.invokevirtual 74) := ⟨by decide +kernel, rfl⟩
set_option maxRecDepth 100000 in
theorem ii_la_law_680 : sm_D code 680 1 681 (.aload_n 2) := ⟨by decide +kernel, rfl⟩
set_option maxRecDepth 100000 in
theorem ii_la_law_681 : sm_D code 681 3 684 (.invokevirtual 77) := ⟨by decide +kernel, rfl⟩
set_option maxRecDepth 100000 in
theorem ii_la_law_684 : sm_D code 684 3 687 (.if_icmp .eq 695) := ⟨by decide +kernel, rfl⟩
set_option maxRecDepth 100000 in
theorem ii_la_law_687 : sm_D code 687 1 688 (.iconst 0) := ⟨by decide +kernel, rfl⟩
set_option maxRecDepth 100000 in
theorem ii_la_law_688 : sm_D code 688 1 689 (.ireturn) := ⟨by decide +kernel, rfl⟩
set_option maxRecDepth 100000 in
theorem ii_la_law_689 : sm_D code 689 1 690 (.aload_n 1) := ⟨by decide +kernel, rfl⟩
set_option maxRecDepth 100000 in
theorem ii_la_law_690 : sm_D code 690 1 691 (.aload_n 0) := ⟨by decide +kernel, rfl⟩
set_option maxRecDepth 100000 in
theorem ii_la_law_691 : sm_D code 691 1 692 (.iload_n 3) := ⟨by decide +kernel, rfl⟩
set_option maxRecDepth 100000 in
theorem ii_la_law_692 : sm_D code 692 1 693 (.iconst 1) := ⟨by decide +kernel, rfl⟩
set_option maxRecDepth 100000 in
theorem ii_la_law_693 : sm_D code 693 1 694 (.iadd) := ⟨by decide +kernel, rfl⟩
set_option maxRecDepth 100000 in
theorem ii_la_law_694 : sm_D code 694 1 695 (.iaload) := ⟨by decide +kernel, rfl⟩
set_option maxRecDepth 100000 in
theorem ii_la_law_695 : sm_D code 695 1 696 (.aload_n 0) := ⟨by decide +kernel, rfl⟩
set_option maxRecDepth 100000 in
theorem ii_la_law_696 : sm_D code 696 1 697 (.iload_n 3) := ⟨by decide +kernel, rfl⟩
set_option maxRecDepth 100000 in
theorem ii_la_law_697 : sm_D code 697 1 698 (.iconst 2) := ⟨by decide +kernel, rfl⟩
set_option maxRecDepth 100000 in
theorem ii_la_law_698 : sm_D code 698 1 699 (.iadd) := ⟨by decide +kernel, rfl⟩
set_option maxRecDepth 100000 in
theorem ii_la_law_699 : sm_D code 699 1 700 (.iaload) := ⟨by decide +kernel, rfl⟩
set_option maxRecDepth 100000 in
theorem ii_la_law_700 : sm_D code 700 3 703 (.invokevirtual 78) := ⟨by decide +kernel, rfl⟩
set_option maxRecDepth 100000 in
theorem ii_la_law_703 : sm_D code 703 1 704 (.aload_n 2) := ⟨by decide +kernel, rfl⟩
set_option maxRecDepth 100000 in
theorem ii_la_law_704 : sm_D code 704 1 705 (.aload_n 0) := ⟨by decide +kernel, rfl⟩
set_option maxRecDepth 100000 in
theorem ii_la_law_705 : sm_D code 705 1 706 (.iload_n 3) := ⟨by decide +kernel, rfl⟩
set_option maxRecDepth 100000 in
theorem ii_la_law_706 : sm_D code 706 1 707 (.iconst 1) := ⟨by decide +kernel, rfl⟩
set_option maxRecDepth 100000 in
theorem ii_la_law_707 : sm_D code 707 1 708 (.iadd) := ⟨by decide +kernel, rfl⟩
set_option maxRecDepth 100000 in
theorem ii_la_law_708 : sm_D code 708 1 709 (.iaload) := ⟨by decide +kernel, rfl⟩
set_option maxRecDepth 100000 in
theorem ii_la_law_709 : sm_D code 709 1 710 (.aload_n 0) := ⟨by decide +kernel, rfl⟩
set_option maxRecDepth 100000 in
theorem ii_la_law_710 : sm_D code 710 1 711 (.iload_n 3) := ⟨by decide +kernel, rfl⟩
set_option maxRecDepth 100000 in
theorem ii_la_law_711 : sm_D code 711 1 712 (.iconst 2) := ⟨by decide +kernel, rfl⟩
set_option maxRecDepth 100000 in
theorem ii_la_law_712 : sm_D code 712 1 713 (.iadd) := ⟨by decide +kernel, rfl⟩
set_option maxRecDepth 100000 in
theorem ii_la_law_713 : sm_D code 713 1 714 (.iaload) := ⟨by decide +kernel, rfl⟩
set_option maxRecDepth 100000 in
theorem ii_la_law_714 : sm_D code 714 3 717 (.invokevirtual 81) := ⟨by decide +kernel, rfl⟩
set_option maxRecDepth 100000 in
theorem ii_la_law_717 : sm_D code 717 3 720 (.if_icmp .eq 662) := ⟨by decide +kernel, rfl⟩
set_option maxRecDepth 100000 in
theorem ii_la_law_720 : sm_D code 720 1 721 (.iconst 0) := ⟨by decide +kernel, rfl⟩
set_option maxRecDepth 100000 in
theorem ii_la_law_721 : sm_D code 721 1 722 (.ireturn) := ⟨by decide +kernel, rfl⟩
set_option maxRecDepth 100000 in
theorem ii_la_law_722 : sm_D code 722 1 723 (.aload_n 1) := ⟨by decide +kernel, rfl⟩
set_option maxRecDepth 100000 in
theorem ii_la_law_723 : sm_D code 723 1 724 (.aload_n 0) := ⟨by decide +kernel, rfl⟩
set_option maxRecDepth 100000 in
theorem ii_la_law_724 : sm_D code 724 1 725 (.iload_n 3) := ⟨by decide +kernel, rfl⟩
set_option maxRecDepth 100000 in
theorem ii_la_law_725 : sm_D code 725 1 726 (.iconst 1) := ⟨by decide +kernel, rfl⟩
set_option maxRecDepth 100000 in
theorem ii_la_law_726 : sm_D code 726 1 727 (.iadd) := ⟨by decide +kernel, rfl⟩
set_option maxRecDepth 100000 in
theorem ii_la_law_727 : sm_D code 727 1 728 (.iaload) := ⟨by decide +kernel, rfl⟩
set_option maxRecDepth 100000 in
theorem ii_la_law_728 : sm_D code 728 3 731 (.invokevirtual 82) := ⟨by decide +kernel, rfl⟩
set_option maxRecDepth 100000 in
theorem ii_la_law_731 : sm_D code 731 1 732 (.aload_n 2) := ⟨by decide +kernel, rfl⟩
set_option maxRecDepth 100000 in
theorem ii_la_law_732 : sm_D code 732 1 733 (.aload_n 0) := ⟨by decide +kernel, rfl⟩
set_option maxRecDepth 100000 in
theorem ii_la_law_733 : sm_D code 733 1 734 (.iload_n 3) := ⟨by decide +kernel, rfl⟩
set_option maxRecDepth 100000 in
theorem ii_la_law_734 : sm_D code 734 1 735 (.iconst 1) := ⟨by decide +kernel, rfl⟩
set_option maxRecDepth 100000 in
theorem ii_la_law_735 : sm_D code 735 1 736 (.iadd) := ⟨by decide +kernel, rfl⟩
set_option maxRecDepth 100000 in
theorem ii_la_law_736 : sm_D code 736 1 737 (.iaload) := ⟨by decide +kernel, rfl⟩
set_option maxRecDepth 100000 in
theorem ii_la_law_737 : sm_D code 737 3 740 (.invokevirtual 85) := ⟨by decide +kernel, rfl⟩
set_option maxRecDepth 100000 in
theorem ii_la_law_740 : sm_D code 740 3 743 (.if_icmp .eq 639) := ⟨by decide +kernel, rfl⟩
set_option maxRecDepth 100000 in
theorem ii_la_law_743 : sm_D code 743 1 744 (.iconst 0) := ⟨by decide +kernel, rfl⟩
set_option maxRecDepth 100000 in
theorem ii_la_law_744 : sm_D code 744 1 745 (.ireturn) := ⟨by decide +kernel, rfl⟩
set_option maxRecDepth 100000 in
theorem ii_la_law_745 : sm_D code 745 1 746 (.aload_n 1) := ⟨by decide +kernel, rfl⟩
set_option maxRecDepth 100000 in
theorem ii_la_law_746 : sm_D code 746 1 747 (.aload_n 0) := ⟨by decide +kernel, rfl⟩
set_option maxRecDepth 100000 in
theorem ii_la_law_747 : sm_D code 747 1 748 (.iload_n 3) := ⟨by decide +kernel, rfl⟩
set_option maxRecDepth 100000 in
theorem ii_la_law_748 : sm_D code 748 1 749 (.iconst 1) := ⟨by decide +kernel, rfl⟩
set_option maxRecDepth 100000 in
theorem ii_la_law_749 : sm_D code 749 1 750 (.iadd) := ⟨by decide +kernel, rfl⟩
set_option maxRecDepth 100000 in
theorem ii_la_law_750 : sm_D code 750 1 751 (.iaload) := ⟨by decide +kernel, rfl⟩
set_option maxRecDepth 100000 in
theorem ii_la_law_751 : sm_D code 751 3 754 (.invokevirtual 86) := ⟨by decide +kernel, rfl⟩
set_option maxRecDepth 100000 in
theorem ii_la_law_754 : sm_D code 754 1 755 (.aload_n 2) := ⟨by decide +kernel, rfl⟩
set_option maxRecDepth 100000 in
theorem ii_la_law_755 : sm_D code 755 1 756 (.aload_n 0) := ⟨by decide +kernel, rfl⟩
set_option maxRecDepth 100000 in
theorem ii_la_law_756 : sm_D code 756 1 757 (.iload_n 3) := ⟨by decide +kernel, rfl⟩
set_option maxRecDepth 100000 in
theorem ii_la_law_757 : sm_D code 757 1 758 (.iconst 1) := ⟨by decide +kernel, rfl⟩
set_option maxRecDepth 100000 in
theorem ii_la_law_758 : sm_D code 758 1 759 (.iadd) := ⟨by decide +kernel, rfl⟩
set_option maxRecDepth 100000 in
theorem ii_la_law_759 : sm_D code 759 1 760 (.iaload) := ⟨by decide +kernel, rfl⟩
set_option maxRecDepth 100000 in
theorem ii_la_law_760 : sm_D code 760 3 763 (.invokevirtual 89) := ⟨by decide +kernel, rfl⟩
set_option maxRecDepth 100000 in
theorem ii_la_law_763 : sm_D code 763 3 766 (.if_icmp .eq 616) := ⟨by decide +kernel, rfl⟩
set_option maxRecDepth 100000 in
theorem ii_la_law_766 : sm_D code 766 1 767 (.iconst 0) := ⟨by decide +kernel, rfl⟩
set_option maxRecDepth 100000 in
theorem ii_la_law_767 : sm_D code 767 1 768 (.ireturn) := ⟨by decide +kernel, rfl⟩
set_option maxRecDepth 100000 in
theorem ii_la_law_768 : sm_D code 768 1 769 (.aload_n 1) := ⟨by decide +kernel, rfl⟩
set_option maxRecDepth 100000 in
theorem ii_la_law_769 : sm_D code 769 1 770 (.aload_n 0) := ⟨by decide +kernel, rfl⟩
set_option maxRecDepth 100000 in
theorem ii_la_law_770 : sm_D code 770 1 771 (.iload_n 3) := ⟨by decide +kernel, rfl⟩
set_option maxRecDepth 100000 in
theorem ii_la_law_771 : sm_D code 771 1 772 (.iconst 1) := ⟨by decide +kernel, rfl⟩
set_option maxRecDepth 100000 in
theorem ii_la_law_772 : sm_D code 772 1 773 (.iadd) := ⟨by decide +kernel, rfl⟩
set_option maxRecDepth 100000 in
theorem ii_la_law_773 : sm_D code 773 1 774 (.iaload) := ⟨by decide +kernel, rfl⟩
set_option maxRecDepth 100000 in
theorem ii_la_law_774 : sm_D code 774 3 777 (.invokevirtual 90) := ⟨by decide +kernel, rfl⟩
set_option maxRecDepth 100000 in
theorem ii_la_law_777 : sm_D code 777 1 778 (.aload_n 2) := ⟨by decide +kernel, rfl⟩
set_option maxRecDepth 100000 in
theorem ii_la_law_778 : sm_D code 778 1 779 (.aload_n 0) := ⟨by decide +kernel, rfl⟩
set_option maxRecDepth 100000 in
theorem ii_la_law_779 : sm_D code 779 1 780 (.iload_n 3) := ⟨by decide +kernel, rfl⟩
set_option maxRecDepth 100000 in
theorem ii_la_law_780 : sm_D code 780 1 781 (.iconst 1) := ⟨by decide +kernel, rfl⟩
set_option maxRecDepth 100000 in
theorem ii_la_law_781 : sm_D code 781 1 782 (.iadd) := ⟨by decide +kernel, rfl⟩
set_option maxRecDepth 100000 in
theorem ii_la_law_782 : sm_D code 782 1 783 (.iaload) := ⟨by decide +kernel, rfl⟩
set_option maxRecDepth 100000 in
theorem ii_la_law_783 : sm_D code 783 3 786 (.invokevirtual 93) := ⟨by decide +kernel, rfl⟩
set_option maxRecDepth 100000 in
theorem ii_la_law_786 : sm_D code 786 3 789 (.if_icmp .eq 593) := ⟨by decide +kernel, rfl⟩
set_option maxRecDepth 100000 in
theorem ii_la_law_789 : sm_D code 789 1 790 (.iconst 0) := ⟨by decide +kernel, rfl⟩
set_option maxRecDepth 100000 in
theorem ii_la_law_790 : sm_D code 790 1 791 (.ireturn) := ⟨by decide +kernel, rfl⟩
set_option maxRecDepth 100000 in
theorem ii_la_law_791 : sm_D code 791 1 792 (.aload_n 1) := ⟨by decide +kernel, rfl⟩
set_option maxRecDepth 100000 in
theorem ii_la_law_792 : sm_D code 792 1 793 (.aload_n 0) := ⟨by decide +kernel, rfl⟩
set_option maxRecDepth 100000 in
theorem ii_la_law_793 : sm_D code 793 1 794 (.iload_n 3) := ⟨by decide +kernel, rfl⟩
set_option maxRecDepth 100000 in
theorem ii_la_law_794 : sm_D code 794 1 795 (.iconst 1) := ⟨by decide +kernel, rfl⟩
set_option maxRecDepth 100000 in
theorem ii_la_law_795 : sm_D code 795 1 796 (.iadd) := ⟨by decide +kernel, rfl⟩
set_option maxRecDepth 100000 in
theorem ii_la_law_796 : sm_D code 796 1 797 (.iaload) := ⟨by decide +kernel, rfl⟩
set_option maxRecDepth 100000 in
theorem ii_la_law_797 : sm_D code 797 3 800 (.invokevirtual 94) := ⟨by decide +kernel, rfl⟩
set_option maxRecDepth 100000 in
theorem ii_la_law_800 : sm_D code 800 1 801 (.aload_n 2) := ⟨by decide +kernel, rfl⟩
set_option maxRecDepth 100000 in
theorem ii_la_law_801 : sm_D code 801 1 802 (.aload_n 0) := ⟨by decide +kernel, rfl⟩
set_option maxRecDepth 100000 in
theorem ii_la_law_802 : sm_D code 802 1 803 (.iload_n 3) := ⟨by decide +kernel, rfl⟩
set_option maxRecDepth 100000 in
theorem ii_la_law_803 : sm_D code 803 1 804 (.iconst 1) := ⟨by decide +kernel, rfl⟩
set_option maxRecDepth 100000 in
theorem ii_la_law_804 : sm_D code 804 1 805 (.iadd) := ⟨by decide +kernel, rfl⟩
set_option maxRecDepth 100000 in
theorem ii_la_law_805 : sm_D code 805 1 806 (.iaload) := ⟨by decide +kernel, rfl⟩
set_option maxRecDepth 100000 in
theorem ii_la_law_806 : sm_D code 806 3 809 (.invokevirtual 97) := ⟨by decide +kernel, rfl⟩
set_option maxRecDepth 100000 in
theorem ii_la_law_809 : sm_D code 809 3 812 (.if_icmp .eq 570) := ⟨by decide +kernel, rfl⟩
set_option maxRecDepth 100000 in
theorem ii_la_law_812 : sm_D code 812 1 813 (.iconst 0) := ⟨by decide +kernel, rfl⟩
set_option maxRecDepth 100000 in
theorem ii_la_law_813 : sm_D code 813 1 814 (.ireturn) := ⟨by decide +kernel, rfl⟩
set_option maxRecDepth 100000 in
theorem ii_la_law_814 : sm_D code 814 1 815 (.aload_n 1) := ⟨by decide +kernel, rfl⟩
set_option maxRecDepth 100000 in
theorem ii_la_law_815 : sm_D code 815 1 816 (.aload_n 0) := ⟨by decide +kernel, rfl⟩
set_option maxRecDepth 100000 in
theorem ii_la_law_816 : sm_D code 816 1 817 (.iload_n 3) := ⟨by decide +kernel, rfl⟩
set_option maxRecDepth 100000 in
theorem ii_la_law_817 : sm_D code 817 1 818 (.iconst 1) := ⟨by decide +kernel, rfl⟩
set_option maxRecDepth 100000 in
theorem ii_la_law_818 : sm_D code 818 1 819 (.iadd) := ⟨by decide +kernel, rfl⟩
set_option maxRecDepth 100000 in
theorem ii_la_law_819 : sm_D code 819 1 820 (.iaload) := ⟨by decide +kernel, rfl⟩
set_option maxRecDepth 100000 in
theorem ii_la_law_820 : sm_D code 820 3 823 (.invokevirtual 98) := ⟨by decide +kernel, rfl⟩
set_option maxRecDepth 100000 in
theorem ii_la_law_823 : sm_D code 823 1 824 (.aload_n 2) := ⟨by decide +kernel, rfl⟩
set_option maxRecDepth 100000 in
theorem ii_la_law_824 : sm_D code 824 1 825 (.aload_n 0) := ⟨by decide +kernel, rfl⟩
set_option maxRecDepth 100000 in
theorem ii_la_law_825 : sm_D code 825 1 826 (.iload_n 3) := ⟨by decide +kernel, rfl⟩
set_option maxRecDepth 100000 in
theorem ii_la_law_826 : sm_D code 826 1 827 (.iconst 1) := ⟨by decide +kernel, rfl⟩
set_option maxRecDepth 100000 in
theorem ii_la_law_827 : sm_D code 827 1 828 (.iadd) := ⟨by decide +kernel, rfl⟩
set_option maxRecDepth 100000 in
theorem ii_la_law_828 : sm_D code 828 1 829 (.iaload) := ⟨by decide +kernel, rfl⟩
set_option maxRecDepth 100000 in
theorem ii_la_law_829 : sm_D code 829 3 832 (.invokevirtual 101) := ⟨by decide +kernel, rfl⟩
set_option maxRecDepth 100000 in
theorem ii_la_law_832 : sm_D code 832 3 835 (.if_icmp .eq 547) := ⟨by decide +kernel, rfl⟩
set_option maxRecDepth 100000 in
theorem ii_la_law_835 : sm_D code 835 1 836 (.iconst 0) := ⟨by decide +kernel, rfl⟩
set_option maxRecDepth 100000 in
theorem ii_la_law_836 : sm_D code 836 1 837 (.ireturn) := ⟨by decide +kernel, rfl⟩
set_option maxRecDepth 100000 in
theorem ii_la_law_837 : sm_D code 837 1 838 (.aload_n 1) := ⟨by decide +kernel, rfl⟩
set_option maxRecDepth 100000 in
theorem ii_la_law_838 : sm_D code 838 1 839 (.aload_n 0) := ⟨by decide +kernel, rfl⟩
set_option maxRecDepth 100000 in
theorem ii_la_law_839 : sm_D code 839 1 840 (.iload_n 3) := ⟨by decide +kernel, rfl⟩
set_option maxRecDepth 100000 in
theorem ii_la_law_840 : sm_D code 840 1 841 (.iconst 1) := ⟨by decide +kernel, rfl⟩
set_option maxRecDepth 100000 in
theorem ii_la_law_841 : sm_D code 841 1 842 (.iadd) := ⟨by decide +kernel, rfl⟩
set_option maxRecDepth 100000 in
theorem ii_la_law_842 : sm_D code 842 1 843 (.iaload) := ⟨by decide +kernel, rfl⟩
set_option maxRecDepth 100000 in
theorem ii_la_law_843 : sm_D code 843 3 846 (.invokevirtual 102) := ⟨by decide +kernel, rfl⟩
set_option maxRecDepth 100000 in
theorem ii_la_law_846 : sm_D code 846 1 847 (.aload_n 2) := ⟨by decide +kernel, rfl⟩
set_option maxRecDepth 100000 in
theorem ii_la_law_847 : sm_D code 847 1 848 (.aload_n 0) := ⟨by decide +kernel, rfl⟩
set_option maxRecDepth 100000 in
theorem ii_la_law_848 : sm_D code 848 1 849 (.iload_n 3) := ⟨by decide +kernel, rfl⟩
set_option maxRecDepth 100000 in
theorem ii_la_law_849 : sm_D code 849 1 850 (.iconst 1) := ⟨by decide +kernel, rfl⟩
set_option maxRecDepth 100000 in
theorem ii_la_law_850 : sm_D code 850 1 851 (.iadd) := ⟨by decide +kernel, rfl⟩
set_option maxRecDepth 100000 in
theorem ii_la_law_851 : sm_D code 851 1 852 (.iaload) := ⟨by decide +kernel, rfl⟩
set_option maxRecDepth 100000 in
theorem ii_la_law_852 : sm_D code 852 3 855 (.invokevirtual 105) := ⟨by decide +kernel, rfl⟩
set_option maxRecDepth 100000 in
theorem ii_la_law_855 : sm_D code 855 3 858 (.if_icmp .eq 524) := ⟨by decide +kernel, rfl⟩
set_option maxRecDepth 100000 in
theorem ii_la_law_858 : sm_D code 858 1 859 (.iconst 0) := ⟨by decide +kernel, rfl⟩
set_option maxRecDepth 100000 in
theorem ii_la_law_859 : sm_D code 859 1 860 (.ireturn) := ⟨by decide +kernel, rfl⟩
set_option maxRecDepth 100000 in
theorem ii_la_law_860 : sm_D code 860 1 861 (.aload_n 1) := ⟨by decide +kernel, rfl⟩
set_option maxRecDepth 100000 in
theorem ii_la_law_861 : sm_D code 861 1 862 (.aload_n 0) := ⟨by decide +kernel, rfl⟩
set_option maxRecDepth 100000 in
theorem ii_la_law_862 : sm_D code 862 1 863 (.iload_n 3) := ⟨by decide +kernel, rfl⟩
set_option maxRecDepth 100000 in
theorem ii_la_law_863 : sm_D code 863 1 864 (.iconst 1) := ⟨by decide +kernel, rfl⟩
set_option maxRecDepth 100000 in
theorem ii_la_law_864 : sm_D code 864 1 865 (.iadd) := ⟨by decide +kernel, rfl⟩
set_option maxRecDepth 100000 in
theorem ii_la_law_865 : sm_D code 865 1 866 (.iaload) := ⟨by decide +kernel, rfl⟩
set_option maxRecDepth 100000 in
theorem ii_la_law_866 : sm_D code 866 3 869 (.invokevirtual 106) := ⟨by decide +kernel, rfl⟩
set_option maxRecDepth 100000 in
theorem ii_la_law_869 : sm_D code 869 1 870 (.aload_n 2) := ⟨by decide +kernel, rfl⟩
set_option maxRecDepth 100000 in
theorem ii_la_law_870 : sm_D code 870 1 871 (.aload_n 0) := ⟨by decide +kernel, rfl⟩
set_option maxRecDepth 100000 in
theorem ii_la_law_871 : sm_D code 871 1 872 (.iload_n 3) := ⟨by decide +kernel, rfl⟩
set_option maxRecDepth 100000 in
theorem ii_la_law_872 : sm_D code 872 1 873 (.iconst 1) := ⟨by decide +kernel, rfl⟩
set_option maxRecDepth 100000 in
theorem ii_la_law_873 : sm_D code 873 1 874 (.iadd) := ⟨by decide +kernel, rfl⟩
set_option maxRecDepth 100000 in
theorem ii_la_law_874 : sm_D code 874 1 875 (.iaload) := ⟨by decide +kernel, rfl⟩
set_option maxRecDepth 100000 in
theorem ii_la_law_875 : sm_D code 875 3 878 (.invokevirtual 109) := ⟨by decide +kernel, rfl⟩
set_option maxRecDepth 100000 in
theorem ii_la_law_878 : sm_D code 878 3 881 (.if_icmp .eq 501) := ⟨by decide +kernel, rfl⟩
set_option maxRecDepth 100000 in
theorem ii_la_law_881 : sm_D code 881 1 882 (.iconst 0) := ⟨by decide +kernel, rfl⟩
set_option maxRecDepth 100000 in
theorem ii_la_law_882 : sm_D code 882 1 883 (.ireturn) := ⟨by decide +kernel, rfl⟩
set_option maxRecDepth 100000 in
theorem ii_la_law_883 : sm_D code 883 1 884 (.aload_n 1) := ⟨by decide +kernel, rfl⟩
set_option maxRecDepth 100000 in
theorem ii_la_law_884 : sm_D code 884 1 885 (.aload_n 0) := ⟨by decide +kernel, rfl⟩
set_option maxRecDepth 100000 in
theorem ii_la_law_885 : sm_D code 885 1 886 (.iload_n 3) := ⟨by decide +kernel, rfl⟩
set_option maxRecDepth 100000 in
theorem ii_la_law_886 : sm_D code 886 1 887 (.iconst 1) := ⟨by decide +kernel, rfl⟩
set_option maxRecDepth 100000 in
theorem ii_la_law_887 : sm_D code 887 1 888 (.iadd) := ⟨by decide +kernel, rfl⟩
set_option maxRecDepth 100000 in
theorem ii_la_law_888 : sm_D code 888 1 889 (.iaload) := ⟨by decide +kernel, rfl⟩
set_option maxRecDepth 100000 in
theorem ii_la_law_889 : sm_D code 889 1 890 (.aload_n 0) := ⟨by decide +kernel, rfl⟩
set_option maxRecDepth 100000 in
theorem ii_la_law_890 : sm_D code 890 1 891 (.iload_n 3) := ⟨by decide +kernel, rfl⟩
set_option maxRecDepth 100000 in
theorem ii_la_law_891 : sm_D code 891 1 892 (.iconst 2) := ⟨by decide +kernel, rfl⟩
set_option maxRecDepth 100000 in
theorem ii_la_law_892 : sm_D code 892 1 893 (.iadd) := ⟨by decide +kernel, rfl⟩
set_option maxRecDepth 100000 in
theorem ii_la_law_893 : sm_D code 893 1 894 (.iaload) := ⟨by decide +kernel, rfl⟩
set_option maxRecDepth 100000 in
theorem ii_la_law_894 : sm_D code 894 3 897 (.invokevirtual 110) := ⟨by decide +kernel, rfl⟩
set_option maxRecDepth 100000 in
theorem ii_la_law_897 : sm_D code 897 1 898 (.aload_n 2) := ⟨by decide +kernel, rfl⟩
set_option maxRecDepth 100000 in
theorem ii_la_law_898 : sm_D code 898 1 899 (.aload_n 0) := ⟨by decide +kernel, rfl⟩
set_option maxRecDepth 100000 in
theorem ii_la_law_899 : sm_D code 899 1 900 (.iload_n 3) := ⟨by decide +kernel, rfl⟩
set_option maxRecDepth 100000 in
theorem ii_la_law_900 : sm_D code 900 1 901 (.iconst 1) := ⟨by decide +kernel, rfl⟩
set_option maxRecDepth 100000 in
theorem ii_la_law_901 : sm_D code 901 1 902 (.iadd) := ⟨by decide +kernel, rfl⟩
set_option maxRecDepth 100000 in
theorem ii_la_law_902 : sm_D code 902 1 903 (.iaload) := ⟨by decide +kernel, rfl⟩
set_option maxRecDepth 100000 in
theorem ii_la_law_903 : sm_D code 903 1 904 (.aload_n 0) := ⟨by decide +kernel, rfl⟩
set_option maxRecDepth 100000 in
theorem ii_la_law_904 : sm_D code 904 1 905 (.iload_n 3) := ⟨by decide +kernel, rfl⟩
set_option maxRecDepth 100000 in
theorem ii_la_law_905 : sm_D code 905 1 906 (.iconst 2) := ⟨by decide +kernel, rfl⟩
set_option maxRecDepth 100000 in
theorem ii_la_law_906 : sm_D code 906 1 907 (.iadd) := ⟨by decide +kernel, rfl⟩
set_option maxRecDepth 100000 in
theorem ii_la_law_907 : sm_D code 907 1 908 (.iaload) := ⟨by decide +kernel, rfl⟩
set_option maxRecDepth 100000 in
theorem ii_la_law_908 : sm_D code 908 3 911 (.invokevirtual 113) := ⟨by decide +kernel, rfl⟩
set_option maxRecDepth 100000 in
theorem ii_la_law_911 : sm_D code 911 3 914 (.if_icmp .eq 468) := ⟨by decide +kernel, rfl⟩
set_option maxRecDepth 100000 in
theorem ii_la_law_914 : sm_D code 914 1 915 (.iconst 0) := ⟨by decide +kernel, rfl⟩
set_option maxRecDepth 100000 in
theorem ii_la_law_915 : sm_D code 915 1 916 (.ireturn) := ⟨by decide +kernel, rfl⟩
set_option maxRecDepth 100000 in
theorem ii_la_law_916 : sm_D code 916 1 917 (.aload_n 1) := ⟨by decide +kernel, rfl⟩
set_option maxRecDepth 100000 in
theorem ii_la_law_917 : sm_D code 917 1 918 (.aload_n 0) := ⟨by decide +kernel, rfl⟩
set_option maxRecDepth 100000 in
theorem ii_la_law_918 : sm_D code 918 1 919 (.iload_n 3) := ⟨by decide +kernel, rfl⟩
set_option maxRecDepth 100000 in
theorem ii_la_law_919 : sm_D code 919 1 920 (.iconst 1) := ⟨by decide +kernel, rfl⟩
set_option maxRecDepth 100000 in
theorem ii_la_law_920 : sm_D code 920 1 921 (.iadd) := ⟨by decide +kernel, rfl⟩
set_option maxRecDepth 100000 in
theorem ii_la_law_921 : sm_D code 921 1 922 (.iaload) := ⟨by decide +kernel, rfl⟩
set_option maxRecDepth 100000 in
theorem ii_la_law_922 : sm_D code 922 3 925 (.invokevirtual 114) := ⟨by decide +kernel, rfl⟩
set_option maxRecDepth 100000 in
theorem ii_la_law_925 : sm_D code 925 1 926 (.aload_n 2) := ⟨by decide +kernel, rfl⟩
set_option maxRecDepth 100000 in
theorem ii_la_law_926 : sm_D code 926 1 927 (.aload_n 0) := ⟨by decide +kernel, rfl⟩
set_option maxRecDepth 100000 in
theorem ii_la_law_927 : sm_D code 927 1 928 (.iload_n 3) := ⟨by decide +kernel, rfl⟩
set_option maxRecDepth 100000 in
theorem ii_la_law_928 : sm_D code 928 1 929 (.iconst 1) := ⟨by decide +kernel, rfl⟩
set_option maxRecDepth 100000 in
theorem ii_la_law_929 : sm_D code 929 1 930 (.iadd) := ⟨by decide +kernel, rfl⟩
set_option maxRecDepth 100000 in
theorem ii_la_law_930 : sm_D code 930 1 931 (.iaload) := ⟨by decide +kernel, rfl⟩
set_option maxRecDepth 100000 in
theorem ii_la_law_931 : sm_D code 931 3 934 (.invokevirtual 117) := ⟨by decide +kernel, rfl⟩
set_option maxRecDepth 100000 in
theorem ii_la_law_934 : sm_D code 934 3 937 (.if_icmp .eq 445) := ⟨by decide +kernel, rfl⟩
set_option maxRecDepth 100000 in
theorem ii_la_law_937 : sm_D code 937 1 938 (.iconst 0) := ⟨by decide +kernel, rfl⟩
set_option maxRecDepth 100000 in
theorem ii_la_law_938 : sm_D code 938 1 939 (.ireturn) := ⟨by decide +kernel, rfl⟩
set_option maxRecDepth 100000 in
theorem ii_la_law_939 : sm_D code 939 1 940 (.aload_n 1) := ⟨by decide +kernel, rfl⟩
set_option maxRecDepth 100000 in
theorem ii_la_law_940 : sm_D code 940 3 943 (.invokevirtual 118) := ⟨by decide +kernel, rfl⟩
set_option maxRecDepth 100000 in
theorem ii_la_law_943 : sm_D code 943 1 944 (.aload_n 2) := ⟨by decide +kernel, rfl⟩
set_option maxRecDepth 100000 in
theorem ii_la_law_944 : sm_D code 944 3 947 (.invokevirtual 121) := ⟨by decide +kernel, rfl⟩
set_option maxRecDepth 100000 in
theorem ii_la_law_947 : sm_D code 947 3 950 (.if_icmp .eq 432) := ⟨by decide +kernel, rfl⟩
set_option maxRecDepth 100000 in
theorem ii_la_law_950 : sm_D code 950 1 951 (.iconst 0) := ⟨by decide +kernel, rfl⟩
set_option maxRecDepth 100000 in
theorem ii_la_law_951 : sm_D code 951 1 952 (.ireturn) := ⟨by decide +kernel, rfl⟩
set_option maxRecDepth 100000 in
theorem ii_la_law_952 : sm_D code 952 1 953 (.aload_n 1) := ⟨by decide +kernel, rfl⟩
set_option maxRecDepth 100000 in
theorem ii_la_law_953 : sm_D code 953 1 954 (.aload_n 0) := ⟨by decide +kernel, rfl⟩
set_option maxRecDepth 100000 in
theorem ii_la_law_954 : sm_D code 954 1 955 (.iload_n 3) := ⟨by decide +kernel, rfl⟩
set_option maxRecDepth 100000 in
theorem ii_la_law_955 : sm_D code 955 1 956 (.iconst 1) := ⟨by decide +kernel, rfl⟩
set_option maxRecDepth 100000 in
theorem ii_la_law_956 : sm_D code 956 1 957 (.iadd) := ⟨by decide +kernel, rfl⟩
set_option maxRecDepth 100000 in
theorem ii_la_law_957 : sm_D code 957 1 958 (.iaload) := ⟨by decide +kernel, rfl⟩
set_option maxRecDepth 100000 in
theorem ii_la_law_958 : sm_D code 958 3 961 (.invokevirtual 122) := ⟨by decide +kernel, rfl⟩
set_option maxRecDepth 100000 in
theorem ii_la_law_961 : sm_D code 961 1 962 (.aload_n 2) := ⟨by decide +kernel, rfl⟩
set_option maxRecDepth 100000 in
theorem ii_la_law_962 : sm_D code 962 1 963 (.aload_n 0) := ⟨by decide +kernel, rfl⟩
set_option maxRecDepth 100000 in
theorem ii_la_law_963 : sm_D code 963 1 964 (.iload_n 3) := ⟨by decide +kernel, rfl⟩
set_option maxRecDepth 100000 in
theorem ii_la_law_964 : sm_D code 964 1 965 (.iconst 1) := ⟨by decide +kernel, rfl⟩
set_option maxRecDepth 100000 in
theorem ii_la_law_965 : sm_D code 965 1 966 (.iadd) := ⟨by decide +kernel, rfl⟩
set_option maxRecDepth 100000 in
theorem ii_la_law_966 : sm_D code 966 1 967 (.iaload) := ⟨by decide +kernel, rfl⟩
set_option maxRecDepth 100000 in
theorem ii_la_law_967 : sm_D code 967 3 970 (.invokevirtual 125) := ⟨by decide +kernel, rfl⟩
set_option maxRecDepth 100000 in
theorem ii_la_law_970 : sm_D code 970 3 973 (.if_icmp .eq 409) := ⟨by decide +kernel, rfl⟩
set_option maxRecDepth 100000 in
theorem ii_la_law_973 : sm_D code 973 1 974 (.iconst 0) := ⟨by decide +kernel, rfl⟩
set_option maxRecDepth 100000 in
theorem ii_la_law_974 : sm_D code 974 1 975 (.ireturn) := ⟨by decide +kernel, rfl⟩
set_option maxRecDepth 100000 in
theorem ii_la_law_975 : sm_D code 975 1 976 (.aload_n 1) := ⟨by decide +kernel, rfl⟩
set_option maxRecDepth 100000 in
theorem ii_la_law_976 : sm_D code 976 1 977 (.aload_n 0) := ⟨by decide +kernel, rfl⟩
set_option maxRecDepth 100000 in
theorem ii_la_law_977 : sm_D code 977 1 978 (.iload_n 3) := ⟨by decide +kernel, rfl⟩
set_option maxRecDepth 100000 in
theorem ii_la_law_978 : sm_D code 978 1 979 (.iconst 1) := ⟨by decide +kernel, rfl⟩
set_option maxRecDepth 100000 in
theorem ii_la_law_979 : sm_D code 979 1 980 (.iadd) := ⟨by decide +kernel, rfl⟩
set_option maxRecDepth 100000 in
theorem ii_la_law_980 : sm_D code 980 1 981 (.iaload) := ⟨by decide +kernel, rfl⟩
set_option maxRecDepth 100000 in
theorem ii_la_law_981 : sm_D code 981 3 984 (.invokevirtual 126) := ⟨by decide +kernel, rfl⟩
set_option maxRecDepth 100000 in
theorem ii_la_law_984 : sm_D code 984 1 985 (.aload_n 2) := ⟨by decide +kernel, rfl⟩
set_option maxRecDepth 100000 in
theorem ii_la_law_985 : sm_D code 985 1 986 (.aload_n 0) := ⟨by decide +kernel, rfl⟩
set_option maxRecDepth 100000 in
theorem ii_la_law_986 : sm_D code 986 1 987 (.iload_n 3) := ⟨by decide +kernel, rfl⟩
set_option maxRecDepth 100000 in
theorem ii_la_law_987 : sm_D code 987 1 988 (.iconst 1) := ⟨by decide +kernel, rfl⟩
set_option maxRecDepth 100000 in
theorem ii_la_law_988 : sm_D code 988 1 989 (.iadd) := ⟨by decide +kernel, rfl⟩
set_option maxRecDepth 100000 in
theorem ii_la_law_989 : sm_D code 989 1 990 (.iaload) := ⟨by decide +kernel, rfl⟩
set_option maxRecDepth 100000 in
theorem ii_la_law_990 : sm_D code 990 3 993 (.invokevirtual 129) := ⟨by decide +kernel, rfl⟩
set_option maxRecDepth 100000 in
theorem ii_la_law_993 : sm_D code 993 3 996 (.if_icmp .eq 386) := ⟨by decide +kernel, rfl⟩
set_option maxRecDepth 100000 in
theorem ii_la_law_996 : sm_D code 996 1 997 (.iconst 0) := ⟨by decide +kernel, rfl⟩
set_option maxRecDepth 100000 in
theorem ii_la_law_997 : sm_D code 997 1 998 (.ireturn) := ⟨by decide +kernel, rfl⟩
set_option maxRecDepth 100000 in
theorem ii_la_law_998 : sm_D code 998 1 999 (.aload_n 1) := ⟨by decide +kernel, rfl⟩
set_option maxRecDepth 100000 in
theorem ii_la_law_999 : sm_D code 999 1 1000 (.aload_n 0) := ⟨by decide +kernel, rfl⟩
set_option maxRecDepth 100000 in
theorem ii_la_law_1000 : sm_D code 1000 1 1001 (.iload_n 3) := ⟨by decide +kernel, rfl⟩
set_option maxRecDepth 100000 in
theorem ii_la_law_1001 : sm_D code 1001 1 1002 (.iconst 1) := ⟨by decide +kernel, rfl⟩
set_option maxRecDepth 100000 in
theorem ii_la_law_1002 : sm_D code 1002 1 1003 (.iadd) := ⟨by decide +kernel, rfl⟩
set_option maxRecDepth 100000 in
theorem ii_la_law_1003 : sm_D code 1003 1 1004 (.iaload) := ⟨by decide +kernel, rfl⟩
set_option maxRecDepth 100000 in
theorem ii_la_law_1004 : sm_D code 1004 3 1007 (.invokevirtual 130) := ⟨by decide +kernel, rfl⟩
set_option maxRecDepth 100000 in
theorem ii_la_law_1007 : sm_D code 1007 1 1008 (.aload_n 2) := ⟨by decide +kernel, rfl⟩
set_option maxRecDepth 100000 in
theorem ii_la_law_1008 : sm_D code 1008 1 1009 (.aload_n 0) := ⟨by decide +kernel, rfl⟩
set_option maxRecDepth 100000 in
theorem ii_la_law_1009 : sm_D code 1009 1 1010 (.iload_n 3) := ⟨by decide +kernel, rfl⟩
set_option maxRecDepth 100000 in
theorem ii_la_law_1010 : sm_D code 1010 1 1011 (.iconst 1) := ⟨by decide +kernel, rfl⟩
set_option maxRecDepth 100000 in
theorem ii_la_law_1011 : sm_D code 1011 1 1012 (.iadd) := ⟨by decide +kernel, rfl⟩
set_option maxRecDepth 100000 in
theorem ii_la_law_1012 : sm_D code 1012 1 1013 (.iaload) := ⟨by decide +kernel, rfl⟩
set_option maxRecDepth 100000 in
theorem ii_la_law_1013 : sm_D code 1013 3 1016 (.invokevirtual 133) := ⟨by decide +kernel, rfl⟩
set_option maxRecDepth 100000 in
theorem ii_la_law_1016 : sm_D code 1016 3 1019 (.if_icmp .eq 363) := ⟨by decide +kernel, rfl⟩
set_option maxRecDepth 100000 in
theorem ii_la_law_1019 : sm_D code 1019 1 1020 (.iconst 0) := ⟨by decide +kernel, rfl⟩
set_option maxRecDepth 100000 in
theorem ii_la_law_1020 : sm_D code 1020 1 1021 (.ireturn) := ⟨by decide +kernel, rfl⟩
set_option maxRecDepth 100000 in
theorem ii_la_law_1021 : sm_D code 1021 1 1022 (.aload_n 1) := ⟨by decide +kernel, rfl⟩
set_option maxRecDepth 100000 in
theorem ii_la_law_1022 : sm_D code 1022 1 1023 (.aload_n 0) := ⟨by decide +kernel, rfl⟩
set_option maxRecDepth 100000 in
theorem ii_la_law_1023 : sm_D code 1023 1 1024 (.iload_n 3) := ⟨by decide +kernel, rfl⟩
set_option maxRecDepth 100000 in
theorem ii_la_law_1024 : sm_D code 1024 1 1025 (.iconst 1) := ⟨by decide +kernel, rfl⟩
set_option maxRecDepth 100000 in
theorem ii_la_law_1025 : sm_D code 1025 1 1026 (.iadd) := ⟨by decide +kernel, rfl⟩
set_option maxRecDepth 100000 in
theorem ii_la_law_1026 : sm_D code 1026 1 1027 (.iaload) := ⟨by decide +kernel, rfl⟩
set_option maxRecDepth 100000 in
theorem ii_la_law_1027 : sm_D code 1027 1 1028 (.aload_n 0) := ⟨by decide +kernel, rfl⟩
set_option maxRecDepth 100000 in
theorem ii_la_law_1028 : sm_D code 1028 1 1029 (.iload_n 3) := ⟨by decide +kernel, rfl⟩
set_option maxRecDepth 100000 in
theorem ii_la_law_1029 : sm_D code 1029 1 1030 (.iconst 2) := ⟨by decide +kernel, rfl⟩
set_option maxRecDepth 100000 in
theorem ii_la_law_1030 : sm_D code 1030 1 1031 (.iadd) := ⟨by decide +kernel, rfl⟩
set_option maxRecDepth 100000 in
theorem ii_la_law_1031 : sm_D code 1031 1 1032 (.iaload) := ⟨by decide +kernel, rfl⟩
set_option maxRecDepth 100000 in
theorem ii_la_law_1032 : sm_D code 1032 3 1035 (.invokevirtual 134) := ⟨by decide +kernel, rfl⟩
set_option maxRecDepth 100000 in
theorem ii_la_law_1035 : sm_D code 1035 1 1036 (.aload_n 2) := ⟨by decide +kernel, rfl⟩
set_option maxRecDepth 100000 in
theorem ii_la_law_1036 : sm_D code 1036 1 1037 (.aload_n 0) := ⟨by decide +kernel, rfl⟩
set_option maxRecDepth 100000 in
theorem ii_la_law_1037 : sm_D code 1037 1 1038 (.iload_n 3) := ⟨by decide +kernel, rfl⟩
set_option maxRecDepth 100000 in
theorem ii_la_law_1038 : sm_D code 1038 1 1039 (.iconst 1) := ⟨by decide +kernel, rfl⟩
set_option maxRecDepth 100000 in
theorem ii_la_law_1039 : sm_D code 1039 1 1040 (.iadd) := ⟨by decide +kernel, rfl⟩
set_option maxRecDepth 100000 in
theorem ii_la_law_1040 : sm_D code 1040 1 1041 (.iaload) := ⟨by decide +kernel, rfl⟩
set_option maxRecDepth 100000 in
theorem ii_la_law_1041 : sm_D code 1041 1 1042 (.aload_n 0) := ⟨by decide +kernel, rfl⟩
set_option maxRecDepth 100000 in
theorem ii_la_law_1042 : sm_D code 1042 1 1043 (.iload_n 3) := ⟨by decide +kernel, rfl⟩
set_option maxRecDepth 100000 in
theorem ii_la_law_1043 : sm_D code 1043 1 1044 (.iconst 2) := ⟨by decide +kernel, rfl⟩
set_option maxRecDepth 100000 in
theorem ii_la_law_1044 : sm_D code 1044 1 1045 (.iadd) := ⟨by decide +kernel, rfl⟩
set_option maxRecDepth 100000 in
theorem ii_la_law_1045 : sm_D code 1045 1 1046 (.iaload) := ⟨by decide +kernel, rfl⟩
set_option maxRecDepth 100000 in
theorem ii_la_law_1046 : sm_D code 1046 3 1049 (.invokevirtual 137) := ⟨by decide +kernel, rfl⟩
set_option maxRecDepth 100000 in
theorem ii_la_law_1049 : sm_D code 1049 3 1052 (.if_icmp .eq 330) := ⟨by decide +kernel, rfl⟩
set_option maxRecDepth 100000 in
theorem ii_la_law_1052 : sm_D code 1052 1 1053 (.iconst 0) := ⟨by decide +kernel, rfl⟩
set_option maxRecDepth 100000 in
theorem ii_la_law_1053 : sm_D code 1053 1 1054 (.ireturn) := ⟨by decide +kernel, rfl⟩
set_option maxRecDepth 100000 in
theorem ii_la_law_1054 : sm_D code 1054 1 1055 (.aload_n 1) := ⟨by decide +kernel, rfl⟩
set_option maxRecDepth 100000 in
theorem ii_la_law_1055 : sm_D code 1055 1 1056 (.aload_n 0) := ⟨by decide +kernel, rfl⟩
set_option maxRecDepth 100000 in
theorem ii_la_law_1056 : sm_D code 1056 1 1057 (.iload_n 3) := ⟨by decide +kernel, rfl⟩
set_option maxRecDepth 100000 in
theorem ii_la_law_1057 : sm_D code 1057 1 1058 (.iconst 1) := ⟨by decide +kernel, rfl⟩
set_option maxRecDepth 100000 in
theorem ii_la_law_1058 : sm_D code 1058 1 1059 (.iadd) := ⟨by decide +kernel, rfl⟩
set_option maxRecDepth 100000 in
theorem ii_la_law_1059 : sm_D code 1059 1 1060 (.iaload) := ⟨by decide +kernel, rfl⟩
set_option maxRecDepth 100000 in
theorem ii_la_law_1060 : sm_D code 1060 1 1061 (.aload_n 0) := ⟨by decide +kernel, rfl⟩
set_option maxRecDepth 100000 in
theorem ii_la_law_1061 : sm_D code 1061 1 1062 (.iload_n 3) := ⟨by decide +kernel, rfl⟩
set_option maxRecDepth 100000 in
theorem ii_la_law_1062 : sm_D code 1062 1 1063 (.iconst 2) := ⟨by decide +kernel, rfl⟩
set_option maxRecDepth 100000 in
theorem ii_la_law_1063 : sm_D code 1063 1 1064 (.iadd) := ⟨by decide +kernel, rfl⟩
set_option maxRecDepth 100000 in
theorem ii_la_law_1064 : sm_D code 1064 1 1065 (.iaload) := ⟨by decide +kernel, rfl⟩
set_option maxRecDepth 100000 in
theorem ii_la_law_1065 : sm_D code 1065 3 1068 (.invokevirtual 138) := ⟨by decide +kernel, rfl⟩
set_option maxRecDepth 100000 in
theorem ii_la_law_1068 : sm_D code 1068 1 1069 (.aload_n 2) := ⟨by decide +kernel, rfl⟩
set_option maxRecDepth 100000 in
theorem ii_la_law_1069 : sm_D code 1069 1 1070 (.aload_n 0) := ⟨by decide +kernel, rfl⟩
set_option maxRecDepth 100000 in
theorem ii_la_law_1070 : sm_D code 1070 1 1071 (.iload_n 3) := ⟨by decide +kernel, rfl⟩
set_option maxRecDepth 100000 in
theorem ii_la_law_1071 : sm_D code 1071 1 1072 (.iconst 1) := ⟨by decide +kernel, rfl⟩
set_option maxRecDepth 100000 in
theorem ii_la_law_1072 : sm_D code 1072 1 1073 (.iadd) := ⟨by decide +kernel, rfl⟩
set_option maxRecDepth 100000 in
theorem ii_la_law_1073 : sm_D code 1073 1 1074 (.iaload) := ⟨by decide +kernel, rfl⟩
set_option maxRecDepth 100000 in
theorem ii_la_law_1074 : sm_D code 1074 1 1075 (.aload_n 0) := ⟨by decide +kernel, rfl⟩
set_option maxRecDepth 100000 in
theorem ii_la_law_1075 : sm_D code 1075 1 1076 (.iload_n 3) := ⟨by decide +kernel, rfl⟩
set_option maxRecDepth 100000 in
theorem ii_la_law_1076 : sm_D code 1076 1 1077 (.iconst 2) := ⟨by decide +kernel, rfl⟩
set_option maxRecDepth 100000 in
theorem ii_la_law_1077 : sm_D code 1077 1 1078 (.iadd) := ⟨by decide +kernel, rfl⟩
set_option maxRecDepth 100000 in
theorem ii_la_law_1078 : sm_D code 1078 1 1079 (.iaload) := ⟨by decide +kernel, rfl⟩
set_option maxRecDepth 100000 in
theorem ii_la_law_1079 : sm_D code 1079 3 1082 (.invokevirtual 141) := ⟨by decide +kernel, rfl⟩
set_option maxRecDepth 100000 in
theorem ii_la_law_1082 : sm_D code 1082 3 1085 (.if_icmp .eq 297) := ⟨by decide +kernel, rfl⟩
set_option maxRecDepth 100000 in
theorem ii_la_law_1085 : sm_D code 1085 1 1086 (.iconst 0) := ⟨by decide +kernel, rfl⟩
set_option maxRecDepth 100000 in
theorem ii_la_law_1086 : sm_D code 1086 1 1087 (.ireturn) := ⟨by decide +kernel, rfl⟩
set_option maxRecDepth 100000 in
theorem ii_la_law_1087 : sm_D code 1087 1 1088 (.aload_n 1) := ⟨by decide +kernel, rfl⟩
set_option maxRecDepth 100000 in
theorem ii_la_law_1088 : sm_D code 1088 1 1089 (.aload_n 0) := ⟨by decide +kernel, rfl⟩
set_option maxRecDepth 100000 in
theorem ii_la_law_1089 : sm_D code 1089 1 1090 (.iload_n 3) := ⟨by decide +kernel, rfl⟩
set_option maxRecDepth 100000 in
theorem ii_la_law_1090 : sm_D code 1090 1 1091 (.iconst 1) := ⟨by decide +kernel, rfl⟩
set_option maxRecDepth 100000 in
theorem ii_la_law_1091 : sm_D code 1091 1 1092 (.iadd) := ⟨by decide +kernel, rfl⟩
set_option maxRecDepth 100000 in
theorem ii_la_law_1092 : sm_D code 1092 1 1093 (.iaload) := ⟨by decide +kernel, rfl⟩
set_option maxRecDepth 100000 in
theorem ii_la_law_1093 : sm_D code 1093 1 1094 (.aload_n 0) := ⟨by decide +kernel, rfl⟩
set_option maxRecDepth 100000 in
theorem ii_la_law_1094 : sm_D code 1094 1 1095 (.iload_n 3) := ⟨by decide +kernel, rfl⟩
set_option maxRecDepth 100000 in
theorem ii_la_law_1095 : sm_D code 1095 1 1096 (.iconst 2) := ⟨by decide +kernel, rfl⟩
set_option maxRecDepth 100000 in
theorem ii_la_law_1096 : sm_D code 1096 1 1097 (.iadd) := ⟨by decide +kernel, rfl⟩
set_option maxRecDepth 100000 in
theorem ii_la_law_1097 : sm_D code 1097 1 1098 (.iaload) := ⟨by decide +kernel, rfl⟩
set_option maxRecDepth 100000 in
theorem ii_la_law_1098 : sm_D code 1098 3 1101 (.invokevirtual 142) := ⟨by decide +kernel, rfl⟩
set_option maxRecDepth 100000 in
theorem ii_la_law_1101 : sm_D code 1101 1 1102 (.aload_n 2) := ⟨by decide +kernel, rfl⟩
set_option maxRecDepth 100000 in
theorem ii_la_law_1102 : sm_D code 1102 1 1103 (.aload_n 0) := ⟨by decide +kernel, rfl⟩
set_option maxRecDepth 100000 in
theorem ii_la_law_1103 : sm_D code 1103 1 1104 (.iload_n 3) := ⟨by decide +kernel, rfl⟩
set_option maxRecDepth 100000 in
theorem ii_la_law_1104 : sm_D code 1104 1 1105 (.iconst 1) := ⟨by decide +kernel, rfl⟩
set_option maxRecDepth 100000 in
theorem ii_la_law_1105 : sm_D code 1105 1 1106 (.iadd) := ⟨by decide +kernel, rfl⟩
set_option maxRecDepth 100000 in
theorem ii_la_law_1106 : sm_D code 1106 1 1107 (.iaload) := ⟨by decide +kernel, rfl⟩
set_option maxRecDepth 100000 in
theorem ii_la_law_1107 : sm_D code 1107 1 1108 (.aload_n 0) := ⟨by decide +kernel, rfl⟩
set_option maxRecDepth 100000 in
theorem ii_la_law_1108 : sm_D code 1108 1 1109 (.iload_n 3) := ⟨by decide +kernel, rfl⟩
set_option maxRecDepth 100000 in
theorem ii_la_law_1109 : sm_D code 1109 1 1110 (.iconst 2) := ⟨by decide +kernel, rfl⟩
set_option maxRecDepth 100000 in
theorem ii_la_law_1110 : sm_D code 1110 1 1111 (.iadd) := ⟨by decide +kernel, rfl⟩
set_option maxRecDepth 100000 in
theorem ii_la_law_1111 : sm_D code 1111 1 1112 (.iaload) := ⟨by decide +kernel, rfl⟩
set_option maxRecDepth 100000 in
theorem ii_la_law_1112 : sm_D code 1112 3 1115 (.invokevirtual 145) := ⟨by decide +kernel, rfl⟩
set_option maxRecDepth 100000 in
theorem ii_la_law_1115 : sm_D code 1115 3 1118 (.if_icmp .eq 264) := ⟨by decide +kernel, rfl⟩
set_option maxRecDepth 100000 in
theorem ii_la_law_1118 : sm_D code 1118 1 1119 (.iconst 0) := ⟨by decide +kernel, rfl⟩
set_option maxRecDepth 100000 in
theorem ii_la_law_1119 : sm_D code 1119 1 1120 (.ireturn) := ⟨by decide +kernel, rfl⟩
set_option maxRecDepth 100000 in
theorem ii_la_law_1120 : sm_D code 1120 1 1121 (.aload_n 1) := ⟨by decide +kernel, rfl⟩
set_option maxRecDepth 100000 in
theorem ii_la_law_1121 : sm_D code 1121 1 1122 (.aload_n 0) := ⟨by decide +kernel, rfl⟩
set_option maxRecDepth 100000 in
theorem ii_la_law_1122 : sm_D code 1122 1 1123 (.iload_n 3) := ⟨by decide +kernel, rfl⟩
set_option maxRecDepth 100000 in
theorem ii_la_law_1123 : sm_D code 1123 1 1124 (.iconst 1) := ⟨by decide +kernel, rfl⟩
set_option maxRecDepth 100000 in
theorem ii_la_law_1124 : sm_D code 1124 1 1125 (.iadd) := ⟨by decide +kernel, rfl⟩
set_option maxRecDepth 100000 in
theorem ii_la_law_1125 : sm_D code 1125 1 1126 (.iaload) := ⟨by decide +kernel, rfl⟩
set_option maxRecDepth 100000 in
theorem ii_la_law_1126 : sm_D code 1126 3 1129 (.invokevirtual 146) := ⟨by decide +kernel, rfl⟩
set_option maxRecDepth 100000 in
theorem ii_la_law_1129 : sm_D code 1129 1 1130 (.aload_n 2) := ⟨by decide +kernel, rfl⟩
set_option maxRecDepth 100000 in
theorem ii_la_law_1130 : sm_D code 1130 1 1131 (.aload_n 0) := ⟨by decide +kernel, rfl⟩
set_option maxRecDepth 100000 in
theorem ii_la_law_1131 : sm_D code 1131 1 1132 (.iload_n 3) := ⟨by decide +kernel, rfl⟩
set_option maxRecDepth 100000 in
theorem ii_la_law_1132 : sm_D code 1132 1 1133 (.iconst 1) := ⟨by decide +kernel, rfl⟩
set_option maxRecDepth 100000 in
theorem ii_la_law_1133 : sm_D code 1133 1 1134 (.iadd) := ⟨by decide +kernel, rfl⟩
set_option maxRecDepth 100000 in
theorem ii_la_law_1134 : sm_D code 1134 1 1135 (.iaload) := ⟨by decide +kernel, rfl⟩
set_option maxRecDepth 100000 in
theorem ii_la_law_1135 : sm_D code 1135 3 1138 (.invokevirtual 149) := ⟨by decide +kernel, rfl⟩
set_option maxRecDepth 100000 in
theorem ii_la_law_1138 : sm_D code 1138 3 1141 (.if_icmp .eq 241) := ⟨by decide +kernel, rfl⟩
set_option maxRecDepth 100000 in
theorem ii_la_law_1141 : sm_D code 1141 1 1142 (.iconst 0) := ⟨by decide +kernel, rfl⟩
set_option maxRecDepth 100000 in
theorem ii_la_law_1142 : sm_D code 1142 1 1143 (.ireturn) := ⟨by decide +kernel, rfl⟩
set_option maxRecDepth 100000 in
theorem ii_la_law_1143 : sm_D code 1143 1 1144 (.aload_n 1) := ⟨by decide +kernel, rfl⟩
set_option maxRecDepth 100000 in
theorem ii_la_law_1144 : sm_D code 1144 1 1145 (.aload_n 0) := ⟨by decide +kernel, rfl⟩
set_option maxRecDepth 100000 in
theorem ii_la_law_1145 : sm_D code 1145 1 1146 (.iload_n 3) := ⟨by decide +kernel, rfl⟩
set_option maxRecDepth 100000 in
theorem ii_la_law_1146 : sm_D code 1146 1 1147 (.iconst 1) := ⟨by decide +kernel, rfl⟩
set_option maxRecDepth 100000 in
theorem ii_la_law_1147 : sm_D code 1147 1 1148 (.iadd) := ⟨by decide +kernel, rfl⟩
set_option maxRecDepth 100000 in
theorem ii_la_law_1148 : sm_D code 1148 1 1149 (.iaload) := ⟨by decide +kernel, rfl⟩
set_option maxRecDepth 100000 in
theorem ii_la_law_1149 : sm_D code 1149 3 1152 (.invokevirtual 150) := ⟨by decide +kernel, rfl⟩
set_option maxRecDepth 100000 in
theorem ii_la_law_1152 : sm_D code 1152 1 1153 (.aload_n 2) := ⟨by decide +kernel, rfl⟩
set_option maxRecDepth 100000 in
theorem ii_la_law_1153 : sm_D code 1153 1 1154 (.aload_n 0) := ⟨by decide +kernel, rfl⟩
set_option maxRecDepth 100000 in
theorem ii_la_law_1154 : sm_D code 1154 1 1155 (.iload_n 3) := ⟨by decide +kernel, rfl⟩
set_option maxRecDepth 100000 in
theorem ii_la_law_1155 : sm_D code 1155 1 1156 (.iconst 1) := ⟨by decide +kernel, rfl⟩
set_option maxRecDepth 100000 in
theorem ii_la_law_1156 : sm_D code 1156 1 1157 (.iadd) := ⟨by decide +kernel, rfl⟩
set_option maxRecDepth 100000 in
theorem ii_la_law_1157 : sm_D code 1157 1 1158 (.iaload) := ⟨by decide +kernel, rfl⟩
set_option maxRecDepth 100000 in
theorem ii_la_law_1158 : sm_D code 1158 3 1161 (.invokevirtual 153) := ⟨by decide +kernel, rfl⟩
set_option maxRecDepth 100000 in
theorem ii_la_law_1161 : sm_D code 1161 3 1164 (.if_icmp .eq 218) := ⟨by decide +kernel, rfl⟩
set_option maxRecDepth 100000 in
theorem ii_la_law_1164 : sm_D code 1164 1 1165 (.iconst 0) := ⟨by decide +kernel, rfl⟩
set_option maxRecDepth 100000 in
theorem ii_la_law_1165 : sm_D code 1165 1 1166 (.ireturn) := ⟨by decide +kernel, rfl⟩
set_option maxRecDepth 100000 in
theorem ii_la_law_1166 : sm_D code 1166 1 1167 (.aload_n 1) := ⟨by decide +kernel, rfl⟩
set_option maxRecDepth 100000 in
theorem ii_la_law_1167 : sm_D code 1167 1 1168 (.aload_n 0) := ⟨by decide +kernel, rfl⟩
set_option maxRecDepth 100000 in
theorem ii_la_law_1168 : sm_D code 1168 1 1169 (.iload_n 3) := ⟨by decide +kernel, rfl⟩
set_option maxRecDepth 100000 in
theorem ii_la_law_1169 : sm_D code 1169 1 1170 (.iconst 1) := ⟨by decide +kernel, rfl⟩
set_option maxRecDepth 100000 in
theorem ii_la_law_1170 : sm_D code 1170 1 1171 (.iadd) := ⟨by decide +kernel, rfl⟩
set_option maxRecDepth 100000 in
theorem ii_la_law_1171 : sm_D code 1171 1 1172 (.iaload) := ⟨by decide +kernel, rfl⟩
set_option maxRecDepth 100000 in
theorem ii_la_law_1172 : sm_D code 1172 1 1173 (.aload_n 0) := ⟨by decide +kernel, rfl⟩
set_option maxRecDepth 100000 in
theorem ii_la_law_1173 : sm_D code 1173 1 1174 (.iload_n 3) := ⟨by decide +kernel, rfl⟩
set_option maxRecDepth 100000 in
theorem ii_la_law_1174 : sm_D code 1174 1 1175 (.iconst 2) := ⟨by decide +kernel, rfl⟩
set_option maxRecDepth 100000 in
theorem ii_la_law_1175 : sm_D code 1175 1 1176 (.iadd) := ⟨by decide +kernel, rfl⟩
set_option maxRecDepth 100000 in
theorem ii_la_law_1176 : sm_D code 1176 1 1177 (.iaload) := ⟨by decide +kernel, rfl⟩
set_option maxRecDepth 100000 in
theorem ii_la_law_1177 : sm_D code 1177 3 1180 (.invokevirtual 154) := ⟨by decide +kernel, rfl⟩
set_option maxRecDepth 100000 in
theorem ii_la_law_1180 : sm_D code 1180 1 1181 (.aload_n 2) := ⟨by decide +kernel, rfl⟩
set_option maxRecDepth 100000 in
theorem ii_la_law_1181 : sm_D code 1181 1 1182 (.aload_n 0) := ⟨by decide +kernel, rfl⟩
set_option maxRecDepth 100000 in
theorem ii_la_law_1182 : sm_D code 1182 1 1183 (.iload_n 3) := ⟨by decide +kernel, rfl⟩
set_option maxRecDepth 100000 in
theorem ii_la_law_1183 : sm_D code 1183 1 1184 (.iconst 1) := ⟨by decide +kernel, rfl⟩
set_option maxRecDepth 100000 in
theorem ii_la_law_1184 : sm_D code 1184 1 1185 (.iadd) := ⟨by decide +kernel, rfl⟩
set_option maxRecDepth 100000 in
theorem ii_la_law_1185 : sm_D code 1185 1 1186 (.iaload) := ⟨by decide +kernel, rfl⟩
set_option maxRecDepth 100000 in
theorem ii_la_law_1186 : sm_D code 1186 1 1187 (.aload_n 0) := ⟨by decide +kernel, rfl⟩
set_option maxRecDepth 100000 in
theorem ii_la_law_1187 : sm_D code 1187 1 1188 (.iload_n 3) := ⟨by decide +kernel, rfl⟩
set_option maxRecDepth 100000 in
theorem ii_la_law_1188 : sm_D code 1188 1 1189 (.iconst 2) := ⟨by decide +kernel, rfl⟩
set_option maxRecDepth 100000 in
theorem ii_la_law_1189 : sm_D code 1189 1 1190 (.iadd) := ⟨by decide +kernel, rfl⟩
set_option maxRecDepth 100000 in
theorem ii_la_law_1190 : sm_D code 1190 1 1191 (.iaload) := ⟨by decide +kernel, rfl⟩
set_option maxRecDepth 100000 in
theorem ii_la_law_1191 : sm_D code 1191 3 1194 (.invokevirtual 157) := ⟨by decide +kernel, rfl⟩
set_option maxRecDepth 100000 in
theorem ii_la_law_1194 : sm_D code 1194 3 1197 (.if_icmp .eq 185) := ⟨by decide +kernel, rfl⟩
set_option maxRecDepth 100000 in
theorem ii_la_law_1197 : sm_D code 1197 1 1198 (.iconst 0) := ⟨by decide +kernel, rfl⟩
set_option maxRecDepth 100000 in
theorem ii_la_law_1198 : sm_D code 1198 1 1199 (.ireturn) := ⟨by decide +kernel, rfl⟩
set_option maxRecDepth 100000 in
theorem ii_la_law_1199 : sm_D code 1199 1 1200 (.aload_n 1) := ⟨by decide +kernel, rfl⟩
set_option maxRecDepth 100000 in
theorem ii_la_law_1200 : sm_D code 1200 1 1201 (.aload_n 0) := ⟨by decide +kernel, rfl⟩
set_option maxRecDepth 100000 in
theorem ii_la_law_1201 : sm_D code 1201 1 1202 (.iload_n 3) := ⟨by decide +kernel, rfl⟩
set_option maxRecDepth 100000 in
theorem ii_la_law_1202 : sm_D code 1202 1 1203 (.iconst 1) := ⟨by decide +kernel, rfl⟩
set_option maxRecDepth 100000 in
theorem ii_la_law_1203 : sm_D code 1203 1 1204 (.iadd) := ⟨by decide +kernel, rfl⟩
set_option maxRecDepth 100000 in
theorem ii_la_law_1204 : sm_D code 1204 1 1205 (.iaload) := ⟨by decide +kernel, rfl⟩
set_option maxRecDepth 100000 in
theorem ii_la_law_1205 : sm_D code 1205 1 1206 (.aload_n 0) := ⟨by decide +kernel, rfl⟩
set_option maxRecDepth 100000 in
theorem ii_la_law_1206 : sm_D code 1206 1 1207 (.iload_n 3) := ⟨by decide +kernel, rfl⟩
set_option maxRecDepth 100000 in
theorem ii_la_law_1207 : sm_D code 1207 1 1208 (.iconst 2) := ⟨by decide +kernel, rfl⟩
set_option maxRecDepth 100000 in
theorem ii_la_law_1208 : sm_D code 1208 1 1209 (.iadd) := ⟨by decide +kernel, rfl⟩
set_option maxRecDepth 100000 in
theorem ii_la_law_1209 : sm_D code 1209 1 1210 (.iaload) := ⟨by decide +kernel, rfl⟩
set_option maxRecDepth 100000 in
theorem ii_la_law_1210 : sm_D code 1210 3 1213 (.invokevirtual 158) := ⟨by decide +kernel, rfl⟩
set_option maxRecDepth 100000 in
theorem ii_la_law_1213 : sm_D code 1213 1 1214 (.aload_n 2) := ⟨by decide +kernel, rfl⟩
set_option maxRecDepth 100000 in
theorem ii_la_law_1214 : sm_D code 1214 1 1215 (.aload_n 0) := ⟨by decide +kernel, rfl⟩
set_option maxRecDepth 100000 in
theorem ii_la_law_1215 : sm_D code 1215 1 1216 (.iload_n 3) := ⟨by decide +kernel, rfl⟩
set_option maxRecDepth 100000 in
theorem ii_la_law_1216 : sm_D code 1216 1 1217 (.iconst 1) := ⟨by decide +kernel, rfl⟩
set_option maxRecDepth 100000 in
theorem ii_la_law_1217 : sm_D code 1217 1 1218 (.iadd) := ⟨by decide +kernel, rfl⟩
set_option maxRecDepth 100000 in
theorem ii_la_law_1218 : sm_D code 1218 1 1219 (.iaload) := ⟨by decide +kernel, rfl⟩
set_option maxRecDepth 100000 in
theorem ii_la_law_1219 : sm_D code 1219 1 1220 (.aload_n 0) := ⟨by decide +kernel, rfl⟩
set_option maxRecDepth 100000 in
theorem ii_la_law_1220 : sm_D code 1220 1 1221 (.iload_n 3) := ⟨by decide +kernel, rfl⟩
set_option maxRecDepth 100000 in
theorem ii_la_law_1221 : sm_D code 1221 1 1222 (.iconst 2) := ⟨by decide +kernel, rfl⟩
set_option maxRecDepth 100000 in
theorem ii_la_law_1222 : sm_D code 1222 1 1223 (.iadd) := ⟨by decide +kernel, rfl⟩
set_option maxRecDepth 100000 in
theorem ii_la_law_1223 : sm_D code 1223 1 1224 (.iaload) := ⟨by decide +kernel, rfl⟩
set_option maxRecDepth 100000 in
theorem ii_la_law_1224 : sm_D code 1224 3 1227 (.invokevirtual 161) := ⟨by decide +kernel, rfl⟩
set_option maxRecDepth 100000 in
theorem ii_la_law_1227 : sm_D code 1227 3 1230 (.if_icmp .eq 152) := ⟨by decide +kernel, rfl⟩
set_option maxRecDepth 100000 in
theorem ii_la_law_1230 : sm_D code 1230 1 1231 (.iconst 0) := ⟨by decide +kernel, rfl⟩
set_option maxRecDepth 100000 in
theorem ii_la_law_1231 : sm_D code 1231 1 1232 (.ireturn) := ⟨by decide +kernel, rfl⟩
set_option maxRecDepth 100000 in
theorem ii_la_law_1232 : sm_D code 1232 1 1233 (.aload_n 1) := ⟨by decide +kernel, rfl⟩
set_option maxRecDepth 100000 in
theorem ii_la_law_1233 : sm_D code 1233 1 1234 (.aload_n 0) := ⟨by decide +kernel, rfl⟩
set_option maxRecDepth 100000 in
theorem ii_la_law_1234 : sm_D code 1234 1 1235 (.iload_n 3) := ⟨by decide +kernel, rfl⟩
set_option maxRecDepth 100000 in
theorem ii_la_law_1235 : sm_D code 1235 1 1236 (.iconst 1) := ⟨by decide +kernel, rfl⟩
set_option maxRecDepth 100000 in
theorem ii_la_law_1236 : sm_D code 1236 1 1237 (.iadd) := ⟨by decide +kernel, rfl⟩
set_option maxRecDepth 100000 in
theorem ii_la_law_1237 : sm_D code 1237 1 1238 (.iaload) := ⟨by decide +kernel, rfl⟩
set_option maxRecDepth 100000 in
theorem ii_la_law_1238 : sm_D code 1238 1 1239 (.aload_n 0) := ⟨by decide +kernel, rfl⟩
set_option maxRecDepth 100000 in
theorem ii_la_law_1239 : sm_D code 1239 1 1240 (.iload_n 3) := ⟨by decide +kernel, rfl⟩
set_option maxRecDepth 100000 in
theorem ii_la_law_1240 : sm_D code 1240 1 1241 (.iconst 2) := ⟨by decide +kernel, rfl⟩
set_option maxRecDepth 100000 in
theorem ii_la_law_1241 : sm_D code 1241 1 1242 (.iadd) := ⟨by decide +kernel, rfl⟩
set_option maxRecDepth 100000 in
theorem ii_la_law_1242 : sm_D code 1242 1 1243 (.iaload) := ⟨by decide +kernel, rfl⟩
set_option maxRecDepth 100000 in
theorem ii_la_law_1243 : sm_D code 1243 3 1246 (.invokevirtual 162) := ⟨by decide +kernel, rfl⟩
set_option maxRecDepth 100000 in
theorem ii_la_law_1246 : sm_D code 1246 1 1247 (.aload_n 2) := ⟨by decide +kernel, rfl⟩
set_option maxRecDepth 100000 in
theorem ii_la_law_1247 : sm_D code 1247 1 1248 (.aload_n 0) := ⟨by decide +kernel, rfl⟩
set_option maxRecDepth 100000 in
theorem ii_la_law_1248 : sm_D code 1248 1 1249 (.iload_n 3) := ⟨by decide +kernel, rfl⟩
set_option maxRecDepth 100000 in
theorem ii_la_law_1249 : sm_D code 1249 1 1250 (.iconst 1) := ⟨by decide +kernel, rfl⟩
set_option maxRecDepth 100000 in
theorem ii_la_law_1250 : sm_D code 1250 1 1251 (.iadd) := ⟨by decide +kernel, rfl⟩
set_option maxRecDepth 100000 in
theorem ii_la_law_1251 : sm_D code 1251 1 1252 (.iaload) := ⟨by decide +kernel, rfl⟩
set_option maxRecDepth 100000 in
theorem ii_la_law_1252 : sm_D code 1252 1 1253 (.aload_n 0) := ⟨by decide +kernel, rfl⟩
set_option maxRecDepth 100000 in
theorem ii_la_law_1253 : sm_D code 1253 1 1254 (.iload_n 3) := ⟨by decide +kernel, rfl⟩
set_option maxRecDepth 100000 in
theorem ii_la_law_1254 : sm_D code 1254 1 1255 (.iconst 2) := ⟨by decide +kernel, rfl⟩
set_option maxRecDepth 100000 in
theorem ii_la_law_1255 : sm_D code 1255 1 1256 (.iadd) := ⟨by decide +kernel, rfl⟩
set_option maxRecDepth 100000 in
theorem ii_la_law_1256 : sm_D code 1256 1 1257 (.iaload) := ⟨by decide +kernel, rfl⟩
set_option maxRecDepth 100000 in
theorem ii_la_law_1257 : sm_D code 1257 3 1260 (.invokevirtual 165) := ⟨by decide +kernel, rfl⟩
set_option maxRecDepth 100000 in
theorem ii_la_law_1260 : sm_D code 1260 3 1263 (.if_icmp .eq 119) := ⟨by decide +kernel, rfl⟩
set_option maxRecDepth 100000 in
theorem ii_la_law_1263 : sm_D code 1263 1 1264 (.iconst 0) := ⟨by decide +kernel, rfl⟩
set_option maxRecDepth 100000 in
theorem ii_la_law_1264 : sm_D code 1264 1 1265 (.ireturn) := ⟨by decide +kernel, rfl⟩
set_option maxRecDepth 100000 in
theorem ii_la_law_1265 : sm_D code 1265 1 1266 (.aload_n 1) := ⟨by decide +kernel, rfl⟩
set_option maxRecDepth 100000 in
theorem ii_la_law_1266 : sm_D code 1266 3 1269 (.invokevirtual 166) := ⟨by decide +kernel, rfl⟩
set_option maxRecDepth 100000 in
theorem ii_la_law_1269 : sm_D code 1269 1 1270 (.aload_n 2) := ⟨by decide +kernel, rfl⟩
set_option maxRecDepth 100000 in
theorem ii_la_law_1270 : sm_D code 1270 3 1273 (.invokevirtual 169) := ⟨by decide +kernel, rfl⟩
set_option maxRecDepth 100000 in
theorem ii_la_law_1273 : sm_D code 1273 3 1276 (.if_icmp .eq 106) := ⟨by decide +kernel, rfl⟩
set_option maxRecDepth 100000 in
theorem ii_la_law_1276 : sm_D code 1276 1 1277 (.iconst 0) := ⟨by decide +kernel, rfl⟩
set_option maxRecDepth 100000 in
theorem ii_la_law_1277 : sm_D code 1277 1 1278 (.ireturn) := ⟨by decide +kernel, rfl⟩
set_option maxRecDepth 100000 in
theorem ii_la_law_1278 : sm_D code 1278 1 1279 (.aload_n 1) := ⟨by decide +kernel, rfl⟩
set_option maxRecDepth 100000 in
theorem ii_la_law_1279 : sm_D code 1279 3 1282 (.invokevirtual 170) := ⟨by decide +kernel, rfl⟩
set_option maxRecDepth 100000 in
theorem ii_la_law_1282 : sm_D code 1282 1 1283 (.aload_n 2) := ⟨by decide +kernel, rfl⟩
set_option maxRecDepth 100000 in
theorem ii_la_law_1283 : sm_D code 1283 3 1286 (.invokevirtual 174) := ⟨by decide +kernel, rfl⟩
set_option maxRecDepth 100000 in
theorem ii_la_law_1286 : sm_D code 1286 1 1287 (.lcmp) := ⟨by decide +kernel, rfl⟩
set_option maxRecDepth 100000 in
theorem ii_la_law_1287 : sm_D code 1287 3 1290 (.ifCond .eq 92) := ⟨by decide +kernel, rfl⟩
set_option maxRecDepth 100000 in
theorem ii_la_law_1290 : sm_D code 1290 1 1291 (.iconst 0) := ⟨by decide +kernel, rfl⟩
set_option maxRecDepth 100000 in
theorem ii_la_law_1291 : sm_D code 1291 1 1292 (.ireturn) := ⟨by decide +kernel, rfl⟩
set_option maxRecDepth 100000 in
theorem ii_la_law_1292 : sm_D code 1292 1 1293 (.aload_n 1) := ⟨by decide +kernel, rfl⟩
set_option maxRecDepth 100000 in
theorem ii_la_law_1293 : sm_D code 1293 3 1296 (.invokevirtual 175) := ⟨by decide +kernel, rfl⟩
set_option maxRecDepth 100000 in
theorem ii_la_law_1296 : sm_D code 1296 1 1297 (.aload_n 2) := ⟨by decide +kernel, rfl⟩
set_option maxRecDepth 100000 in
theorem ii_la_law_1297 : sm_D code 1297 3 1300 (.invokevirtual 178) := ⟨by decide +kernel, rfl⟩
set_option maxRecDepth 100000 in
theorem ii_la_law_1300 : sm_D code 1300 1 1301 (.lcmp) := ⟨by decide +kernel, rfl⟩
set_option maxRecDepth 100000 in
theorem ii_la_law_1301 : sm_D code 1301 3 1304 (.ifCond .eq 78) := ⟨by decide +kernel, rfl⟩
set_option maxRecDepth 100000 in
theorem ii_la_law_1304 : sm_D code 1304 1 1305 (.iconst 0) := ⟨by decide +kernel, rfl⟩
set_option maxRecDepth 100000 in
theorem ii_la_law_1305 : sm_D code 1305 1 1306 (.ireturn) := ⟨by decide +kernel, rfl⟩
set_option maxRecDepth 100000 in
theorem ii_la_law_1306 : sm_D code 1306 1 1307 (.aload_n 1) := ⟨by decide +kernel, rfl⟩
set_option maxRecDepth 100000 in
theorem ii_la_law_1307 : sm_D code 1307 1 1308 (.aload_n 0) := ⟨by decide +kernel, rfl⟩
set_option maxRecDepth 100000 in
theorem ii_la_law_1308 : sm_D code 1308 1 1309 (.iload_n 3) := ⟨by decide +kernel, rfl⟩
set_option maxRecDepth 100000 in
theorem ii_la_law_1309 : sm_D code 1309 1 1310 (.iconst 1) := ⟨by decide +kernel, rfl⟩
set_option maxRecDepth 100000 in
theorem ii_la_law_1310 : sm_D code 1310 1 1311 (.iadd) := ⟨by decide +kernel, rfl⟩
set_option maxRecDepth 100000 in
theorem ii_la_law_1311 : sm_D code 1311 1 1312 (.iaload) := ⟨by decide +kernel, rfl⟩
set_option maxRecDepth 100000 in
theorem ii_la_law_1312 : sm_D code 1312 3 1315 (.invokevirtual 179) := ⟨by decide +kernel, rfl⟩
set_option maxRecDepth 100000 in
theorem ii_la_law_1315 : sm_D code 1315 1 1316 (.aload_n 2) := ⟨by decide +kernel, rfl⟩
set_option maxRecDepth 100000 in
theorem ii_la_law_1316 : sm_D code 1316 1 1317 (.aload_n 0) := ⟨by decide +kernel, rfl⟩
set_option maxRecDepth 100000 in
theorem ii_la_law_1317 : sm_D code 1317 1 1318 (.iload_n 3) := ⟨by decide +kernel, rfl⟩
set_option maxRecDepth 100000 in
theorem ii_la_law_1318 : sm_D code 1318 1 1319 (.iconst 1) := ⟨by decide +kernel, rfl⟩
set_option maxRecDepth 100000 in
theorem ii_la_law_1319 : sm_D code 1319 1 1320 (.iadd) := ⟨by decide +kernel, rfl⟩
set_option maxRecDepth 100000 in
theorem ii_la_law_1320 : sm_D code 1320 1 1321 (.iaload) := ⟨by decide +kernel, rfl⟩
set_option maxRecDepth 100000 in
theorem ii_la_law_1321 : sm_D code 1321 3 1324 (.invokevirtual 182) := ⟨by decide +kernel, rfl⟩
set_option maxRecDepth 100000 in
theorem ii_la_law_1324 : sm_D code 1324 3 1327 (.if_icmp .eq 55) := ⟨by decide +kernel, rfl⟩
set_option maxRecDepth 100000 in
theorem ii_la_law_1327 : sm_D code 1327 1 1328 (.iconst 0) := ⟨by decide +kernel, rfl⟩
set_option maxRecDepth 100000 in
theorem ii_la_law_1328 : sm_D code 1328 1 1329 (.ireturn) := ⟨by decide +kernel, rfl⟩
set_option maxRecDepth 100000 in
theorem ii_la_law_1329 : sm_D code 1329 1 1330 (.aload_n 1) := ⟨by decide +kernel, rfl⟩
set_option maxRecDepth 100000 in
theorem ii_la_law_1330 : sm_D code 1330 3 1333 (.invokevirtual 183) := ⟨by decide +kernel, rfl⟩
set_option maxRecDepth 100000 in
theorem ii_la_law_1333 : sm_D code 1333 1 1334 (.aload_n 2) := ⟨by decide +kernel, rfl⟩
set_option maxRecDepth 100000 in
theorem ii_la_law_1334 : sm_D code 1334 3 1337 (.invokevirtual 186) := ⟨by decide +kernel, rfl⟩
set_option maxRecDepth 100000 in
theorem ii_la_law_1337 : sm_D code 1337 3 1340 (.if_icmp .eq 42) := ⟨by decide +kernel, rfl⟩
set_option maxRecDepth 100000 in
theorem ii_la_law_1340 : sm_D code 1340 1 1341 (.iconst 0) := ⟨by decide +kernel, rfl⟩
set_option maxRecDepth 100000 in
theorem ii_la_law_1341 : sm_D code 1341 1 1342 (.ireturn) := ⟨by decide +kernel, rfl⟩
set_option maxRecDepth 100000 in
theorem ii_la_law_1342 : sm_D code 1342 1 1343 (.aload_n 1) := ⟨by decide +kernel, rfl⟩
set_option maxRecDepth 100000 in
theorem ii_la_law_1343 : sm_D code 1343 1 1344 (.aload_n 0) := ⟨by decide +kernel, rfl⟩
set_option maxRecDepth 100000 in
theorem ii_la_law_1344 : sm_D code 1344 1 1345 (.iload_n 3) := ⟨by decide +kernel, rfl⟩
set_option maxRecDepth 100000 in
theorem ii_la_law_1345 : sm_D code 1345 1 1346 (.iconst 1) := ⟨by decide +kernel, rfl⟩
set_option maxRecDepth 100000 in
theorem ii_la_law_1346 : sm_D code 1346 1 1347 (.iadd) := ⟨by decide +kernel, rfl⟩
set_option maxRecDepth 100000 in
theorem ii_la_law_1347 : sm_D code 1347 1 1348 (.iaload) := ⟨by decide +kernel, rfl⟩
set_option maxRecDepth 100000 in
theorem ii_la_law_1348 : sm_D code 1348 3 1351 (.invokevirtual 187) := ⟨by decide +kernel, rfl⟩
set_option maxRecDepth 100000 in
theorem ii_la_law_1351 : sm_D code 1351 1 1352 (.aload_n 2) := ⟨by decide +kernel, rfl⟩
set_option maxRecDepth 100000 in
theorem ii_la_law_1352 : sm_D code 1352 1 1353 (.aload_n 0) := ⟨by decide +kernel, rfl⟩
set_option maxRecDepth 100000 in
theorem ii_la_law_1353 : sm_D code 1353 1 1354 (.iload_n 3) := ⟨by decide +kernel, rfl⟩
set_option maxRecDepth 100000 in
theorem ii_la_law_1354 : sm_D code 1354 1 1355 (.iconst 1) := ⟨by decide +kernel, rfl⟩
set_option maxRecDepth 100000 in
theorem ii_la_law_1355 : sm_D code 1355 1 1356 (.iadd) := ⟨by decide +kernel, rfl⟩
set_option maxRecDepth 100000 in
theorem ii_la_law_1356 : sm_D code 1356 1 1357 (.iaload) := ⟨by decide +kernel, rfl⟩
set_option maxRecDepth 100000 in
theorem ii_la_law_1357 : sm_D code 1357 3 1360 (.invokevirtual 190) := ⟨by decide +kernel, rfl⟩
set_option maxRecDepth 100000 in
theorem ii_la_law_1360 : sm_D code 1360 3 1363 (.if_icmp .eq 19) := ⟨by decide +kernel, rfl⟩
set_option maxRecDepth 100000 in
theorem ii_la_law_1363 : sm_D code 1363 1 1364 (.iconst 0) := ⟨by decide +kernel, rfl⟩
set_option maxRecDepth 100000 in
theorem ii_la_law_1364 : sm_D code 1364 1 1365 (.ireturn) := ⟨by decide +kernel, rfl⟩
set_option maxRecDepth 100000 in
theorem ii_la_law_1365 : sm_D code 1365 1 1366 (.aload_n 1) := ⟨by decide +kernel, rfl⟩
set_option maxRecDepth 100000 in
theorem ii_la_law_1366 : sm_D code 1366 3 1369 (.invokevirtual 191) := ⟨by decide +kernel, rfl⟩
set_option maxRecDepth 100000 in
theorem ii_la_law_1369 : sm_D code 1369 1 1370 (.aload_n 2) := ⟨by decide +kernel, rfl⟩
set_option maxRecDepth 100000 in
theorem ii_la_law_1370 : sm_D code 1370 3 1373 (.invokevirtual 194) := ⟨by decide +kernel, rfl⟩
set_option maxRecDepth 100000 in
theorem ii_la_law_1373 : sm_D code 1373 1 1374 (.lcmp) := ⟨by decide +kernel, rfl⟩
set_option maxRecDepth 100000 in
theorem ii_la_law_1374 : sm_D code 1374 3 1377 (.ifCond .eq 5) := ⟨by decide +kernel, rfl⟩
set_option maxRecDepth 100000 in
theorem ii_la_law_1377 : sm_D code 1377 1 1378 (.iconst 0) := ⟨by decide +kernel, rfl⟩
set_option maxRecDepth 100000 in
theorem ii_la_law_1378 : sm_D code 1378 1 1379 (.ireturn) := ⟨by decide +kernel, rfl⟩
set_option maxRecDepth 100000 in
theorem ii_la_law_1379 : sm_D code 1379 3 1382 (.iinc 3 6) := ⟨by decide +kernel, rfl⟩
set_option maxRecDepth 100000 in
theorem ii_la_law_1382 : sm_D code 1382 3 1385 (.goto (-1364)) := ⟨by decide +kernel, rfl⟩
set_option maxRecDepth 100000 in
theorem ii_la_law_1385 : sm_D code 1385 1 1386 (.iconst 1) := ⟨by decide +kernel, rfl⟩
set_option maxRecDepth 100000 in
theorem ii_la_law_1386 : sm_D code 1386 1 1387 (.ireturn) := ⟨by decide +kernel, rfl⟩
noncomputable def ff_la_law_18_b (E : Nat × (Nat → Int32))  (self18 : Int32 → sm_Mem → sm_R) (a3 : Int32) (w : sm_Mem) : sm_R := (if ((Int32.ofNat E.1) - (6 : Int32)) < a3 then (some (.int (1 : Int32), w)) else (Option.bind (sm_sc E a3) fun x1 => (sm_sw (x1 &&& (63 : Int32)) (0) [((Option.bind (sm_sc E (a3 + (1 : Int32))) fun x2 => (Option.bind (sm_sc E (a3 + (2 : Int32))) fun x3 => (sm_cI (ff_ho_row (x2) (x3) w) fun x4 w5 => (Option.bind (sm_sc E (a3 + (1 : Int32))) fun x6 => (Option.bind (sm_sc E (a3 + (2 : Int32))) fun x7 => (sm_cI (ff_mo_row (x6) (x7) w5) fun x8 w9 => (if x4 = x8 then self18 ((a3 + (6 : Int32))) w9 else (some (.int (0 : Int32), w9)))))))))), ((Option.bind (sm_sc E (a3 + (1 : Int32))) fun x10 => (Option.bind (sm_sc E (a3 + (2 : Int32))) fun x11 => (Option.bind (sm_sc E (a3 + (3 : Int32))) fun x12 => (sm_cI (ff_ho_lay (x10) (x11) (x12) w) fun x13 w14 => (Option.bind (sm_sc E (a3 + (1 : Int32))) fun x15 => (Option.bind (sm_sc E (a3 + (2 : Int32))) fun x16 => (Option.bind (sm_sc E (a3 + (3 : Int32))) fun x17 => (sm_cI (ff_mo_lay (x15) (x16) (x17) w14) fun x18 w19 => (if x13 = x18 then self18 ((a3 + (6 : Int32))) w19 else (some (.int (0 : Int32), w19)))))))))))), ((Option.bind (sm_sc E (a3 + (1 : Int32))) fun x20 => (Option.bind (sm_sc E (a3 + (2 : Int32))) fun x21 => (sm_cI (ff_ho_at (x20) (x21) w) fun x22 w23 => (Option.bind (sm_sc E (a3 + (1 : Int32))) fun x24 => (Option.bind (sm_sc E (a3 + (2 : Int32))) fun x25 => (sm_cI (ff_mo_at (x24) (x25) w23) fun x26 w27 => (if x22 = x26 then self18 ((a3 + (6 : Int32))) w27 else (some (.int (0 : Int32), w27)))))))))), ((Option.bind (sm_sc E (a3 + (1 : Int32))) fun x28 => (sm_cI (ff_ho_tear (x28) w) fun x29 w30 => (Option.bind (sm_sc E (a3 + (1 : Int32))) fun x31 => (sm_cI (ff_mo_tear (x31) w30) fun x32 w33 => (if x29 = x32 then self18 ((a3 + (6 : Int32))) w33 else (some (.int (0 : Int32), w33)))))))), ((Option.bind (sm_sc E (a3 + (1 : Int32))) fun x34 => (Option.bind (sm_sc E (a3 + (2 : Int32))) fun x35 => (Option.bind (sm_sc E (a3 + (3 : Int32))) fun x36 => (Option.bind (sm_sc E (a3 + (4 : Int32))) fun x37 => (Option.bind (sm_sc E (a3 + (5 : Int32))) fun x38 => (sm_cI (ff_ho_copy (x34) (x35) (x36) (x37) (x38) w) fun x39 w40 => (Option.bind (sm_sc E (a3 + (1 : Int32))) fun x41 => (Option.bind (sm_sc E (a3 + (2 : Int32))) fun x42 => (Option.bind (sm_sc E (a3 + (3 : Int32))) fun x43 => (Option.bind (sm_sc E (a3 + (4 : Int32))) fun x44 => (Option.bind (sm_sc E (a3 + (5 : Int32))) fun x45 => (sm_cI (ff_mo_copy (x41) (x42) (x43) (x44) (x45) w40) fun x46 w47 => (if x39 = x46 then self18 ((a3 + (6 : Int32))) w47 else (some (.int (0 : Int32), w47)))))))))))))))), ((Option.bind (sm_sc E (a3 + (1 : Int32))) fun x48 => (sm_cI (ff_ho_mean (x48) w) fun x49 w50 => (Option.bind (sm_sc E (a3 + (1 : Int32))) fun x51 => (sm_cI (ff_mo_mean (x51) w50) fun x52 w53 => (if x49 = x52 then self18 ((a3 + (6 : Int32))) w53 else (some (.int (0 : Int32), w53)))))))), ((Option.bind (sm_sc E (a3 + (1 : Int32))) fun x54 => (Option.bind (sm_sc E (a3 + (2 : Int32))) fun x55 => (sm_cI (ff_ho_text (x54) (x55) w) fun x56 w57 => (Option.bind (sm_sc E (a3 + (1 : Int32))) fun x58 => (Option.bind (sm_sc E (a3 + (2 : Int32))) fun x59 => (sm_cI (ff_mo_text (x58) (x59) w57) fun x60 w61 => (if x56 = x60 then self18 ((a3 + (6 : Int32))) w61 else (some (.int (0 : Int32), w61)))))))))), ((Option.bind (sm_sc E (a3 + (1 : Int32))) fun x62 => (Option.bind (sm_sc E (a3 + (2 : Int32))) fun x63 => (Option.bind (sm_sc E (a3 + (3 : Int32))) fun x64 => (sm_cI (ff_ho_put (x62) (x63) (x64) w) fun x65 w66 => (Option.bind (sm_sc E (a3 + (1 : Int32))) fun x67 => (Option.bind (sm_sc E (a3 + (2 : Int32))) fun x68 => (Option.bind (sm_sc E (a3 + (3 : Int32))) fun x69 => (sm_cI (ff_mo_put (x67) (x68) (x69) w66) fun x70 w71 => (if x65 = x70 then self18 ((a3 + (6 : Int32))) w71 else (some (.int (0 : Int32), w71)))))))))))), ((Option.bind (sm_sc E (a3 + (1 : Int32))) fun x72 => (sm_cI (ff_ho_fault (x72) w) fun x73 w74 => (Option.bind (sm_sc E (a3 + (1 : Int32))) fun x75 => (sm_cI (ff_mo_fault (x75) w74) fun x76 w77 => (if x73 = x76 then self18 ((a3 + (6 : Int32))) w77 else (some (.int (0 : Int32), w77)))))))), ((Option.bind (sm_sc E (a3 + (1 : Int32))) fun x78 => (sm_cI (ff_ho_house (x78) w) fun x79 w80 => (Option.bind (sm_sc E (a3 + (1 : Int32))) fun x81 => (sm_cI (ff_mo_house (x81) w80) fun x82 w83 => (if x79 = x82 then self18 ((a3 + (6 : Int32))) w83 else (some (.int (0 : Int32), w83)))))))), ((Option.bind (sm_sc E (a3 + (1 : Int32))) fun x84 => (Option.bind (sm_sc E (a3 + (2 : Int32))) fun x85 => (sm_cI (ff_ho_speaker (x84) (x85) w) fun x86 w87 => (Option.bind (sm_sc E (a3 + (1 : Int32))) fun x88 => (Option.bind (sm_sc E (a3 + (2 : Int32))) fun x89 => (sm_cI (ff_mo_speaker (x88) (x89) w87) fun x90 w91 => (if x86 = x90 then self18 ((a3 + (6 : Int32))) w91 else (some (.int (0 : Int32), w91)))))))))), ((Option.bind (sm_sc E (a3 + (1 : Int32))) fun x92 => (Option.bind (sm_sc E (a3 + (2 : Int32))) fun x93 => (sm_cI (ff_ho_mark (x92) (x93) w) fun x94 w95 => (Option.bind (sm_sc E (a3 + (1 : Int32))) fun x96 => (Option.bind (sm_sc E (a3 + (2 : Int32))) fun x97 => (sm_cI (ff_mo_mark (x96) (x97) w95) fun x98 w99 => (if x94 = x98 then self18 ((a3 + (6 : Int32))) w99 else (some (.int (0 : Int32), w99)))))))))), ((Option.bind (sm_sc E (a3 + (1 : Int32))) fun x100 => (Option.bind (sm_sc E (a3 + (2 : Int32))) fun x101 => (sm_cI (ff_ho_say (x100) (x101) w) fun x102 w103 => (Option.bind (sm_sc E (a3 + (1 : Int32))) fun x104 => (Option.bind (sm_sc E (a3 + (2 : Int32))) fun x105 => (sm_cI (ff_mo_say (x104) (x105) w103) fun x106 w107 => (if x102 = x106 then self18 ((a3 + (6 : Int32))) w107 else (some (.int (0 : Int32), w107)))))))))), ((sm_cI (ff_ho_end  w) fun x108 w109 => (sm_cI (ff_mo_end  w109) fun x110 w111 => (if x108 = x110 then self18 ((a3 + (6 : Int32))) w111 else (some (.int (0 : Int32), w111)))))), ((sm_cI (ff_ho_hour  w) fun x112 w113 => (sm_cI (ff_mo_hour  w113) fun x114 w115 => (if x112 = x114 then self18 ((a3 + (6 : Int32))) w115 else (some (.int (0 : Int32), w115)))))), ((Option.bind (sm_sc E (a3 + (1 : Int32))) fun x116 => (Option.bind (sm_sc E (a3 + (2 : Int32))) fun x117 => (sm_cI (ff_ho_walk (x116) (x117) w) fun x118 w119 => (Option.bind (sm_sc E (a3 + (1 : Int32))) fun x120 => (Option.bind (sm_sc E (a3 + (2 : Int32))) fun x121 => (sm_cI (ff_mo_walk (x120) (x121) w119) fun x122 w123 => (if x118 = x122 then self18 ((a3 + (6 : Int32))) w123 else (some (.int (0 : Int32), w123)))))))))), ((Option.bind (sm_sc E (a3 + (1 : Int32))) fun x124 => (sm_cI (ff_ho_undo (x124) w) fun x125 w126 => (Option.bind (sm_sc E (a3 + (1 : Int32))) fun x127 => (sm_cI (ff_mo_undo (x127) w126) fun x128 w129 => (if x125 = x128 then self18 ((a3 + (6 : Int32))) w129 else (some (.int (0 : Int32), w129)))))))), ((Option.bind (sm_sc E (a3 + (1 : Int32))) fun x130 => (sm_cI (ff_ho_keep (x130) w) fun x131 w132 => (Option.bind (sm_sc E (a3 + (1 : Int32))) fun x133 => (sm_cI (ff_mo_keep (x133) w132) fun x134 w135 => (if x131 = x134 then self18 ((a3 + (6 : Int32))) w135 else (some (.int (0 : Int32), w135)))))))), ((Option.bind (sm_sc E (a3 + (1 : Int32))) fun x136 => (sm_cI (ff_ho_on (x136) w) fun x137 w138 => (Option.bind (sm_sc E (a3 + (1 : Int32))) fun x139 => (sm_cI (ff_mo_on (x139) w138) fun x140 w141 => (if x137 = x140 then self18 ((a3 + (6 : Int32))) w141 else (some (.int (0 : Int32), w141)))))))), ((Option.bind (sm_sc E (a3 + (1 : Int32))) fun x142 => (sm_cI (ff_ho_who (x142) w) fun x143 w144 => (Option.bind (sm_sc E (a3 + (1 : Int32))) fun x145 => (sm_cI (ff_mo_who (x145) w144) fun x146 w147 => (if x143 = x146 then self18 ((a3 + (6 : Int32))) w147 else (some (.int (0 : Int32), w147)))))))), ((Option.bind (sm_sc E (a3 + (1 : Int32))) fun x148 => (sm_cI (ff_ho_what (x148) w) fun x149 w150 => (Option.bind (sm_sc E (a3 + (1 : Int32))) fun x151 => (sm_cI (ff_mo_what (x151) w150) fun x152 w153 => (if x149 = x152 then self18 ((a3 + (6 : Int32))) w153 else (some (.int (0 : Int32), w153)))))))), ((Option.bind (sm_sc E (a3 + (1 : Int32))) fun x154 => (sm_cI (ff_ho_said (x154) w) fun x155 w156 => (Option.bind (sm_sc E (a3 + (1 : Int32))) fun x157 => (sm_cI (ff_mo_said (x157) w156) fun x158 w159 => (if x155 = x158 then self18 ((a3 + (6 : Int32))) w159 else (some (.int (0 : Int32), w159)))))))), ((Option.bind (sm_sc E (a3 + (1 : Int32))) fun x160 => (sm_cI (ff_ho_ways (x160) w) fun x161 w162 => (Option.bind (sm_sc E (a3 + (1 : Int32))) fun x163 => (sm_cI (ff_mo_ways (x163) w162) fun x164 w165 => (if x161 = x164 then self18 ((a3 + (6 : Int32))) w165 else (some (.int (0 : Int32), w165)))))))), ((Option.bind (sm_sc E (a3 + (1 : Int32))) fun x166 => (Option.bind (sm_sc E (a3 + (2 : Int32))) fun x167 => (sm_cI (ff_ho_few (x166) (x167) w) fun x168 w169 => (Option.bind (sm_sc E (a3 + (1 : Int32))) fun x170 => (Option.bind (sm_sc E (a3 + (2 : Int32))) fun x171 => (sm_cI (ff_mo_few (x170) (x171) w169) fun x172 w173 => (if x168 = x172 then self18 ((a3 + (6 : Int32))) w173 else (some (.int (0 : Int32), w173)))))))))), ((Option.bind (sm_sc E (a3 + (1 : Int32))) fun x174 => (sm_cI (ff_ho_far (x174) w) fun x175 w176 => (Option.bind (sm_sc E (a3 + (1 : Int32))) fun x177 => (sm_cI (ff_mo_far (x177) w176) fun x178 w179 => (if x175 = x178 then self18 ((a3 + (6 : Int32))) w179 else (some (.int (0 : Int32), w179)))))))), ((sm_cI (ff_ho_dumb  w) fun x180 w181 => (sm_cI (ff_mo_dumb  w181) fun x182 w183 => (if x180 = x182 then self18 ((a3 + (6 : Int32))) w183 else (some (.int (0 : Int32), w183)))))), ((Option.bind (sm_sc E (a3 + (1 : Int32))) fun x184 => (sm_cI (ff_ho_longest (x184) w) fun x185 w186 => (Option.bind (sm_sc E (a3 + (1 : Int32))) fun x187 => (sm_cI (ff_mo_longest (x187) w186) fun x188 w189 => (if x185 = x188 then self18 ((a3 + (6 : Int32))) w189 else (some (.int (0 : Int32), w189)))))))), ((Option.bind (sm_sc E (a3 + (1 : Int32))) fun x190 => (sm_cI (ff_ho_heard (x190) w) fun x191 w192 => (Option.bind (sm_sc E (a3 + (1 : Int32))) fun x193 => (sm_cI (ff_mo_heard (x193) w192) fun x194 w195 => (if x191 = x194 then self18 ((a3 + (6 : Int32))) w195 else (some (.int (0 : Int32), w195)))))))), ((Option.bind (sm_sc E (a3 + (1 : Int32))) fun x196 => (sm_cI (ff_ho_sure (x196) w) fun x197 w198 => (Option.bind (sm_sc E (a3 + (1 : Int32))) fun x199 => (sm_cI (ff_mo_sure (x199) w198) fun x200 w201 => (if x197 = x200 then self18 ((a3 + (6 : Int32))) w201 else (some (.int (0 : Int32), w201)))))))), ((Option.bind (sm_sc E (a3 + (1 : Int32))) fun x202 => (Option.bind (sm_sc E (a3 + (2 : Int32))) fun x203 => (sm_cI (ff_ho_kinds (x202) (x203) w) fun x204 w205 => (Option.bind (sm_sc E (a3 + (1 : Int32))) fun x206 => (Option.bind (sm_sc E (a3 + (2 : Int32))) fun x207 => (sm_cI (ff_mo_kinds (x206) (x207) w205) fun x208 w209 => (if x204 = x208 then self18 ((a3 + (6 : Int32))) w209 else (some (.int (0 : Int32), w209)))))))))), ((Option.bind (sm_sc E (a3 + (1 : Int32))) fun x210 => (Option.bind (sm_sc E (a3 + (2 : Int32))) fun x211 => (sm_cI (ff_ho_test (x210) (x211) w) fun x212 w213 => (Option.bind (sm_sc E (a3 + (1 : Int32))) fun x214 => (Option.bind (sm_sc E (a3 + (2 : Int32))) fun x215 => (sm_cI (ff_mo_test (x214) (x215) w213) fun x216 w217 => (if x212 = x216 then self18 ((a3 + (6 : Int32))) w217 else (some (.int (0 : Int32), w217)))))))))), ((Option.bind (sm_sc E (a3 + (1 : Int32))) fun x218 => (Option.bind (sm_sc E (a3 + (2 : Int32))) fun x219 => (sm_cI (ff_ho_fourth (x218) (x219) w) fun x220 w221 => (Option.bind (sm_sc E (a3 + (1 : Int32))) fun x222 => (Option.bind (sm_sc E (a3 + (2 : Int32))) fun x223 => (sm_cI (ff_mo_fourth (x222) (x223) w221) fun x224 w225 => (if x220 = x224 then self18 ((a3 + (6 : Int32))) w225 else (some (.int (0 : Int32), w225)))))))))), ((Option.bind (sm_sc E (a3 + (1 : Int32))) fun x226 => (sm_cI (ff_ho_off (x226) w) fun x227 w228 => (Option.bind (sm_sc E (a3 + (1 : Int32))) fun x229 => (sm_cI (ff_mo_off (x229) w228) fun x230 w231 => (if x227 = x230 then self18 ((a3 + (6 : Int32))) w231 else (some (.int (0 : Int32), w231)))))))), ((Option.bind (sm_sc E (a3 + (1 : Int32))) fun x232 => (sm_cI (ff_ho_struck (x232) w) fun x233 w234 => (Option.bind (sm_sc E (a3 + (1 : Int32))) fun x235 => (sm_cI (ff_mo_struck (x235) w234) fun x236 w237 => (if x233 = x236 then self18 ((a3 + (6 : Int32))) w237 else (some (.int (0 : Int32), w237)))))))), ((Option.bind (sm_sc E (a3 + (1 : Int32))) fun x238 => (Option.bind (sm_sc E (a3 + (2 : Int32))) fun x239 => (sm_cI (ff_ho_odds (x238) (x239) w) fun x240 w241 => (Option.bind (sm_sc E (a3 + (1 : Int32))) fun x242 => (Option.bind (sm_sc E (a3 + (2 : Int32))) fun x243 => (sm_cI (ff_mo_odds (x242) (x243) w241) fun x244 w245 => (if x240 = x244 then self18 ((a3 + (6 : Int32))) w245 else (some (.int (0 : Int32), w245)))))))))), ((Option.bind (sm_sc E (a3 + (1 : Int32))) fun x246 => (Option.bind (sm_sc E (a3 + (2 : Int32))) fun x247 => (sm_cI (ff_ho_mid (x246) (x247) w) fun x248 w249 => (Option.bind (sm_sc E (a3 + (1 : Int32))) fun x250 => (Option.bind (sm_sc E (a3 + (2 : Int32))) fun x251 => (sm_cI (ff_mo_mid (x250) (x251) w249) fun x252 w253 => (if x248 = x252 then self18 ((a3 + (6 : Int32))) w253 else (some (.int (0 : Int32), w253)))))))))), ((Option.bind (sm_sc E (a3 + (1 : Int32))) fun x254 => (Option.bind (sm_sc E (a3 + (2 : Int32))) fun x255 => (sm_cI (ff_ho_lots (x254) (x255) w) fun x256 w257 => (Option.bind (sm_sc E (a3 + (1 : Int32))) fun x258 => (Option.bind (sm_sc E (a3 + (2 : Int32))) fun x259 => (sm_cI (ff_mo_lots (x258) (x259) w257) fun x260 w261 => (if x256 = x260 then self18 ((a3 + (6 : Int32))) w261 else (some (.int (0 : Int32), w261)))))))))), ((sm_cI (ff_ho_asked  w) fun x262 w263 => (sm_cI (ff_mo_asked  w263) fun x264 w265 => (if x262 = x264 then self18 ((a3 + (6 : Int32))) w265 else (some (.int (0 : Int32), w265)))))), ((sm_cL (ff_ho_upper  w) fun x266 w267 => (sm_cL (ff_mo_upper  w267) fun x268 w269 => (if (lg_cmp x266 x268) = (0 : Int32) then self18 ((a3 + (6 : Int32))) w269 else (some (.int (0 : Int32), w269)))))), ((sm_cL (ff_ho_lower  w) fun x270 w271 => (sm_cL (ff_mo_lower  w271) fun x272 w273 => (if (lg_cmp x270 x272) = (0 : Int32) then self18 ((a3 + (6 : Int32))) w273 else (some (.int (0 : Int32), w273)))))), ((Option.bind (sm_sc E (a3 + (1 : Int32))) fun x274 => (sm_cI (ff_ho_count (x274) w) fun x275 w276 => (Option.bind (sm_sc E (a3 + (1 : Int32))) fun x277 => (sm_cI (ff_mo_count (x277) w276) fun x278 w279 => (if x275 = x278 then self18 ((a3 + (6 : Int32))) w279 else (some (.int (0 : Int32), w279)))))))), ((sm_cI (ff_ho_finding  w) fun x280 w281 => (sm_cI (ff_mo_finding  w281) fun x282 w283 => (if x280 = x282 then self18 ((a3 + (6 : Int32))) w283 else (some (.int (0 : Int32), w283)))))), ((Option.bind (sm_sc E (a3 + (1 : Int32))) fun x284 => (sm_cI (ff_ho_findings (x284) w) fun x285 w286 => (Option.bind (sm_sc E (a3 + (1 : Int32))) fun x287 => (sm_cI (ff_mo_findings (x287) w286) fun x288 w289 => (if x285 = x288 then self18 ((a3 + (6 : Int32))) w289 else (some (.int (0 : Int32), w289)))))))), ((sm_cL (ff_ho_digest  w) fun x290 w291 => (sm_cL (ff_mo_digest  w291) fun x292 w293 => (if (lg_cmp x290 x292) = (0 : Int32) then self18 ((a3 + (6 : Int32))) w293 else (some (.int (0 : Int32), w293))))))] (self18 ((a3 + (6 : Int32))) w))))
noncomputable def ff_la_law_18_f (E : Nat × (Nat → Int32))  : Nat → Int32 → sm_Mem → sm_R
  | 0, _, _ => none
  | n + 1, a3, w => ff_la_law_18_b E  (ff_la_law_18_f E  n) a3 w
noncomputable def ff_la_law_18 (E : Nat × (Nat → Int32))  (a3 : Int32) (w : sm_Mem) : sm_R := ff_la_law_18_f E  sm_N a3 w
set_option maxHeartbeats 4000000 in
set_option maxRecDepth 100000 in
theorem ss_la_law_18_b {E : Nat × (Nat → Int32)}  (self18 : Int32 → sm_Mem → sm_R) (hself18 : ∀ (a3 : Int32) (w : sm_Mem), sm_Sim E (mi_la_law) 18 [some (.ref 999), some (.ref 0), some (.ref 62), some (.int a3)] [] w (self18 a3 w)) (a3 : Int32) (w : sm_Mem) : sm_Sim E (mi_la_law) 18 [some (.ref 999), some (.ref 0), some (.ref 62), some (.int a3)] [] w (ff_la_law_18_b E  self18 a3 w) := by
  unfold ff_la_law_18_b
  refine sm_iload_n ii_la_law_18 rfl ?_
  refine sm_aload_n ii_la_law_19 rfl ?_
  refine sm_slen rfl ii_la_law_20 ?_
  refine sm_bipush (6 : Int32) ii_la_law_21 (by decide) ?_
  refine sm_isub ii_la_law_23 ?_
  refine sm_icmp_gt 1385 ii_la_law_24 (by decide) ?_ ?_
  · refine sm_iconst (1 : Int32) ii_la_law_1385 (by decide) ?_
    exact sm_zret1 ii_la_law_1386 rfl (by decide)
  · refine sm_aload_n ii_la_law_27 rfl ?_
    refine sm_iload_n ii_la_law_28 rfl ?_
    refine sm_sald rfl ii_la_law_29 (fun x1 => ?_)
    refine sm_bipush (63 : Int32) ii_la_law_30 (by decide) ?_
    refine sm_iand ii_la_law_32 ?_
    refine sm_table [224, 257, 300, 333, 356, 419, 442, 475, 518, 541, 564, 597, 630, 663, 676, 689, 722, 745, 768, 791, 814, 837, 860, 883, 916, 939, 952, 975, 998, 1021, 1054, 1087, 1120, 1143, 1166, 1199, 1232, 1265, 1278, 1292, 1306, 1329, 1342, 1365] 1379 ii_la_law_33 rfl rfl rfl ⟨?_, ?_, ?_, ?_, ?_, ?_, ?_, ?_, ?_, ?_, ?_, ?_, ?_, ?_, ?_, ?_, ?_, ?_, ?_, ?_, ?_, ?_, ?_, ?_, ?_, ?_, ?_, ?_, ?_, ?_, ?_, ?_, ?_, ?_, ?_, ?_, ?_, ?_, ?_, ?_, ?_, ?_, ?_, ?_, trivial⟩ ?_
    · refine sm_aload_n ii_la_law_224 rfl ?_
      refine sm_aload_n ii_la_law_225 rfl ?_
      refine sm_iload_n ii_la_law_226 rfl ?_
      refine sm_iconst (1 : Int32) ii_la_law_227 (by decide) ?_
      refine sm_iadd ii_la_law_228 ?_
      refine sm_sald rfl ii_la_law_229 (fun x2 => ?_)
      refine sm_aload_n ii_la_law_230 rfl ?_
      refine sm_iload_n ii_la_law_231 rfl ?_
      refine sm_iconst (2 : Int32) ii_la_law_232 (by decide) ?_
      refine sm_iadd ii_la_law_233 ?_
      refine sm_sald rfl ii_la_law_234 (fun x3 => ?_)
      refine sm_cvI [.int x2, .int x3] [] rfl ii_la_law_235 ml_la_13 (mf_ho_row) (mv_ho_row) (Nat.le_of_ble_eq_true rfl) rfl 6 rfl rfl rfl rfl (mc_ho_row (x2) (x3) w) (fun x4 w5 => ?_)
      refine sm_aload_n ii_la_law_238 rfl ?_
      refine sm_aload_n ii_la_law_239 rfl ?_
      refine sm_iload_n ii_la_law_240 rfl ?_
      refine sm_iconst (1 : Int32) ii_la_law_241 (by decide) ?_
      refine sm_iadd ii_la_law_242 ?_
      refine sm_sald rfl ii_la_law_243 (fun x6 => ?_)
      refine sm_aload_n ii_la_law_244 rfl ?_
      refine sm_iload_n ii_la_law_245 rfl ?_
      refine sm_iconst (2 : Int32) ii_la_law_246 (by decide) ?_
      refine sm_iadd ii_la_law_247 ?_
      refine sm_sald rfl ii_la_law_248 (fun x7 => ?_)
      refine sm_cvI [.int x6, .int x7] [.int x4] rfl ii_la_law_249 ml_la_17 (mf_mo_row) (mv_mo_row) (Nat.le_of_ble_eq_true rfl) rfl 7 rfl rfl rfl rfl (mc_mo_row (x6) (x7) w5) (fun x8 w9 => ?_)
      refine sm_icmp_eq 1379 ii_la_law_252 (by decide) ?_ ?_
      · refine sm_iinc (a3 + (6 : Int32)) [some (.ref 999), some (.ref 0), some (.ref 62), some (.int (a3 + (6 : Int32)))] ii_la_law_1379 rfl rfl rfl rfl ?_
        refine sm_goto 18 ii_la_law_1382 (by decide) ?_
        exact hself18 ((a3 + (6 : Int32))) w9
      · refine sm_iconst (0 : Int32) ii_la_law_255 (by decide) ?_
        exact sm_zret1 ii_la_law_256 rfl (by decide)
    · refine sm_aload_n ii_la_law_257 rfl ?_
      refine sm_aload_n ii_la_law_258 rfl ?_
      refine sm_iload_n ii_la_law_259 rfl ?_
      refine sm_iconst (1 : Int32) ii_la_law_260 (by decide) ?_
      refine sm_iadd ii_la_law_261 ?_
      refine sm_sald rfl ii_la_law_262 (fun x10 => ?_)
      refine sm_aload_n ii_la_law_263 rfl ?_
      refine sm_iload_n ii_la_law_264 rfl ?_
      refine sm_iconst (2 : Int32) ii_la_law_265 (by decide) ?_
      refine sm_iadd ii_la_law_266 ?_
      refine sm_sald rfl ii_la_law_267 (fun x11 => ?_)
      refine sm_aload_n ii_la_law_268 rfl ?_
      refine sm_iload_n ii_la_law_269 rfl ?_
      refine sm_iconst (3 : Int32) ii_la_law_270 (by decide) ?_
      refine sm_iadd ii_la_law_271 ?_
      refine sm_sald rfl ii_la_law_272 (fun x12 => ?_)
      refine sm_cvI [.int x10, .int x11, .int x12] [] rfl ii_la_law_273 ml_la_18 (mf_ho_lay) (mv_ho_lay) (Nat.le_of_ble_eq_true rfl) rfl 6 rfl rfl rfl rfl (mc_ho_lay (x10) (x11) (x12) w) (fun x13 w14 => ?_)
      refine sm_aload_n ii_la_law_276 rfl ?_
      refine sm_aload_n ii_la_law_277 rfl ?_
      refine sm_iload_n ii_la_law_278 rfl ?_
      refine sm_iconst (1 : Int32) ii_la_law_279 (by decide) ?_
      refine sm_iadd ii_la_law_280 ?_
      refine sm_sald rfl ii_la_law_281 (fun x15 => ?_)
      refine sm_aload_n ii_la_law_282 rfl ?_
      refine sm_iload_n ii_la_law_283 rfl ?_
      refine sm_iconst (2 : Int32) ii_la_law_284 (by decide) ?_
      refine sm_iadd ii_la_law_285 ?_
      refine sm_sald rfl ii_la_law_286 (fun x16 => ?_)
      refine sm_aload_n ii_la_law_287 rfl ?_
      refine sm_iload_n ii_la_law_288 rfl ?_
      refine sm_iconst (3 : Int32) ii_la_law_289 (by decide) ?_
      refine sm_iadd ii_la_law_290 ?_
      refine sm_sald rfl ii_la_law_291 (fun x17 => ?_)
      refine sm_cvI [.int x15, .int x16, .int x17] [.int x13] rfl ii_la_law_292 ml_la_22 (mf_mo_lay) (mv_mo_lay) (Nat.le_of_ble_eq_true rfl) rfl 7 rfl rfl rfl rfl (mc_mo_lay (x15) (x16) (x17) w14) (fun x18 w19 => ?_)
      refine sm_icmp_eq 1379 ii_la_law_295 (by decide) ?_ ?_
      · refine sm_iinc (a3 + (6 : Int32)) [some (.ref 999), some (.ref 0), some (.ref 62), some (.int (a3 + (6 : Int32)))] ii_la_law_1379 rfl rfl rfl rfl ?_
        refine sm_goto 18 ii_la_law_1382 (by decide) ?_
        exact hself18 ((a3 + (6 : Int32))) w19
      · refine sm_iconst (0 : Int32) ii_la_law_298 (by decide) ?_
        exact sm_zret1 ii_la_law_299 rfl (by decide)
    · refine sm_aload_n ii_la_law_300 rfl ?_
      refine sm_aload_n ii_la_law_301 rfl ?_
      refine sm_iload_n ii_la_law_302 rfl ?_
      refine sm_iconst (1 : Int32) ii_la_law_303 (by decide) ?_
      refine sm_iadd ii_la_law_304 ?_
      refine sm_sald rfl ii_la_law_305 (fun x20 => ?_)
      refine sm_aload_n ii_la_law_306 rfl ?_
      refine sm_iload_n ii_la_law_307 rfl ?_
      refine sm_iconst (2 : Int32) ii_la_law_308 (by decide) ?_
      refine sm_iadd ii_la_law_309 ?_
      refine sm_sald rfl ii_la_law_310 (fun x21 => ?_)
      refine sm_cvI [.int x20, .int x21] [] rfl ii_la_law_311 ml_la_23 (mf_ho_at) (mv_ho_at) (Nat.le_of_ble_eq_true rfl) rfl 6 rfl rfl rfl rfl (mc_ho_at (x20) (x21) w) (fun x22 w23 => ?_)
      refine sm_aload_n ii_la_law_314 rfl ?_
      refine sm_aload_n ii_la_law_315 rfl ?_
      refine sm_iload_n ii_la_law_316 rfl ?_
      refine sm_iconst (1 : Int32) ii_la_law_317 (by decide) ?_
      refine sm_iadd ii_la_law_318 ?_
      refine sm_sald rfl ii_la_law_319 (fun x24 => ?_)
      refine sm_aload_n ii_la_law_320 rfl ?_
      refine sm_iload_n ii_la_law_321 rfl ?_
      refine sm_iconst (2 : Int32) ii_la_law_322 (by decide) ?_
      refine sm_iadd ii_la_law_323 ?_
      refine sm_sald rfl ii_la_law_324 (fun x25 => ?_)
      refine sm_cvI [.int x24, .int x25] [.int x22] rfl ii_la_law_325 ml_la_26 (mf_mo_at) (mv_mo_at) (Nat.le_of_ble_eq_true rfl) rfl 7 rfl rfl rfl rfl (mc_mo_at (x24) (x25) w23) (fun x26 w27 => ?_)
      refine sm_icmp_eq 1379 ii_la_law_328 (by decide) ?_ ?_
      · refine sm_iinc (a3 + (6 : Int32)) [some (.ref 999), some (.ref 0), some (.ref 62), some (.int (a3 + (6 : Int32)))] ii_la_law_1379 rfl rfl rfl rfl ?_
        refine sm_goto 18 ii_la_law_1382 (by decide) ?_
        exact hself18 ((a3 + (6 : Int32))) w27
      · refine sm_iconst (0 : Int32) ii_la_law_331 (by decide) ?_
        exact sm_zret1 ii_la_law_332 rfl (by decide)
    · refine sm_aload_n ii_la_law_333 rfl ?_
      refine sm_aload_n ii_la_law_334 rfl ?_
      refine sm_iload_n ii_la_law_335 rfl ?_
      refine sm_iconst (1 : Int32) ii_la_law_336 (by decide) ?_
      refine sm_iadd ii_la_law_337 ?_
      refine sm_sald rfl ii_la_law_338 (fun x28 => ?_)
      refine sm_cvI [.int x28] [] rfl ii_la_law_339 ml_la_27 (mf_ho_tear) (mv_ho_tear) (Nat.le_of_ble_eq_true rfl) rfl 6 rfl rfl rfl rfl (mc_ho_tear (x28) w) (fun x29 w30 => ?_)
      refine sm_aload_n ii_la_law_342 rfl ?_
      refine sm_aload_n ii_la_law_343 rfl ?_
      refine sm_iload_n ii_la_law_344 rfl ?_
      refine sm_iconst (1 : Int32) ii_la_law_345 (by decide) ?_
      refine sm_iadd ii_la_law_346 ?_
      refine sm_sald rfl ii_la_law_347 (fun x31 => ?_)
      refine sm_cvI [.int x31] [.int x29] rfl ii_la_law_348 ml_la_31 (mf_mo_tear) (mv_mo_tear) (Nat.le_of_ble_eq_true rfl) rfl 7 rfl rfl rfl rfl (mc_mo_tear (x31) w30) (fun x32 w33 => ?_)
      refine sm_icmp_eq 1379 ii_la_law_351 (by decide) ?_ ?_
      · refine sm_iinc (a3 + (6 : Int32)) [some (.ref 999), some (.ref 0), some (.ref 62), some (.int (a3 + (6 : Int32)))] ii_la_law_1379 rfl rfl rfl rfl ?_
        refine sm_goto 18 ii_la_law_1382 (by decide) ?_
        exact hself18 ((a3 + (6 : Int32))) w33
      · refine sm_iconst (0 : Int32) ii_la_law_354 (by decide) ?_
        exact sm_zret1 ii_la_law_355 rfl (by decide)
    · refine sm_aload_n ii_la_law_356 rfl ?_
      refine sm_aload_n ii_la_law_357 rfl ?_
      refine sm_iload_n ii_la_law_358 rfl ?_
      refine sm_iconst (1 : Int32) ii_la_law_359 (by decide) ?_
      refine sm_iadd ii_la_law_360 ?_
      refine sm_sald rfl ii_la_law_361 (fun x34 => ?_)
      refine sm_aload_n ii_la_law_362 rfl ?_
      refine sm_iload_n ii_la_law_363 rfl ?_
      refine sm_iconst (2 : Int32) ii_la_law_364 (by decide) ?_
      refine sm_iadd ii_la_law_365 ?_
      refine sm_sald rfl ii_la_law_366 (fun x35 => ?_)
      refine sm_aload_n ii_la_law_367 rfl ?_
      refine sm_iload_n ii_la_law_368 rfl ?_
      refine sm_iconst (3 : Int32) ii_la_law_369 (by decide) ?_
      refine sm_iadd ii_la_law_370 ?_
      refine sm_sald rfl ii_la_law_371 (fun x36 => ?_)
      refine sm_aload_n ii_la_law_372 rfl ?_
      refine sm_iload_n ii_la_law_373 rfl ?_
      refine sm_iconst (4 : Int32) ii_la_law_374 (by decide) ?_
      refine sm_iadd ii_la_law_375 ?_
      refine sm_sald rfl ii_la_law_376 (fun x37 => ?_)
      refine sm_aload_n ii_la_law_377 rfl ?_
      refine sm_iload_n ii_la_law_378 rfl ?_
      refine sm_iconst (5 : Int32) ii_la_law_379 (by decide) ?_
      refine sm_iadd ii_la_law_380 ?_
      refine sm_sald rfl ii_la_law_381 (fun x38 => ?_)
      refine sm_cvI [.int x34, .int x35, .int x36, .int x37, .int x38] [] rfl ii_la_law_382 ml_la_32 (mf_ho_copy) (mv_ho_copy) (Nat.le_of_ble_eq_true rfl) rfl 6 rfl rfl rfl rfl (mc_ho_copy (x34) (x35) (x36) (x37) (x38) w) (fun x39 w40 => ?_)
      refine sm_aload_n ii_la_law_385 rfl ?_
      refine sm_aload_n ii_la_law_386 rfl ?_
      refine sm_iload_n ii_la_law_387 rfl ?_
      refine sm_iconst (1 : Int32) ii_la_law_388 (by decide) ?_
      refine sm_iadd ii_la_law_389 ?_
      refine sm_sald rfl ii_la_law_390 (fun x41 => ?_)
      refine sm_aload_n ii_la_law_391 rfl ?_
      refine sm_iload_n ii_la_law_392 rfl ?_
      refine sm_iconst (2 : Int32) ii_la_law_393 (by decide) ?_
      refine sm_iadd ii_la_law_394 ?_
      refine sm_sald rfl ii_la_law_395 (fun x42 => ?_)
      refine sm_aload_n ii_la_law_396 rfl ?_
      refine sm_iload_n ii_la_law_397 rfl ?_
      refine sm_iconst (3 : Int32) ii_la_law_398 (by decide) ?_
      refine sm_iadd ii_la_law_399 ?_
      refine sm_sald rfl ii_la_law_400 (fun x43 => ?_)
      refine sm_aload_n ii_la_law_401 rfl ?_
      refine sm_iload_n ii_la_law_402 rfl ?_
      refine sm_iconst (4 : Int32) ii_la_law_403 (by decide) ?_
      refine sm_iadd ii_la_law_404 ?_
      refine sm_sald rfl ii_la_law_405 (fun x44 => ?_)
      refine sm_aload_n ii_la_law_406 rfl ?_
      refine sm_iload_n ii_la_law_407 rfl ?_
      refine sm_iconst (5 : Int32) ii_la_law_408 (by decide) ?_
      refine sm_iadd ii_la_law_409 ?_
      refine sm_sald rfl ii_la_law_410 (fun x45 => ?_)
      refine sm_cvI [.int x41, .int x42, .int x43, .int x44, .int x45] [.int x39] rfl ii_la_law_411 ml_la_36 (mf_mo_copy) (mv_mo_copy) (Nat.le_of_ble_eq_true rfl) rfl 7 rfl rfl rfl rfl (mc_mo_copy (x41) (x42) (x43) (x44) (x45) w40) (fun x46 w47 => ?_)
      refine sm_icmp_eq 1379 ii_la_law_414 (by decide) ?_ ?_
      · refine sm_iinc (a3 + (6 : Int32)) [some (.ref 999), some (.ref 0), some (.ref 62), some (.int (a3 + (6 : Int32)))] ii_la_law_1379 rfl rfl rfl rfl ?_
        refine sm_goto 18 ii_la_law_1382 (by decide) ?_
        exact hself18 ((a3 + (6 : Int32))) w47
      · refine sm_iconst (0 : Int32) ii_la_law_417 (by decide) ?_
        exact sm_zret1 ii_la_law_418 rfl (by decide)
    · refine sm_aload_n ii_la_law_419 rfl ?_
      refine sm_aload_n ii_la_law_420 rfl ?_
      refine sm_iload_n ii_la_law_421 rfl ?_
      refine sm_iconst (1 : Int32) ii_la_law_422 (by decide) ?_
      refine sm_iadd ii_la_law_423 ?_
      refine sm_sald rfl ii_la_law_424 (fun x48 => ?_)
      refine sm_cvI [.int x48] [] rfl ii_la_law_425 ml_la_37 (mf_ho_mean) (mv_ho_mean) (Nat.le_of_ble_eq_true rfl) rfl 6 rfl rfl rfl rfl (mc_ho_mean (x48) w) (fun x49 w50 => ?_)
      refine sm_aload_n ii_la_law_428 rfl ?_
      refine sm_aload_n ii_la_law_429 rfl ?_
      refine sm_iload_n ii_la_law_430 rfl ?_
      refine sm_iconst (1 : Int32) ii_la_law_431 (by decide) ?_
      refine sm_iadd ii_la_law_432 ?_
      refine sm_sald rfl ii_la_law_433 (fun x51 => ?_)
      refine sm_cvI [.int x51] [.int x49] rfl ii_la_law_434 ml_la_40 (mf_mo_mean) (mv_mo_mean) (Nat.le_of_ble_eq_true rfl) rfl 7 rfl rfl rfl rfl (mc_mo_mean (x51) w50) (fun x52 w53 => ?_)
      refine sm_icmp_eq 1379 ii_la_law_437 (by decide) ?_ ?_
      · refine sm_iinc (a3 + (6 : Int32)) [some (.ref 999), some (.ref 0), some (.ref 62), some (.int (a3 + (6 : Int32)))] ii_la_law_1379 rfl rfl rfl rfl ?_
        refine sm_goto 18 ii_la_law_1382 (by decide) ?_
        exact hself18 ((a3 + (6 : Int32))) w53
      · refine sm_iconst (0 : Int32) ii_la_law_440 (by decide) ?_
        exact sm_zret1 ii_la_law_441 rfl (by decide)
    · refine sm_aload_n ii_la_law_442 rfl ?_
      refine sm_aload_n ii_la_law_443 rfl ?_
      refine sm_iload_n ii_la_law_444 rfl ?_
      refine sm_iconst (1 : Int32) ii_la_law_445 (by decide) ?_
      refine sm_iadd ii_la_law_446 ?_
      refine sm_sald rfl ii_la_law_447 (fun x54 => ?_)
      refine sm_aload_n ii_la_law_448 rfl ?_
      refine sm_iload_n ii_la_law_449 rfl ?_
      refine sm_iconst (2 : Int32) ii_la_law_450 (by decide) ?_
      refine sm_iadd ii_la_law_451 ?_
      refine sm_sald rfl ii_la_law_452 (fun x55 => ?_)
      refine sm_cvI [.int x54, .int x55] [] rfl ii_la_law_453 ml_la_41 (mf_ho_text) (mv_ho_text) (Nat.le_of_ble_eq_true rfl) rfl 6 rfl rfl rfl rfl (mc_ho_text (x54) (x55) w) (fun x56 w57 => ?_)
      refine sm_aload_n ii_la_law_456 rfl ?_
      refine sm_aload_n ii_la_law_457 rfl ?_
      refine sm_iload_n ii_la_law_458 rfl ?_
      refine sm_iconst (1 : Int32) ii_la_law_459 (by decide) ?_
      refine sm_iadd ii_la_law_460 ?_
      refine sm_sald rfl ii_la_law_461 (fun x58 => ?_)
      refine sm_aload_n ii_la_law_462 rfl ?_
      refine sm_iload_n ii_la_law_463 rfl ?_
      refine sm_iconst (2 : Int32) ii_la_law_464 (by decide) ?_
      refine sm_iadd ii_la_law_465 ?_
      refine sm_sald rfl ii_la_law_466 (fun x59 => ?_)
      refine sm_cvI [.int x58, .int x59] [.int x56] rfl ii_la_law_467 ml_la_44 (mf_mo_text) (mv_mo_text) (Nat.le_of_ble_eq_true rfl) rfl 7 rfl rfl rfl rfl (mc_mo_text (x58) (x59) w57) (fun x60 w61 => ?_)
      refine sm_icmp_eq 1379 ii_la_law_470 (by decide) ?_ ?_
      · refine sm_iinc (a3 + (6 : Int32)) [some (.ref 999), some (.ref 0), some (.ref 62), some (.int (a3 + (6 : Int32)))] ii_la_law_1379 rfl rfl rfl rfl ?_
        refine sm_goto 18 ii_la_law_1382 (by decide) ?_
        exact hself18 ((a3 + (6 : Int32))) w61
      · refine sm_iconst (0 : Int32) ii_la_law_473 (by decide) ?_
        exact sm_zret1 ii_la_law_474 rfl (by decide)
    · refine sm_aload_n ii_la_law_475 rfl ?_
      refine sm_aload_n ii_la_law_476 rfl ?_
      refine sm_iload_n ii_la_law_477 rfl ?_
      refine sm_iconst (1 : Int32) ii_la_law_478 (by decide) ?_
      refine sm_iadd ii_la_law_479 ?_
      refine sm_sald rfl ii_la_law_480 (fun x62 => ?_)
      refine sm_aload_n ii_la_law_481 rfl ?_
      refine sm_iload_n ii_la_law_482 rfl ?_
      refine sm_iconst (2 : Int32) ii_la_law_483 (by decide) ?_
      refine sm_iadd ii_la_law_484 ?_
      refine sm_sald rfl ii_la_law_485 (fun x63 => ?_)
      refine sm_aload_n ii_la_law_486 rfl ?_
      refine sm_iload_n ii_la_law_487 rfl ?_
      refine sm_iconst (3 : Int32) ii_la_law_488 (by decide) ?_
      refine sm_iadd ii_la_law_489 ?_
      refine sm_sald rfl ii_la_law_490 (fun x64 => ?_)
      refine sm_cvI [.int x62, .int x63, .int x64] [] rfl ii_la_law_491 ml_la_45 (mf_ho_put) (mv_ho_put) (Nat.le_of_ble_eq_true rfl) rfl 6 rfl rfl rfl rfl (mc_ho_put (x62) (x63) (x64) w) (fun x65 w66 => ?_)
      refine sm_aload_n ii_la_law_494 rfl ?_
      refine sm_aload_n ii_la_law_495 rfl ?_
      refine sm_iload_n ii_la_law_496 rfl ?_
      refine sm_iconst (1 : Int32) ii_la_law_497 (by decide) ?_
      refine sm_iadd ii_la_law_498 ?_
      refine sm_sald rfl ii_la_law_499 (fun x67 => ?_)
      refine sm_aload_n ii_la_law_500 rfl ?_
      refine sm_iload_n ii_la_law_501 rfl ?_
      refine sm_iconst (2 : Int32) ii_la_law_502 (by decide) ?_
      refine sm_iadd ii_la_law_503 ?_
      refine sm_sald rfl ii_la_law_504 (fun x68 => ?_)
      refine sm_aload_n ii_la_law_505 rfl ?_
      refine sm_iload_n ii_la_law_506 rfl ?_
      refine sm_iconst (3 : Int32) ii_la_law_507 (by decide) ?_
      refine sm_iadd ii_la_law_508 ?_
      refine sm_sald rfl ii_la_law_509 (fun x69 => ?_)
      refine sm_cvI [.int x67, .int x68, .int x69] [.int x65] rfl ii_la_law_510 ml_la_48 (mf_mo_put) (mv_mo_put) (Nat.le_of_ble_eq_true rfl) rfl 7 rfl rfl rfl rfl (mc_mo_put (x67) (x68) (x69) w66) (fun x70 w71 => ?_)
      refine sm_icmp_eq 1379 ii_la_law_513 (by decide) ?_ ?_
      · refine sm_iinc (a3 + (6 : Int32)) [some (.ref 999), some (.ref 0), some (.ref 62), some (.int (a3 + (6 : Int32)))] ii_la_law_1379 rfl rfl rfl rfl ?_
        refine sm_goto 18 ii_la_law_1382 (by decide) ?_
        exact hself18 ((a3 + (6 : Int32))) w71
      · refine sm_iconst (0 : Int32) ii_la_law_516 (by decide) ?_
        exact sm_zret1 ii_la_law_517 rfl (by decide)
    · refine sm_aload_n ii_la_law_518 rfl ?_
      refine sm_aload_n ii_la_law_519 rfl ?_
      refine sm_iload_n ii_la_law_520 rfl ?_
      refine sm_iconst (1 : Int32) ii_la_law_521 (by decide) ?_
      refine sm_iadd ii_la_law_522 ?_
      refine sm_sald rfl ii_la_law_523 (fun x72 => ?_)
      refine sm_cvI [.int x72] [] rfl ii_la_law_524 ml_la_49 (mf_ho_fault) (mv_ho_fault) (Nat.le_of_ble_eq_true rfl) rfl 6 rfl rfl rfl rfl (mc_ho_fault (x72) w) (fun x73 w74 => ?_)
      refine sm_aload_n ii_la_law_527 rfl ?_
      refine sm_aload_n ii_la_law_528 rfl ?_
      refine sm_iload_n ii_la_law_529 rfl ?_
      refine sm_iconst (1 : Int32) ii_la_law_530 (by decide) ?_
      refine sm_iadd ii_la_law_531 ?_
      refine sm_sald rfl ii_la_law_532 (fun x75 => ?_)
      refine sm_cvI [.int x75] [.int x73] rfl ii_la_law_533 ml_la_52 (mf_mo_fault) (mv_mo_fault) (Nat.le_of_ble_eq_true rfl) rfl 7 rfl rfl rfl rfl (mc_mo_fault (x75) w74) (fun x76 w77 => ?_)
      refine sm_icmp_eq 1379 ii_la_law_536 (by decide) ?_ ?_
      · refine sm_iinc (a3 + (6 : Int32)) [some (.ref 999), some (.ref 0), some (.ref 62), some (.int (a3 + (6 : Int32)))] ii_la_law_1379 rfl rfl rfl rfl ?_
        refine sm_goto 18 ii_la_law_1382 (by decide) ?_
        exact hself18 ((a3 + (6 : Int32))) w77
      · refine sm_iconst (0 : Int32) ii_la_law_539 (by decide) ?_
        exact sm_zret1 ii_la_law_540 rfl (by decide)
    · refine sm_aload_n ii_la_law_541 rfl ?_
      refine sm_aload_n ii_la_law_542 rfl ?_
      refine sm_iload_n ii_la_law_543 rfl ?_
      refine sm_iconst (1 : Int32) ii_la_law_544 (by decide) ?_
      refine sm_iadd ii_la_law_545 ?_
      refine sm_sald rfl ii_la_law_546 (fun x78 => ?_)
      refine sm_cvI [.int x78] [] rfl ii_la_law_547 ml_la_53 (mf_ho_house) (mv_ho_house) (Nat.le_of_ble_eq_true rfl) rfl 6 rfl rfl rfl rfl (mc_ho_house (x78) w) (fun x79 w80 => ?_)
      refine sm_aload_n ii_la_law_550 rfl ?_
      refine sm_aload_n ii_la_law_551 rfl ?_
      refine sm_iload_n ii_la_law_552 rfl ?_
      refine sm_iconst (1 : Int32) ii_la_law_553 (by decide) ?_
      refine sm_iadd ii_la_law_554 ?_
      refine sm_sald rfl ii_la_law_555 (fun x81 => ?_)
      refine sm_cvI [.int x81] [.int x79] rfl ii_la_law_556 ml_la_56 (mf_mo_house) (mv_mo_house) (Nat.le_of_ble_eq_true rfl) rfl 7 rfl rfl rfl rfl (mc_mo_house (x81) w80) (fun x82 w83 => ?_)
      refine sm_icmp_eq 1379 ii_la_law_559 (by decide) ?_ ?_
      · refine sm_iinc (a3 + (6 : Int32)) [some (.ref 999), some (.ref 0), some (.ref 62), some (.int (a3 + (6 : Int32)))] ii_la_law_1379 rfl rfl rfl rfl ?_
        refine sm_goto 18 ii_la_law_1382 (by decide) ?_
        exact hself18 ((a3 + (6 : Int32))) w83
      · refine sm_iconst (0 : Int32) ii_la_law_562 (by decide) ?_
        exact sm_zret1 ii_la_law_563 rfl (by decide)
    · refine sm_aload_n ii_la_law_564 rfl ?_
      refine sm_aload_n ii_la_law_565 rfl ?_
      refine sm_iload_n ii_la_law_566 rfl ?_
      refine sm_iconst (1 : Int32) ii_la_law_567 (by decide) ?_
      refine sm_iadd ii_la_law_568 ?_
      refine sm_sald rfl ii_la_law_569 (fun x84 => ?_)
      refine sm_aload_n ii_la_law_570 rfl ?_
      refine sm_iload_n ii_la_law_571 rfl ?_
      refine sm_iconst (2 : Int32) ii_la_law_572 (by decide) ?_
      refine sm_iadd ii_la_law_573 ?_
      refine sm_sald rfl ii_la_law_574 (fun x85 => ?_)
      refine sm_cvI [.int x84, .int x85] [] rfl ii_la_law_575 ml_la_57 (mf_ho_speaker) (mv_ho_speaker) (Nat.le_of_ble_eq_true rfl) rfl 6 rfl rfl rfl rfl (mc_ho_speaker (x84) (x85) w) (fun x86 w87 => ?_)
      refine sm_aload_n ii_la_law_578 rfl ?_
      refine sm_aload_n ii_la_law_579 rfl ?_
      refine sm_iload_n ii_la_law_580 rfl ?_
      refine sm_iconst (1 : Int32) ii_la_law_581 (by decide) ?_
      refine sm_iadd ii_la_law_582 ?_
      refine sm_sald rfl ii_la_law_583 (fun x88 => ?_)
      refine sm_aload_n ii_la_law_584 rfl ?_
      refine sm_iload_n ii_la_law_585 rfl ?_
      refine sm_iconst (2 : Int32) ii_la_law_586 (by decide) ?_
      refine sm_iadd ii_la_law_587 ?_
      refine sm_sald rfl ii_la_law_588 (fun x89 => ?_)
      refine sm_cvI [.int x88, .int x89] [.int x86] rfl ii_la_law_589 ml_la_60 (mf_mo_speaker) (mv_mo_speaker) (Nat.le_of_ble_eq_true rfl) rfl 7 rfl rfl rfl rfl (mc_mo_speaker (x88) (x89) w87) (fun x90 w91 => ?_)
      refine sm_icmp_eq 1379 ii_la_law_592 (by decide) ?_ ?_
      · refine sm_iinc (a3 + (6 : Int32)) [some (.ref 999), some (.ref 0), some (.ref 62), some (.int (a3 + (6 : Int32)))] ii_la_law_1379 rfl rfl rfl rfl ?_
        refine sm_goto 18 ii_la_law_1382 (by decide) ?_
        exact hself18 ((a3 + (6 : Int32))) w91
      · refine sm_iconst (0 : Int32) ii_la_law_595 (by decide) ?_
        exact sm_zret1 ii_la_law_596 rfl (by decide)
    · refine sm_aload_n ii_la_law_597 rfl ?_
      refine sm_aload_n ii_la_law_598 rfl ?_
      refine sm_iload_n ii_la_law_599 rfl ?_
      refine sm_iconst (1 : Int32) ii_la_law_600 (by decide) ?_
      refine sm_iadd ii_la_law_601 ?_
      refine sm_sald rfl ii_la_law_602 (fun x92 => ?_)
      refine sm_aload_n ii_la_law_603 rfl ?_
      refine sm_iload_n ii_la_law_604 rfl ?_
      refine sm_iconst (2 : Int32) ii_la_law_605 (by decide) ?_
      refine sm_iadd ii_la_law_606 ?_
      refine sm_sald rfl ii_la_law_607 (fun x93 => ?_)
      refine sm_cvI [.int x92, .int x93] [] rfl ii_la_law_608 ml_la_61 (mf_ho_mark) (mv_ho_mark) (Nat.le_of_ble_eq_true rfl) rfl 6 rfl rfl rfl rfl (mc_ho_mark (x92) (x93) w) (fun x94 w95 => ?_)
      refine sm_aload_n ii_la_law_611 rfl ?_
      refine sm_aload_n ii_la_law_612 rfl ?_
      refine sm_iload_n ii_la_law_613 rfl ?_
      refine sm_iconst (1 : Int32) ii_la_law_614 (by decide) ?_
      refine sm_iadd ii_la_law_615 ?_
      refine sm_sald rfl ii_la_law_616 (fun x96 => ?_)
      refine sm_aload_n ii_la_law_617 rfl ?_
      refine sm_iload_n ii_la_law_618 rfl ?_
      refine sm_iconst (2 : Int32) ii_la_law_619 (by decide) ?_
      refine sm_iadd ii_la_law_620 ?_
      refine sm_sald rfl ii_la_law_621 (fun x97 => ?_)
      refine sm_cvI [.int x96, .int x97] [.int x94] rfl ii_la_law_622 ml_la_64 (mf_mo_mark) (mv_mo_mark) (Nat.le_of_ble_eq_true rfl) rfl 7 rfl rfl rfl rfl (mc_mo_mark (x96) (x97) w95) (fun x98 w99 => ?_)
      refine sm_icmp_eq 1379 ii_la_law_625 (by decide) ?_ ?_
      · refine sm_iinc (a3 + (6 : Int32)) [some (.ref 999), some (.ref 0), some (.ref 62), some (.int (a3 + (6 : Int32)))] ii_la_law_1379 rfl rfl rfl rfl ?_
        refine sm_goto 18 ii_la_law_1382 (by decide) ?_
        exact hself18 ((a3 + (6 : Int32))) w99
      · refine sm_iconst (0 : Int32) ii_la_law_628 (by decide) ?_
        exact sm_zret1 ii_la_law_629 rfl (by decide)
    · refine sm_aload_n ii_la_law_630 rfl ?_
      refine sm_aload_n ii_la_law_631 rfl ?_
      refine sm_iload_n ii_la_law_632 rfl ?_
      refine sm_iconst (1 : Int32) ii_la_law_633 (by decide) ?_
      refine sm_iadd ii_la_law_634 ?_
      refine sm_sald rfl ii_la_law_635 (fun x100 => ?_)
      refine sm_aload_n ii_la_law_636 rfl ?_
      refine sm_iload_n ii_la_law_637 rfl ?_
      refine sm_iconst (2 : Int32) ii_la_law_638 (by decide) ?_
      refine sm_iadd ii_la_law_639 ?_
      refine sm_sald rfl ii_la_law_640 (fun x101 => ?_)
      refine sm_cvI [.int x100, .int x101] [] rfl ii_la_law_641 ml_la_65 (mf_ho_say) (mv_ho_say) (Nat.le_of_ble_eq_true rfl) rfl 6 rfl rfl rfl rfl (mc_ho_say (x100) (x101) w) (fun x102 w103 => ?_)
      refine sm_aload_n ii_la_law_644 rfl ?_
      refine sm_aload_n ii_la_law_645 rfl ?_
      refine sm_iload_n ii_la_law_646 rfl ?_
      refine sm_iconst (1 : Int32) ii_la_law_647 (by decide) ?_
      refine sm_iadd ii_la_law_648 ?_
      refine sm_sald rfl ii_la_law_649 (fun x104 => ?_)
      refine sm_aload_n ii_la_law_650 rfl ?_
      refine sm_iload_n ii_la_law_651 rfl ?_
      refine sm_iconst (2 : Int32) ii_la_law_652 (by decide) ?_
      refine sm_iadd ii_la_law_653 ?_
      refine sm_sald rfl ii_la_law_654 (fun x105 => ?_)
      refine sm_cvI [.int x104, .int x105] [.int x102] rfl ii_la_law_655 ml_la_68 (mf_mo_say) (mv_mo_say) (Nat.le_of_ble_eq_true rfl) rfl 7 rfl rfl rfl rfl (mc_mo_say (x104) (x105) w103) (fun x106 w107 => ?_)
      refine sm_icmp_eq 1379 ii_la_law_658 (by decide) ?_ ?_
      · refine sm_iinc (a3 + (6 : Int32)) [some (.ref 999), some (.ref 0), some (.ref 62), some (.int (a3 + (6 : Int32)))] ii_la_law_1379 rfl rfl rfl rfl ?_
        refine sm_goto 18 ii_la_law_1382 (by decide) ?_
        exact hself18 ((a3 + (6 : Int32))) w107
      · refine sm_iconst (0 : Int32) ii_la_law_661 (by decide) ?_
        exact sm_zret1 ii_la_law_662 rfl (by decide)
    · refine sm_aload_n ii_la_law_663 rfl ?_
      refine sm_cvI [] [] rfl ii_la_law_664 ml_la_69 (mf_ho_end) (mv_ho_end) (Nat.le_of_ble_eq_true rfl) rfl 6 rfl rfl rfl rfl (mc_ho_end  w) (fun x108 w109 => ?_)
      refine sm_aload_n ii_la_law_667 rfl ?_
      refine sm_cvI [] [.int x108] rfl ii_la_law_668 ml_la_73 (mf_mo_end) (mv_mo_end) (Nat.le_of_ble_eq_true rfl) rfl 7 rfl rfl rfl rfl (mc_mo_end  w109) (fun x110 w111 => ?_)
      refine sm_icmp_eq 1379 ii_la_law_671 (by decide) ?_ ?_
      · refine sm_iinc (a3 + (6 : Int32)) [some (.ref 999), some (.ref 0), some (.ref 62), some (.int (a3 + (6 : Int32)))] ii_la_law_1379 rfl rfl rfl rfl ?_
        refine sm_goto 18 ii_la_law_1382 (by decide) ?_
        exact hself18 ((a3 + (6 : Int32))) w111
      · refine sm_iconst (0 : Int32) ii_la_law_674 (by decide) ?_
        exact sm_zret1 ii_la_law_675 rfl (by decide)
    · refine sm_aload_n ii_la_law_676 rfl ?_
      refine sm_cvI [] [] rfl ii_la_law_677 ml_la_74 (mf_ho_hour) (mv_ho_hour) (Nat.le_of_ble_eq_true rfl) rfl 6 rfl rfl rfl rfl (mc_ho_hour  w) (fun x112 w113 => ?_)
      refine sm_aload_n ii_la_law_680 rfl ?_
      refine sm_cvI [] [.int x112] rfl ii_la_law_681 ml_la_77 (mf_mo_hour) (mv_mo_hour) (Nat.le_of_ble_eq_true rfl) rfl 7 rfl rfl rfl rfl (mc_mo_hour  w113) (fun x114 w115 => ?_)
      refine sm_icmp_eq 1379 ii_la_law_684 (by decide) ?_ ?_
      · refine sm_iinc (a3 + (6 : Int32)) [some (.ref 999), some (.ref 0), some (.ref 62), some (.int (a3 + (6 : Int32)))] ii_la_law_1379 rfl rfl rfl rfl ?_
        refine sm_goto 18 ii_la_law_1382 (by decide) ?_
        exact hself18 ((a3 + (6 : Int32))) w115
      · refine sm_iconst (0 : Int32) ii_la_law_687 (by decide) ?_
        exact sm_zret1 ii_la_law_688 rfl (by decide)
    · refine sm_aload_n ii_la_law_689 rfl ?_
      refine sm_aload_n ii_la_law_690 rfl ?_
      refine sm_iload_n ii_la_law_691 rfl ?_
      refine sm_iconst (1 : Int32) ii_la_law_692 (by decide) ?_
      refine sm_iadd ii_la_law_693 ?_
      refine sm_sald rfl ii_la_law_694 (fun x116 => ?_)
      refine sm_aload_n ii_la_law_695 rfl ?_
      refine sm_iload_n ii_la_law_696 rfl ?_
      refine sm_iconst (2 : Int32) ii_la_law_697 (by decide) ?_
      refine sm_iadd ii_la_law_698 ?_
      refine sm_sald rfl ii_la_law_699 (fun x117 => ?_)
      refine sm_cvI [.int x116, .int x117] [] rfl ii_la_law_700 ml_la_78 (mf_ho_walk) (mv_ho_walk) (Nat.le_of_ble_eq_true rfl) rfl 6 rfl rfl rfl rfl (mc_ho_walk (x116) (x117) w) (fun x118 w119 => ?_)
      refine sm_aload_n ii_la_law_703 rfl ?_
      refine sm_aload_n ii_la_law_704 rfl ?_
      refine sm_iload_n ii_la_law_705 rfl ?_
      refine sm_iconst (1 : Int32) ii_la_law_706 (by decide) ?_
      refine sm_iadd ii_la_law_707 ?_
      refine sm_sald rfl ii_la_law_708 (fun x120 => ?_)
      refine sm_aload_n ii_la_law_709 rfl ?_
      refine sm_iload_n ii_la_law_710 rfl ?_
      refine sm_iconst (2 : Int32) ii_la_law_711 (by decide) ?_
      refine sm_iadd ii_la_law_712 ?_
      refine sm_sald rfl ii_la_law_713 (fun x121 => ?_)
      refine sm_cvI [.int x120, .int x121] [.int x118] rfl ii_la_law_714 ml_la_81 (mf_mo_walk) (mv_mo_walk) (Nat.le_of_ble_eq_true rfl) rfl 7 rfl rfl rfl rfl (mc_mo_walk (x120) (x121) w119) (fun x122 w123 => ?_)
      refine sm_icmp_eq 1379 ii_la_law_717 (by decide) ?_ ?_
      · refine sm_iinc (a3 + (6 : Int32)) [some (.ref 999), some (.ref 0), some (.ref 62), some (.int (a3 + (6 : Int32)))] ii_la_law_1379 rfl rfl rfl rfl ?_
        refine sm_goto 18 ii_la_law_1382 (by decide) ?_
        exact hself18 ((a3 + (6 : Int32))) w123
      · refine sm_iconst (0 : Int32) ii_la_law_720 (by decide) ?_
        exact sm_zret1 ii_la_law_721 rfl (by decide)
    · refine sm_aload_n ii_la_law_722 rfl ?_
      refine sm_aload_n ii_la_law_723 rfl ?_
      refine sm_iload_n ii_la_law_724 rfl ?_
      refine sm_iconst (1 : Int32) ii_la_law_725 (by decide) ?_
      refine sm_iadd ii_la_law_726 ?_
      refine sm_sald rfl ii_la_law_727 (fun x124 => ?_)
      refine sm_cvI [.int x124] [] rfl ii_la_law_728 ml_la_82 (mf_ho_undo) (mv_ho_undo) (Nat.le_of_ble_eq_true rfl) rfl 6 rfl rfl rfl rfl (mc_ho_undo (x124) w) (fun x125 w126 => ?_)
      refine sm_aload_n ii_la_law_731 rfl ?_
      refine sm_aload_n ii_la_law_732 rfl ?_
      refine sm_iload_n ii_la_law_733 rfl ?_
      refine sm_iconst (1 : Int32) ii_la_law_734 (by decide) ?_
      refine sm_iadd ii_la_law_735 ?_
      refine sm_sald rfl ii_la_law_736 (fun x127 => ?_)
      refine sm_cvI [.int x127] [.int x125] rfl ii_la_law_737 ml_la_85 (mf_mo_undo) (mv_mo_undo) (Nat.le_of_ble_eq_true rfl) rfl 7 rfl rfl rfl rfl (mc_mo_undo (x127) w126) (fun x128 w129 => ?_)
      refine sm_icmp_eq 1379 ii_la_law_740 (by decide) ?_ ?_
      · refine sm_iinc (a3 + (6 : Int32)) [some (.ref 999), some (.ref 0), some (.ref 62), some (.int (a3 + (6 : Int32)))] ii_la_law_1379 rfl rfl rfl rfl ?_
        refine sm_goto 18 ii_la_law_1382 (by decide) ?_
        exact hself18 ((a3 + (6 : Int32))) w129
      · refine sm_iconst (0 : Int32) ii_la_law_743 (by decide) ?_
        exact sm_zret1 ii_la_law_744 rfl (by decide)
    · refine sm_aload_n ii_la_law_745 rfl ?_
      refine sm_aload_n ii_la_law_746 rfl ?_
      refine sm_iload_n ii_la_law_747 rfl ?_
      refine sm_iconst (1 : Int32) ii_la_law_748 (by decide) ?_
      refine sm_iadd ii_la_law_749 ?_
      refine sm_sald rfl ii_la_law_750 (fun x130 => ?_)
      refine sm_cvI [.int x130] [] rfl ii_la_law_751 ml_la_86 (mf_ho_keep) (mv_ho_keep) (Nat.le_of_ble_eq_true rfl) rfl 6 rfl rfl rfl rfl (mc_ho_keep (x130) w) (fun x131 w132 => ?_)
      refine sm_aload_n ii_la_law_754 rfl ?_
      refine sm_aload_n ii_la_law_755 rfl ?_
      refine sm_iload_n ii_la_law_756 rfl ?_
      refine sm_iconst (1 : Int32) ii_la_law_757 (by decide) ?_
      refine sm_iadd ii_la_law_758 ?_
      refine sm_sald rfl ii_la_law_759 (fun x133 => ?_)
      refine sm_cvI [.int x133] [.int x131] rfl ii_la_law_760 ml_la_89 (mf_mo_keep) (mv_mo_keep) (Nat.le_of_ble_eq_true rfl) rfl 7 rfl rfl rfl rfl (mc_mo_keep (x133) w132) (fun x134 w135 => ?_)
      refine sm_icmp_eq 1379 ii_la_law_763 (by decide) ?_ ?_
      · refine sm_iinc (a3 + (6 : Int32)) [some (.ref 999), some (.ref 0), some (.ref 62), some (.int (a3 + (6 : Int32)))] ii_la_law_1379 rfl rfl rfl rfl ?_
        refine sm_goto 18 ii_la_law_1382 (by decide) ?_
        exact hself18 ((a3 + (6 : Int32))) w135
      · refine sm_iconst (0 : Int32) ii_la_law_766 (by decide) ?_
        exact sm_zret1 ii_la_law_767 rfl (by decide)
    · refine sm_aload_n ii_la_law_768 rfl ?_
      refine sm_aload_n ii_la_law_769 rfl ?_
      refine sm_iload_n ii_la_law_770 rfl ?_
      refine sm_iconst (1 : Int32) ii_la_law_771 (by decide) ?_
      refine sm_iadd ii_la_law_772 ?_
      refine sm_sald rfl ii_la_law_773 (fun x136 => ?_)
      refine sm_cvI [.int x136] [] rfl ii_la_law_774 ml_la_90 (mf_ho_on) (mv_ho_on) (Nat.le_of_ble_eq_true rfl) rfl 6 rfl rfl rfl rfl (mc_ho_on (x136) w) (fun x137 w138 => ?_)
      refine sm_aload_n ii_la_law_777 rfl ?_
      refine sm_aload_n ii_la_law_778 rfl ?_
      refine sm_iload_n ii_la_law_779 rfl ?_
      refine sm_iconst (1 : Int32) ii_la_law_780 (by decide) ?_
      refine sm_iadd ii_la_law_781 ?_
      refine sm_sald rfl ii_la_law_782 (fun x139 => ?_)
      refine sm_cvI [.int x139] [.int x137] rfl ii_la_law_783 ml_la_93 (mf_mo_on) (mv_mo_on) (Nat.le_of_ble_eq_true rfl) rfl 7 rfl rfl rfl rfl (mc_mo_on (x139) w138) (fun x140 w141 => ?_)
      refine sm_icmp_eq 1379 ii_la_law_786 (by decide) ?_ ?_
      · refine sm_iinc (a3 + (6 : Int32)) [some (.ref 999), some (.ref 0), some (.ref 62), some (.int (a3 + (6 : Int32)))] ii_la_law_1379 rfl rfl rfl rfl ?_
        refine sm_goto 18 ii_la_law_1382 (by decide) ?_
        exact hself18 ((a3 + (6 : Int32))) w141
      · refine sm_iconst (0 : Int32) ii_la_law_789 (by decide) ?_
        exact sm_zret1 ii_la_law_790 rfl (by decide)
    · refine sm_aload_n ii_la_law_791 rfl ?_
      refine sm_aload_n ii_la_law_792 rfl ?_
      refine sm_iload_n ii_la_law_793 rfl ?_
      refine sm_iconst (1 : Int32) ii_la_law_794 (by decide) ?_
      refine sm_iadd ii_la_law_795 ?_
      refine sm_sald rfl ii_la_law_796 (fun x142 => ?_)
      refine sm_cvI [.int x142] [] rfl ii_la_law_797 ml_la_94 (mf_ho_who) (mv_ho_who) (Nat.le_of_ble_eq_true rfl) rfl 6 rfl rfl rfl rfl (mc_ho_who (x142) w) (fun x143 w144 => ?_)
      refine sm_aload_n ii_la_law_800 rfl ?_
      refine sm_aload_n ii_la_law_801 rfl ?_
      refine sm_iload_n ii_la_law_802 rfl ?_
      refine sm_iconst (1 : Int32) ii_la_law_803 (by decide) ?_
      refine sm_iadd ii_la_law_804 ?_
      refine sm_sald rfl ii_la_law_805 (fun x145 => ?_)
      refine sm_cvI [.int x145] [.int x143] rfl ii_la_law_806 ml_la_97 (mf_mo_who) (mv_mo_who) (Nat.le_of_ble_eq_true rfl) rfl 7 rfl rfl rfl rfl (mc_mo_who (x145) w144) (fun x146 w147 => ?_)
      refine sm_icmp_eq 1379 ii_la_law_809 (by decide) ?_ ?_
      · refine sm_iinc (a3 + (6 : Int32)) [some (.ref 999), some (.ref 0), some (.ref 62), some (.int (a3 + (6 : Int32)))] ii_la_law_1379 rfl rfl rfl rfl ?_
        refine sm_goto 18 ii_la_law_1382 (by decide) ?_
        exact hself18 ((a3 + (6 : Int32))) w147
      · refine sm_iconst (0 : Int32) ii_la_law_812 (by decide) ?_
        exact sm_zret1 ii_la_law_813 rfl (by decide)
    · refine sm_aload_n ii_la_law_814 rfl ?_
      refine sm_aload_n ii_la_law_815 rfl ?_
      refine sm_iload_n ii_la_law_816 rfl ?_
      refine sm_iconst (1 : Int32) ii_la_law_817 (by decide) ?_
      refine sm_iadd ii_la_law_818 ?_
      refine sm_sald rfl ii_la_law_819 (fun x148 => ?_)
      refine sm_cvI [.int x148] [] rfl ii_la_law_820 ml_la_98 (mf_ho_what) (mv_ho_what) (Nat.le_of_ble_eq_true rfl) rfl 6 rfl rfl rfl rfl (mc_ho_what (x148) w) (fun x149 w150 => ?_)
      refine sm_aload_n ii_la_law_823 rfl ?_
      refine sm_aload_n ii_la_law_824 rfl ?_
      refine sm_iload_n ii_la_law_825 rfl ?_
      refine sm_iconst (1 : Int32) ii_la_law_826 (by decide) ?_
      refine sm_iadd ii_la_law_827 ?_
      refine sm_sald rfl ii_la_law_828 (fun x151 => ?_)
      refine sm_cvI [.int x151] [.int x149] rfl ii_la_law_829 ml_la_101 (mf_mo_what) (mv_mo_what) (Nat.le_of_ble_eq_true rfl) rfl 7 rfl rfl rfl rfl (mc_mo_what (x151) w150) (fun x152 w153 => ?_)
      refine sm_icmp_eq 1379 ii_la_law_832 (by decide) ?_ ?_
      · refine sm_iinc (a3 + (6 : Int32)) [some (.ref 999), some (.ref 0), some (.ref 62), some (.int (a3 + (6 : Int32)))] ii_la_law_1379 rfl rfl rfl rfl ?_
        refine sm_goto 18 ii_la_law_1382 (by decide) ?_
        exact hself18 ((a3 + (6 : Int32))) w153
      · refine sm_iconst (0 : Int32) ii_la_law_835 (by decide) ?_
        exact sm_zret1 ii_la_law_836 rfl (by decide)
    · refine sm_aload_n ii_la_law_837 rfl ?_
      refine sm_aload_n ii_la_law_838 rfl ?_
      refine sm_iload_n ii_la_law_839 rfl ?_
      refine sm_iconst (1 : Int32) ii_la_law_840 (by decide) ?_
      refine sm_iadd ii_la_law_841 ?_
      refine sm_sald rfl ii_la_law_842 (fun x154 => ?_)
      refine sm_cvI [.int x154] [] rfl ii_la_law_843 ml_la_102 (mf_ho_said) (mv_ho_said) (Nat.le_of_ble_eq_true rfl) rfl 6 rfl rfl rfl rfl (mc_ho_said (x154) w) (fun x155 w156 => ?_)
      refine sm_aload_n ii_la_law_846 rfl ?_
      refine sm_aload_n ii_la_law_847 rfl ?_
      refine sm_iload_n ii_la_law_848 rfl ?_
      refine sm_iconst (1 : Int32) ii_la_law_849 (by decide) ?_
      refine sm_iadd ii_la_law_850 ?_
      refine sm_sald rfl ii_la_law_851 (fun x157 => ?_)
      refine sm_cvI [.int x157] [.int x155] rfl ii_la_law_852 ml_la_105 (mf_mo_said) (mv_mo_said) (Nat.le_of_ble_eq_true rfl) rfl 7 rfl rfl rfl rfl (mc_mo_said (x157) w156) (fun x158 w159 => ?_)
      refine sm_icmp_eq 1379 ii_la_law_855 (by decide) ?_ ?_
      · refine sm_iinc (a3 + (6 : Int32)) [some (.ref 999), some (.ref 0), some (.ref 62), some (.int (a3 + (6 : Int32)))] ii_la_law_1379 rfl rfl rfl rfl ?_
        refine sm_goto 18 ii_la_law_1382 (by decide) ?_
        exact hself18 ((a3 + (6 : Int32))) w159
      · refine sm_iconst (0 : Int32) ii_la_law_858 (by decide) ?_
        exact sm_zret1 ii_la_law_859 rfl (by decide)
    · refine sm_aload_n ii_la_law_860 rfl ?_
      refine sm_aload_n ii_la_law_861 rfl ?_
      refine sm_iload_n ii_la_law_862 rfl ?_
      refine sm_iconst (1 : Int32) ii_la_law_863 (by decide) ?_
      refine sm_iadd ii_la_law_864 ?_
      refine sm_sald rfl ii_la_law_865 (fun x160 => ?_)
      refine sm_cvI [.int x160] [] rfl ii_la_law_866 ml_la_106 (mf_ho_ways) (mv_ho_ways) (Nat.le_of_ble_eq_true rfl) rfl 6 rfl rfl rfl rfl (mc_ho_ways (x160) w) (fun x161 w162 => ?_)
      refine sm_aload_n ii_la_law_869 rfl ?_
      refine sm_aload_n ii_la_law_870 rfl ?_
      refine sm_iload_n ii_la_law_871 rfl ?_
      refine sm_iconst (1 : Int32) ii_la_law_872 (by decide) ?_
      refine sm_iadd ii_la_law_873 ?_
      refine sm_sald rfl ii_la_law_874 (fun x163 => ?_)
      refine sm_cvI [.int x163] [.int x161] rfl ii_la_law_875 ml_la_109 (mf_mo_ways) (mv_mo_ways) (Nat.le_of_ble_eq_true rfl) rfl 7 rfl rfl rfl rfl (mc_mo_ways (x163) w162) (fun x164 w165 => ?_)
      refine sm_icmp_eq 1379 ii_la_law_878 (by decide) ?_ ?_
      · refine sm_iinc (a3 + (6 : Int32)) [some (.ref 999), some (.ref 0), some (.ref 62), some (.int (a3 + (6 : Int32)))] ii_la_law_1379 rfl rfl rfl rfl ?_
        refine sm_goto 18 ii_la_law_1382 (by decide) ?_
        exact hself18 ((a3 + (6 : Int32))) w165
      · refine sm_iconst (0 : Int32) ii_la_law_881 (by decide) ?_
        exact sm_zret1 ii_la_law_882 rfl (by decide)
    · refine sm_aload_n ii_la_law_883 rfl ?_
      refine sm_aload_n ii_la_law_884 rfl ?_
      refine sm_iload_n ii_la_law_885 rfl ?_
      refine sm_iconst (1 : Int32) ii_la_law_886 (by decide) ?_
      refine sm_iadd ii_la_law_887 ?_
      refine sm_sald rfl ii_la_law_888 (fun x166 => ?_)
      refine sm_aload_n ii_la_law_889 rfl ?_
      refine sm_iload_n ii_la_law_890 rfl ?_
      refine sm_iconst (2 : Int32) ii_la_law_891 (by decide) ?_
      refine sm_iadd ii_la_law_892 ?_
      refine sm_sald rfl ii_la_law_893 (fun x167 => ?_)
      refine sm_cvI [.int x166, .int x167] [] rfl ii_la_law_894 ml_la_110 (mf_ho_few) (mv_ho_few) (Nat.le_of_ble_eq_true rfl) rfl 6 rfl rfl rfl rfl (mc_ho_few (x166) (x167) w) (fun x168 w169 => ?_)
      refine sm_aload_n ii_la_law_897 rfl ?_
      refine sm_aload_n ii_la_law_898 rfl ?_
      refine sm_iload_n ii_la_law_899 rfl ?_
      refine sm_iconst (1 : Int32) ii_la_law_900 (by decide) ?_
      refine sm_iadd ii_la_law_901 ?_
      refine sm_sald rfl ii_la_law_902 (fun x170 => ?_)
      refine sm_aload_n ii_la_law_903 rfl ?_
      refine sm_iload_n ii_la_law_904 rfl ?_
      refine sm_iconst (2 : Int32) ii_la_law_905 (by decide) ?_
      refine sm_iadd ii_la_law_906 ?_
      refine sm_sald rfl ii_la_law_907 (fun x171 => ?_)
      refine sm_cvI [.int x170, .int x171] [.int x168] rfl ii_la_law_908 ml_la_113 (mf_mo_few) (mv_mo_few) (Nat.le_of_ble_eq_true rfl) rfl 7 rfl rfl rfl rfl (mc_mo_few (x170) (x171) w169) (fun x172 w173 => ?_)
      refine sm_icmp_eq 1379 ii_la_law_911 (by decide) ?_ ?_
      · refine sm_iinc (a3 + (6 : Int32)) [some (.ref 999), some (.ref 0), some (.ref 62), some (.int (a3 + (6 : Int32)))] ii_la_law_1379 rfl rfl rfl rfl ?_
        refine sm_goto 18 ii_la_law_1382 (by decide) ?_
        exact hself18 ((a3 + (6 : Int32))) w173
      · refine sm_iconst (0 : Int32) ii_la_law_914 (by decide) ?_
        exact sm_zret1 ii_la_law_915 rfl (by decide)
    · refine sm_aload_n ii_la_law_916 rfl ?_
      refine sm_aload_n ii_la_law_917 rfl ?_
      refine sm_iload_n ii_la_law_918 rfl ?_
      refine sm_iconst (1 : Int32) ii_la_law_919 (by decide) ?_
      refine sm_iadd ii_la_law_920 ?_
      refine sm_sald rfl ii_la_law_921 (fun x174 => ?_)
      refine sm_cvI [.int x174] [] rfl ii_la_law_922 ml_la_114 (mf_ho_far) (mv_ho_far) (Nat.le_of_ble_eq_true rfl) rfl 6 rfl rfl rfl rfl (mc_ho_far (x174) w) (fun x175 w176 => ?_)
      refine sm_aload_n ii_la_law_925 rfl ?_
      refine sm_aload_n ii_la_law_926 rfl ?_
      refine sm_iload_n ii_la_law_927 rfl ?_
      refine sm_iconst (1 : Int32) ii_la_law_928 (by decide) ?_
      refine sm_iadd ii_la_law_929 ?_
      refine sm_sald rfl ii_la_law_930 (fun x177 => ?_)
      refine sm_cvI [.int x177] [.int x175] rfl ii_la_law_931 ml_la_117 (mf_mo_far) (mv_mo_far) (Nat.le_of_ble_eq_true rfl) rfl 7 rfl rfl rfl rfl (mc_mo_far (x177) w176) (fun x178 w179 => ?_)
      refine sm_icmp_eq 1379 ii_la_law_934 (by decide) ?_ ?_
      · refine sm_iinc (a3 + (6 : Int32)) [some (.ref 999), some (.ref 0), some (.ref 62), some (.int (a3 + (6 : Int32)))] ii_la_law_1379 rfl rfl rfl rfl ?_
        refine sm_goto 18 ii_la_law_1382 (by decide) ?_
        exact hself18 ((a3 + (6 : Int32))) w179
      · refine sm_iconst (0 : Int32) ii_la_law_937 (by decide) ?_
        exact sm_zret1 ii_la_law_938 rfl (by decide)
    · refine sm_aload_n ii_la_law_939 rfl ?_
      refine sm_cvI [] [] rfl ii_la_law_940 ml_la_118 (mf_ho_dumb) (mv_ho_dumb) (Nat.le_of_ble_eq_true rfl) rfl 6 rfl rfl rfl rfl (mc_ho_dumb  w) (fun x180 w181 => ?_)
      refine sm_aload_n ii_la_law_943 rfl ?_
      refine sm_cvI [] [.int x180] rfl ii_la_law_944 ml_la_121 (mf_mo_dumb) (mv_mo_dumb) (Nat.le_of_ble_eq_true rfl) rfl 7 rfl rfl rfl rfl (mc_mo_dumb  w181) (fun x182 w183 => ?_)
      refine sm_icmp_eq 1379 ii_la_law_947 (by decide) ?_ ?_
      · refine sm_iinc (a3 + (6 : Int32)) [some (.ref 999), some (.ref 0), some (.ref 62), some (.int (a3 + (6 : Int32)))] ii_la_law_1379 rfl rfl rfl rfl ?_
        refine sm_goto 18 ii_la_law_1382 (by decide) ?_
        exact hself18 ((a3 + (6 : Int32))) w183
      · refine sm_iconst (0 : Int32) ii_la_law_950 (by decide) ?_
        exact sm_zret1 ii_la_law_951 rfl (by decide)
    · refine sm_aload_n ii_la_law_952 rfl ?_
      refine sm_aload_n ii_la_law_953 rfl ?_
      refine sm_iload_n ii_la_law_954 rfl ?_
      refine sm_iconst (1 : Int32) ii_la_law_955 (by decide) ?_
      refine sm_iadd ii_la_law_956 ?_
      refine sm_sald rfl ii_la_law_957 (fun x184 => ?_)
      refine sm_cvI [.int x184] [] rfl ii_la_law_958 ml_la_122 (mf_ho_longest) (mv_ho_longest) (Nat.le_of_ble_eq_true rfl) rfl 6 rfl rfl rfl rfl (mc_ho_longest (x184) w) (fun x185 w186 => ?_)
      refine sm_aload_n ii_la_law_961 rfl ?_
      refine sm_aload_n ii_la_law_962 rfl ?_
      refine sm_iload_n ii_la_law_963 rfl ?_
      refine sm_iconst (1 : Int32) ii_la_law_964 (by decide) ?_
      refine sm_iadd ii_la_law_965 ?_
      refine sm_sald rfl ii_la_law_966 (fun x187 => ?_)
      refine sm_cvI [.int x187] [.int x185] rfl ii_la_law_967 ml_la_125 (mf_mo_longest) (mv_mo_longest) (Nat.le_of_ble_eq_true rfl) rfl 7 rfl rfl rfl rfl (mc_mo_longest (x187) w186) (fun x188 w189 => ?_)
      refine sm_icmp_eq 1379 ii_la_law_970 (by decide) ?_ ?_
      · refine sm_iinc (a3 + (6 : Int32)) [some (.ref 999), some (.ref 0), some (.ref 62), some (.int (a3 + (6 : Int32)))] ii_la_law_1379 rfl rfl rfl rfl ?_
        refine sm_goto 18 ii_la_law_1382 (by decide) ?_
        exact hself18 ((a3 + (6 : Int32))) w189
      · refine sm_iconst (0 : Int32) ii_la_law_973 (by decide) ?_
        exact sm_zret1 ii_la_law_974 rfl (by decide)
    · refine sm_aload_n ii_la_law_975 rfl ?_
      refine sm_aload_n ii_la_law_976 rfl ?_
      refine sm_iload_n ii_la_law_977 rfl ?_
      refine sm_iconst (1 : Int32) ii_la_law_978 (by decide) ?_
      refine sm_iadd ii_la_law_979 ?_
      refine sm_sald rfl ii_la_law_980 (fun x190 => ?_)
      refine sm_cvI [.int x190] [] rfl ii_la_law_981 ml_la_126 (mf_ho_heard) (mv_ho_heard) (Nat.le_of_ble_eq_true rfl) rfl 6 rfl rfl rfl rfl (mc_ho_heard (x190) w) (fun x191 w192 => ?_)
      refine sm_aload_n ii_la_law_984 rfl ?_
      refine sm_aload_n ii_la_law_985 rfl ?_
      refine sm_iload_n ii_la_law_986 rfl ?_
      refine sm_iconst (1 : Int32) ii_la_law_987 (by decide) ?_
      refine sm_iadd ii_la_law_988 ?_
      refine sm_sald rfl ii_la_law_989 (fun x193 => ?_)
      refine sm_cvI [.int x193] [.int x191] rfl ii_la_law_990 ml_la_129 (mf_mo_heard) (mv_mo_heard) (Nat.le_of_ble_eq_true rfl) rfl 7 rfl rfl rfl rfl (mc_mo_heard (x193) w192) (fun x194 w195 => ?_)
      refine sm_icmp_eq 1379 ii_la_law_993 (by decide) ?_ ?_
      · refine sm_iinc (a3 + (6 : Int32)) [some (.ref 999), some (.ref 0), some (.ref 62), some (.int (a3 + (6 : Int32)))] ii_la_law_1379 rfl rfl rfl rfl ?_
        refine sm_goto 18 ii_la_law_1382 (by decide) ?_
        exact hself18 ((a3 + (6 : Int32))) w195
      · refine sm_iconst (0 : Int32) ii_la_law_996 (by decide) ?_
        exact sm_zret1 ii_la_law_997 rfl (by decide)
    · refine sm_aload_n ii_la_law_998 rfl ?_
      refine sm_aload_n ii_la_law_999 rfl ?_
      refine sm_iload_n ii_la_law_1000 rfl ?_
      refine sm_iconst (1 : Int32) ii_la_law_1001 (by decide) ?_
      refine sm_iadd ii_la_law_1002 ?_
      refine sm_sald rfl ii_la_law_1003 (fun x196 => ?_)
      refine sm_cvI [.int x196] [] rfl ii_la_law_1004 ml_la_130 (mf_ho_sure) (mv_ho_sure) (Nat.le_of_ble_eq_true rfl) rfl 6 rfl rfl rfl rfl (mc_ho_sure (x196) w) (fun x197 w198 => ?_)
      refine sm_aload_n ii_la_law_1007 rfl ?_
      refine sm_aload_n ii_la_law_1008 rfl ?_
      refine sm_iload_n ii_la_law_1009 rfl ?_
      refine sm_iconst (1 : Int32) ii_la_law_1010 (by decide) ?_
      refine sm_iadd ii_la_law_1011 ?_
      refine sm_sald rfl ii_la_law_1012 (fun x199 => ?_)
      refine sm_cvI [.int x199] [.int x197] rfl ii_la_law_1013 ml_la_133 (mf_mo_sure) (mv_mo_sure) (Nat.le_of_ble_eq_true rfl) rfl 7 rfl rfl rfl rfl (mc_mo_sure (x199) w198) (fun x200 w201 => ?_)
      refine sm_icmp_eq 1379 ii_la_law_1016 (by decide) ?_ ?_
      · refine sm_iinc (a3 + (6 : Int32)) [some (.ref 999), some (.ref 0), some (.ref 62), some (.int (a3 + (6 : Int32)))] ii_la_law_1379 rfl rfl rfl rfl ?_
        refine sm_goto 18 ii_la_law_1382 (by decide) ?_
        exact hself18 ((a3 + (6 : Int32))) w201
      · refine sm_iconst (0 : Int32) ii_la_law_1019 (by decide) ?_
        exact sm_zret1 ii_la_law_1020 rfl (by decide)
    · refine sm_aload_n ii_la_law_1021 rfl ?_
      refine sm_aload_n ii_la_law_1022 rfl ?_
      refine sm_iload_n ii_la_law_1023 rfl ?_
      refine sm_iconst (1 : Int32) ii_la_law_1024 (by decide) ?_
      refine sm_iadd ii_la_law_1025 ?_
      refine sm_sald rfl ii_la_law_1026 (fun x202 => ?_)
      refine sm_aload_n ii_la_law_1027 rfl ?_
      refine sm_iload_n ii_la_law_1028 rfl ?_
      refine sm_iconst (2 : Int32) ii_la_law_1029 (by decide) ?_
      refine sm_iadd ii_la_law_1030 ?_
      refine sm_sald rfl ii_la_law_1031 (fun x203 => ?_)
      refine sm_cvI [.int x202, .int x203] [] rfl ii_la_law_1032 ml_la_134 (mf_ho_kinds) (mv_ho_kinds) (Nat.le_of_ble_eq_true rfl) rfl 6 rfl rfl rfl rfl (mc_ho_kinds (x202) (x203) w) (fun x204 w205 => ?_)
      refine sm_aload_n ii_la_law_1035 rfl ?_
      refine sm_aload_n ii_la_law_1036 rfl ?_
      refine sm_iload_n ii_la_law_1037 rfl ?_
      refine sm_iconst (1 : Int32) ii_la_law_1038 (by decide) ?_
      refine sm_iadd ii_la_law_1039 ?_
      refine sm_sald rfl ii_la_law_1040 (fun x206 => ?_)
      refine sm_aload_n ii_la_law_1041 rfl ?_
      refine sm_iload_n ii_la_law_1042 rfl ?_
      refine sm_iconst (2 : Int32) ii_la_law_1043 (by decide) ?_
      refine sm_iadd ii_la_law_1044 ?_
      refine sm_sald rfl ii_la_law_1045 (fun x207 => ?_)
      refine sm_cvI [.int x206, .int x207] [.int x204] rfl ii_la_law_1046 ml_la_137 (mf_mo_kinds) (mv_mo_kinds) (Nat.le_of_ble_eq_true rfl) rfl 7 rfl rfl rfl rfl (mc_mo_kinds (x206) (x207) w205) (fun x208 w209 => ?_)
      refine sm_icmp_eq 1379 ii_la_law_1049 (by decide) ?_ ?_
      · refine sm_iinc (a3 + (6 : Int32)) [some (.ref 999), some (.ref 0), some (.ref 62), some (.int (a3 + (6 : Int32)))] ii_la_law_1379 rfl rfl rfl rfl ?_
        refine sm_goto 18 ii_la_law_1382 (by decide) ?_
        exact hself18 ((a3 + (6 : Int32))) w209
      · refine sm_iconst (0 : Int32) ii_la_law_1052 (by decide) ?_
        exact sm_zret1 ii_la_law_1053 rfl (by decide)
    · refine sm_aload_n ii_la_law_1054 rfl ?_
      refine sm_aload_n ii_la_law_1055 rfl ?_
      refine sm_iload_n ii_la_law_1056 rfl ?_
      refine sm_iconst (1 : Int32) ii_la_law_1057 (by decide) ?_
      refine sm_iadd ii_la_law_1058 ?_
      refine sm_sald rfl ii_la_law_1059 (fun x210 => ?_)
      refine sm_aload_n ii_la_law_1060 rfl ?_
      refine sm_iload_n ii_la_law_1061 rfl ?_
      refine sm_iconst (2 : Int32) ii_la_law_1062 (by decide) ?_
      refine sm_iadd ii_la_law_1063 ?_
      refine sm_sald rfl ii_la_law_1064 (fun x211 => ?_)
      refine sm_cvI [.int x210, .int x211] [] rfl ii_la_law_1065 ml_la_138 (mf_ho_test) (mv_ho_test) (Nat.le_of_ble_eq_true rfl) rfl 6 rfl rfl rfl rfl (mc_ho_test (x210) (x211) w) (fun x212 w213 => ?_)
      refine sm_aload_n ii_la_law_1068 rfl ?_
      refine sm_aload_n ii_la_law_1069 rfl ?_
      refine sm_iload_n ii_la_law_1070 rfl ?_
      refine sm_iconst (1 : Int32) ii_la_law_1071 (by decide) ?_
      refine sm_iadd ii_la_law_1072 ?_
      refine sm_sald rfl ii_la_law_1073 (fun x214 => ?_)
      refine sm_aload_n ii_la_law_1074 rfl ?_
      refine sm_iload_n ii_la_law_1075 rfl ?_
      refine sm_iconst (2 : Int32) ii_la_law_1076 (by decide) ?_
      refine sm_iadd ii_la_law_1077 ?_
      refine sm_sald rfl ii_la_law_1078 (fun x215 => ?_)
      refine sm_cvI [.int x214, .int x215] [.int x212] rfl ii_la_law_1079 ml_la_141 (mf_mo_test) (mv_mo_test) (Nat.le_of_ble_eq_true rfl) rfl 7 rfl rfl rfl rfl (mc_mo_test (x214) (x215) w213) (fun x216 w217 => ?_)
      refine sm_icmp_eq 1379 ii_la_law_1082 (by decide) ?_ ?_
      · refine sm_iinc (a3 + (6 : Int32)) [some (.ref 999), some (.ref 0), some (.ref 62), some (.int (a3 + (6 : Int32)))] ii_la_law_1379 rfl rfl rfl rfl ?_
        refine sm_goto 18 ii_la_law_1382 (by decide) ?_
        exact hself18 ((a3 + (6 : Int32))) w217
      · refine sm_iconst (0 : Int32) ii_la_law_1085 (by decide) ?_
        exact sm_zret1 ii_la_law_1086 rfl (by decide)
    · refine sm_aload_n ii_la_law_1087 rfl ?_
      refine sm_aload_n ii_la_law_1088 rfl ?_
      refine sm_iload_n ii_la_law_1089 rfl ?_
      refine sm_iconst (1 : Int32) ii_la_law_1090 (by decide) ?_
      refine sm_iadd ii_la_law_1091 ?_
      refine sm_sald rfl ii_la_law_1092 (fun x218 => ?_)
      refine sm_aload_n ii_la_law_1093 rfl ?_
      refine sm_iload_n ii_la_law_1094 rfl ?_
      refine sm_iconst (2 : Int32) ii_la_law_1095 (by decide) ?_
      refine sm_iadd ii_la_law_1096 ?_
      refine sm_sald rfl ii_la_law_1097 (fun x219 => ?_)
      refine sm_cvI [.int x218, .int x219] [] rfl ii_la_law_1098 ml_la_142 (mf_ho_fourth) (mv_ho_fourth) (Nat.le_of_ble_eq_true rfl) rfl 6 rfl rfl rfl rfl (mc_ho_fourth (x218) (x219) w) (fun x220 w221 => ?_)
      refine sm_aload_n ii_la_law_1101 rfl ?_
      refine sm_aload_n ii_la_law_1102 rfl ?_
      refine sm_iload_n ii_la_law_1103 rfl ?_
      refine sm_iconst (1 : Int32) ii_la_law_1104 (by decide) ?_
      refine sm_iadd ii_la_law_1105 ?_
      refine sm_sald rfl ii_la_law_1106 (fun x222 => ?_)
      refine sm_aload_n ii_la_law_1107 rfl ?_
      refine sm_iload_n ii_la_law_1108 rfl ?_
      refine sm_iconst (2 : Int32) ii_la_law_1109 (by decide) ?_
      refine sm_iadd ii_la_law_1110 ?_
      refine sm_sald rfl ii_la_law_1111 (fun x223 => ?_)
      refine sm_cvI [.int x222, .int x223] [.int x220] rfl ii_la_law_1112 ml_la_145 (mf_mo_fourth) (mv_mo_fourth) (Nat.le_of_ble_eq_true rfl) rfl 7 rfl rfl rfl rfl (mc_mo_fourth (x222) (x223) w221) (fun x224 w225 => ?_)
      refine sm_icmp_eq 1379 ii_la_law_1115 (by decide) ?_ ?_
      · refine sm_iinc (a3 + (6 : Int32)) [some (.ref 999), some (.ref 0), some (.ref 62), some (.int (a3 + (6 : Int32)))] ii_la_law_1379 rfl rfl rfl rfl ?_
        refine sm_goto 18 ii_la_law_1382 (by decide) ?_
        exact hself18 ((a3 + (6 : Int32))) w225
      · refine sm_iconst (0 : Int32) ii_la_law_1118 (by decide) ?_
        exact sm_zret1 ii_la_law_1119 rfl (by decide)
    · refine sm_aload_n ii_la_law_1120 rfl ?_
      refine sm_aload_n ii_la_law_1121 rfl ?_
      refine sm_iload_n ii_la_law_1122 rfl ?_
      refine sm_iconst (1 : Int32) ii_la_law_1123 (by decide) ?_
      refine sm_iadd ii_la_law_1124 ?_
      refine sm_sald rfl ii_la_law_1125 (fun x226 => ?_)
      refine sm_cvI [.int x226] [] rfl ii_la_law_1126 ml_la_146 (mf_ho_off) (mv_ho_off) (Nat.le_of_ble_eq_true rfl) rfl 6 rfl rfl rfl rfl (mc_ho_off (x226) w) (fun x227 w228 => ?_)
      refine sm_aload_n ii_la_law_1129 rfl ?_
      refine sm_aload_n ii_la_law_1130 rfl ?_
      refine sm_iload_n ii_la_law_1131 rfl ?_
      refine sm_iconst (1 : Int32) ii_la_law_1132 (by decide) ?_
      refine sm_iadd ii_la_law_1133 ?_
      refine sm_sald rfl ii_la_law_1134 (fun x229 => ?_)
      refine sm_cvI [.int x229] [.int x227] rfl ii_la_law_1135 ml_la_149 (mf_mo_off) (mv_mo_off) (Nat.le_of_ble_eq_true rfl) rfl 7 rfl rfl rfl rfl (mc_mo_off (x229) w228) (fun x230 w231 => ?_)
      refine sm_icmp_eq 1379 ii_la_law_1138 (by decide) ?_ ?_
      · refine sm_iinc (a3 + (6 : Int32)) [some (.ref 999), some (.ref 0), some (.ref 62), some (.int (a3 + (6 : Int32)))] ii_la_law_1379 rfl rfl rfl rfl ?_
        refine sm_goto 18 ii_la_law_1382 (by decide) ?_
        exact hself18 ((a3 + (6 : Int32))) w231
      · refine sm_iconst (0 : Int32) ii_la_law_1141 (by decide) ?_
        exact sm_zret1 ii_la_law_1142 rfl (by decide)
    · refine sm_aload_n ii_la_law_1143 rfl ?_
      refine sm_aload_n ii_la_law_1144 rfl ?_
      refine sm_iload_n ii_la_law_1145 rfl ?_
      refine sm_iconst (1 : Int32) ii_la_law_1146 (by decide) ?_
      refine sm_iadd ii_la_law_1147 ?_
      refine sm_sald rfl ii_la_law_1148 (fun x232 => ?_)
      refine sm_cvI [.int x232] [] rfl ii_la_law_1149 ml_la_150 (mf_ho_struck) (mv_ho_struck) (Nat.le_of_ble_eq_true rfl) rfl 6 rfl rfl rfl rfl (mc_ho_struck (x232) w) (fun x233 w234 => ?_)
      refine sm_aload_n ii_la_law_1152 rfl ?_
      refine sm_aload_n ii_la_law_1153 rfl ?_
      refine sm_iload_n ii_la_law_1154 rfl ?_
      refine sm_iconst (1 : Int32) ii_la_law_1155 (by decide) ?_
      refine sm_iadd ii_la_law_1156 ?_
      refine sm_sald rfl ii_la_law_1157 (fun x235 => ?_)
      refine sm_cvI [.int x235] [.int x233] rfl ii_la_law_1158 ml_la_153 (mf_mo_struck) (mv_mo_struck) (Nat.le_of_ble_eq_true rfl) rfl 7 rfl rfl rfl rfl (mc_mo_struck (x235) w234) (fun x236 w237 => ?_)
      refine sm_icmp_eq 1379 ii_la_law_1161 (by decide) ?_ ?_
      · refine sm_iinc (a3 + (6 : Int32)) [some (.ref 999), some (.ref 0), some (.ref 62), some (.int (a3 + (6 : Int32)))] ii_la_law_1379 rfl rfl rfl rfl ?_
        refine sm_goto 18 ii_la_law_1382 (by decide) ?_
        exact hself18 ((a3 + (6 : Int32))) w237
      · refine sm_iconst (0 : Int32) ii_la_law_1164 (by decide) ?_
        exact sm_zret1 ii_la_law_1165 rfl (by decide)
    · refine sm_aload_n ii_la_law_1166 rfl ?_
      refine sm_aload_n ii_la_law_1167 rfl ?_
      refine sm_iload_n ii_la_law_1168 rfl ?_
      refine sm_iconst (1 : Int32) ii_la_law_1169 (by decide) ?_
      refine sm_iadd ii_la_law_1170 ?_
      refine sm_sald rfl ii_la_law_1171 (fun x238 => ?_)
      refine sm_aload_n ii_la_law_1172 rfl ?_
      refine sm_iload_n ii_la_law_1173 rfl ?_
      refine sm_iconst (2 : Int32) ii_la_law_1174 (by decide) ?_
      refine sm_iadd ii_la_law_1175 ?_
      refine sm_sald rfl ii_la_law_1176 (fun x239 => ?_)
      refine sm_cvI [.int x238, .int x239] [] rfl ii_la_law_1177 ml_la_154 (mf_ho_odds) (mv_ho_odds) (Nat.le_of_ble_eq_true rfl) rfl 6 rfl rfl rfl rfl (mc_ho_odds (x238) (x239) w) (fun x240 w241 => ?_)
      refine sm_aload_n ii_la_law_1180 rfl ?_
      refine sm_aload_n ii_la_law_1181 rfl ?_
      refine sm_iload_n ii_la_law_1182 rfl ?_
      refine sm_iconst (1 : Int32) ii_la_law_1183 (by decide) ?_
      refine sm_iadd ii_la_law_1184 ?_
      refine sm_sald rfl ii_la_law_1185 (fun x242 => ?_)
      refine sm_aload_n ii_la_law_1186 rfl ?_
      refine sm_iload_n ii_la_law_1187 rfl ?_
      refine sm_iconst (2 : Int32) ii_la_law_1188 (by decide) ?_
      refine sm_iadd ii_la_law_1189 ?_
      refine sm_sald rfl ii_la_law_1190 (fun x243 => ?_)
      refine sm_cvI [.int x242, .int x243] [.int x240] rfl ii_la_law_1191 ml_la_157 (mf_mo_odds) (mv_mo_odds) (Nat.le_of_ble_eq_true rfl) rfl 7 rfl rfl rfl rfl (mc_mo_odds (x242) (x243) w241) (fun x244 w245 => ?_)
      refine sm_icmp_eq 1379 ii_la_law_1194 (by decide) ?_ ?_
      · refine sm_iinc (a3 + (6 : Int32)) [some (.ref 999), some (.ref 0), some (.ref 62), some (.int (a3 + (6 : Int32)))] ii_la_law_1379 rfl rfl rfl rfl ?_
        refine sm_goto 18 ii_la_law_1382 (by decide) ?_
        exact hself18 ((a3 + (6 : Int32))) w245
      · refine sm_iconst (0 : Int32) ii_la_law_1197 (by decide) ?_
        exact sm_zret1 ii_la_law_1198 rfl (by decide)
    · refine sm_aload_n ii_la_law_1199 rfl ?_
      refine sm_aload_n ii_la_law_1200 rfl ?_
      refine sm_iload_n ii_la_law_1201 rfl ?_
      refine sm_iconst (1 : Int32) ii_la_law_1202 (by decide) ?_
      refine sm_iadd ii_la_law_1203 ?_
      refine sm_sald rfl ii_la_law_1204 (fun x246 => ?_)
      refine sm_aload_n ii_la_law_1205 rfl ?_
      refine sm_iload_n ii_la_law_1206 rfl ?_
      refine sm_iconst (2 : Int32) ii_la_law_1207 (by decide) ?_
      refine sm_iadd ii_la_law_1208 ?_
      refine sm_sald rfl ii_la_law_1209 (fun x247 => ?_)
      refine sm_cvI [.int x246, .int x247] [] rfl ii_la_law_1210 ml_la_158 (mf_ho_mid) (mv_ho_mid) (Nat.le_of_ble_eq_true rfl) rfl 6 rfl rfl rfl rfl (mc_ho_mid (x246) (x247) w) (fun x248 w249 => ?_)
      refine sm_aload_n ii_la_law_1213 rfl ?_
      refine sm_aload_n ii_la_law_1214 rfl ?_
      refine sm_iload_n ii_la_law_1215 rfl ?_
      refine sm_iconst (1 : Int32) ii_la_law_1216 (by decide) ?_
      refine sm_iadd ii_la_law_1217 ?_
      refine sm_sald rfl ii_la_law_1218 (fun x250 => ?_)
      refine sm_aload_n ii_la_law_1219 rfl ?_
      refine sm_iload_n ii_la_law_1220 rfl ?_
      refine sm_iconst (2 : Int32) ii_la_law_1221 (by decide) ?_
      refine sm_iadd ii_la_law_1222 ?_
      refine sm_sald rfl ii_la_law_1223 (fun x251 => ?_)
      refine sm_cvI [.int x250, .int x251] [.int x248] rfl ii_la_law_1224 ml_la_161 (mf_mo_mid) (mv_mo_mid) (Nat.le_of_ble_eq_true rfl) rfl 7 rfl rfl rfl rfl (mc_mo_mid (x250) (x251) w249) (fun x252 w253 => ?_)
      refine sm_icmp_eq 1379 ii_la_law_1227 (by decide) ?_ ?_
      · refine sm_iinc (a3 + (6 : Int32)) [some (.ref 999), some (.ref 0), some (.ref 62), some (.int (a3 + (6 : Int32)))] ii_la_law_1379 rfl rfl rfl rfl ?_
        refine sm_goto 18 ii_la_law_1382 (by decide) ?_
        exact hself18 ((a3 + (6 : Int32))) w253
      · refine sm_iconst (0 : Int32) ii_la_law_1230 (by decide) ?_
        exact sm_zret1 ii_la_law_1231 rfl (by decide)
    · refine sm_aload_n ii_la_law_1232 rfl ?_
      refine sm_aload_n ii_la_law_1233 rfl ?_
      refine sm_iload_n ii_la_law_1234 rfl ?_
      refine sm_iconst (1 : Int32) ii_la_law_1235 (by decide) ?_
      refine sm_iadd ii_la_law_1236 ?_
      refine sm_sald rfl ii_la_law_1237 (fun x254 => ?_)
      refine sm_aload_n ii_la_law_1238 rfl ?_
      refine sm_iload_n ii_la_law_1239 rfl ?_
      refine sm_iconst (2 : Int32) ii_la_law_1240 (by decide) ?_
      refine sm_iadd ii_la_law_1241 ?_
      refine sm_sald rfl ii_la_law_1242 (fun x255 => ?_)
      refine sm_cvI [.int x254, .int x255] [] rfl ii_la_law_1243 ml_la_162 (mf_ho_lots) (mv_ho_lots) (Nat.le_of_ble_eq_true rfl) rfl 6 rfl rfl rfl rfl (mc_ho_lots (x254) (x255) w) (fun x256 w257 => ?_)
      refine sm_aload_n ii_la_law_1246 rfl ?_
      refine sm_aload_n ii_la_law_1247 rfl ?_
      refine sm_iload_n ii_la_law_1248 rfl ?_
      refine sm_iconst (1 : Int32) ii_la_law_1249 (by decide) ?_
      refine sm_iadd ii_la_law_1250 ?_
      refine sm_sald rfl ii_la_law_1251 (fun x258 => ?_)
      refine sm_aload_n ii_la_law_1252 rfl ?_
      refine sm_iload_n ii_la_law_1253 rfl ?_
      refine sm_iconst (2 : Int32) ii_la_law_1254 (by decide) ?_
      refine sm_iadd ii_la_law_1255 ?_
      refine sm_sald rfl ii_la_law_1256 (fun x259 => ?_)
      refine sm_cvI [.int x258, .int x259] [.int x256] rfl ii_la_law_1257 ml_la_165 (mf_mo_lots) (mv_mo_lots) (Nat.le_of_ble_eq_true rfl) rfl 7 rfl rfl rfl rfl (mc_mo_lots (x258) (x259) w257) (fun x260 w261 => ?_)
      refine sm_icmp_eq 1379 ii_la_law_1260 (by decide) ?_ ?_
      · refine sm_iinc (a3 + (6 : Int32)) [some (.ref 999), some (.ref 0), some (.ref 62), some (.int (a3 + (6 : Int32)))] ii_la_law_1379 rfl rfl rfl rfl ?_
        refine sm_goto 18 ii_la_law_1382 (by decide) ?_
        exact hself18 ((a3 + (6 : Int32))) w261
      · refine sm_iconst (0 : Int32) ii_la_law_1263 (by decide) ?_
        exact sm_zret1 ii_la_law_1264 rfl (by decide)
    · refine sm_aload_n ii_la_law_1265 rfl ?_
      refine sm_cvI [] [] rfl ii_la_law_1266 ml_la_166 (mf_ho_asked) (mv_ho_asked) (Nat.le_of_ble_eq_true rfl) rfl 6 rfl rfl rfl rfl (mc_ho_asked  w) (fun x262 w263 => ?_)
      refine sm_aload_n ii_la_law_1269 rfl ?_
      refine sm_cvI [] [.int x262] rfl ii_la_law_1270 ml_la_169 (mf_mo_asked) (mv_mo_asked) (Nat.le_of_ble_eq_true rfl) rfl 7 rfl rfl rfl rfl (mc_mo_asked  w263) (fun x264 w265 => ?_)
      refine sm_icmp_eq 1379 ii_la_law_1273 (by decide) ?_ ?_
      · refine sm_iinc (a3 + (6 : Int32)) [some (.ref 999), some (.ref 0), some (.ref 62), some (.int (a3 + (6 : Int32)))] ii_la_law_1379 rfl rfl rfl rfl ?_
        refine sm_goto 18 ii_la_law_1382 (by decide) ?_
        exact hself18 ((a3 + (6 : Int32))) w265
      · refine sm_iconst (0 : Int32) ii_la_law_1276 (by decide) ?_
        exact sm_zret1 ii_la_law_1277 rfl (by decide)
    · refine sm_aload_n ii_la_law_1278 rfl ?_
      refine sm_cvL [] [] rfl ii_la_law_1279 ml_la_170 (mf_ho_upper) (mv_ho_upper) (Nat.le_of_ble_eq_true rfl) rfl 6 rfl rfl rfl rfl (mc_ho_upper  w) (fun x266 w267 => ?_)
      refine sm_aload_n ii_la_law_1282 rfl ?_
      refine sm_cvL [] [.long x266] rfl ii_la_law_1283 ml_la_174 (mf_mo_upper) (mv_mo_upper) (Nat.le_of_ble_eq_true rfl) rfl 7 rfl rfl rfl rfl (mc_mo_upper  w267) (fun x268 w269 => ?_)
      refine sm_lcmp ii_la_law_1286 ?_
      refine sm_if_eq 1379 ii_la_law_1287 (by decide) ?_ ?_
      · refine sm_iinc (a3 + (6 : Int32)) [some (.ref 999), some (.ref 0), some (.ref 62), some (.int (a3 + (6 : Int32)))] ii_la_law_1379 rfl rfl rfl rfl ?_
        refine sm_goto 18 ii_la_law_1382 (by decide) ?_
        exact hself18 ((a3 + (6 : Int32))) w269
      · refine sm_iconst (0 : Int32) ii_la_law_1290 (by decide) ?_
        exact sm_zret1 ii_la_law_1291 rfl (by decide)
    · refine sm_aload_n ii_la_law_1292 rfl ?_
      refine sm_cvL [] [] rfl ii_la_law_1293 ml_la_175 (mf_ho_lower) (mv_ho_lower) (Nat.le_of_ble_eq_true rfl) rfl 6 rfl rfl rfl rfl (mc_ho_lower  w) (fun x270 w271 => ?_)
      refine sm_aload_n ii_la_law_1296 rfl ?_
      refine sm_cvL [] [.long x270] rfl ii_la_law_1297 ml_la_178 (mf_mo_lower) (mv_mo_lower) (Nat.le_of_ble_eq_true rfl) rfl 7 rfl rfl rfl rfl (mc_mo_lower  w271) (fun x272 w273 => ?_)
      refine sm_lcmp ii_la_law_1300 ?_
      refine sm_if_eq 1379 ii_la_law_1301 (by decide) ?_ ?_
      · refine sm_iinc (a3 + (6 : Int32)) [some (.ref 999), some (.ref 0), some (.ref 62), some (.int (a3 + (6 : Int32)))] ii_la_law_1379 rfl rfl rfl rfl ?_
        refine sm_goto 18 ii_la_law_1382 (by decide) ?_
        exact hself18 ((a3 + (6 : Int32))) w273
      · refine sm_iconst (0 : Int32) ii_la_law_1304 (by decide) ?_
        exact sm_zret1 ii_la_law_1305 rfl (by decide)
    · refine sm_aload_n ii_la_law_1306 rfl ?_
      refine sm_aload_n ii_la_law_1307 rfl ?_
      refine sm_iload_n ii_la_law_1308 rfl ?_
      refine sm_iconst (1 : Int32) ii_la_law_1309 (by decide) ?_
      refine sm_iadd ii_la_law_1310 ?_
      refine sm_sald rfl ii_la_law_1311 (fun x274 => ?_)
      refine sm_cvI [.int x274] [] rfl ii_la_law_1312 ml_la_179 (mf_ho_count) (mv_ho_count) (Nat.le_of_ble_eq_true rfl) rfl 6 rfl rfl rfl rfl (mc_ho_count (x274) w) (fun x275 w276 => ?_)
      refine sm_aload_n ii_la_law_1315 rfl ?_
      refine sm_aload_n ii_la_law_1316 rfl ?_
      refine sm_iload_n ii_la_law_1317 rfl ?_
      refine sm_iconst (1 : Int32) ii_la_law_1318 (by decide) ?_
      refine sm_iadd ii_la_law_1319 ?_
      refine sm_sald rfl ii_la_law_1320 (fun x277 => ?_)
      refine sm_cvI [.int x277] [.int x275] rfl ii_la_law_1321 ml_la_182 (mf_mo_count) (mv_mo_count) (Nat.le_of_ble_eq_true rfl) rfl 7 rfl rfl rfl rfl (mc_mo_count (x277) w276) (fun x278 w279 => ?_)
      refine sm_icmp_eq 1379 ii_la_law_1324 (by decide) ?_ ?_
      · refine sm_iinc (a3 + (6 : Int32)) [some (.ref 999), some (.ref 0), some (.ref 62), some (.int (a3 + (6 : Int32)))] ii_la_law_1379 rfl rfl rfl rfl ?_
        refine sm_goto 18 ii_la_law_1382 (by decide) ?_
        exact hself18 ((a3 + (6 : Int32))) w279
      · refine sm_iconst (0 : Int32) ii_la_law_1327 (by decide) ?_
        exact sm_zret1 ii_la_law_1328 rfl (by decide)
    · refine sm_aload_n ii_la_law_1329 rfl ?_
      refine sm_cvI [] [] rfl ii_la_law_1330 ml_la_183 (mf_ho_finding) (mv_ho_finding) (Nat.le_of_ble_eq_true rfl) rfl 6 rfl rfl rfl rfl (mc_ho_finding  w) (fun x280 w281 => ?_)
      refine sm_aload_n ii_la_law_1333 rfl ?_
      refine sm_cvI [] [.int x280] rfl ii_la_law_1334 ml_la_186 (mf_mo_finding) (mv_mo_finding) (Nat.le_of_ble_eq_true rfl) rfl 7 rfl rfl rfl rfl (mc_mo_finding  w281) (fun x282 w283 => ?_)
      refine sm_icmp_eq 1379 ii_la_law_1337 (by decide) ?_ ?_
      · refine sm_iinc (a3 + (6 : Int32)) [some (.ref 999), some (.ref 0), some (.ref 62), some (.int (a3 + (6 : Int32)))] ii_la_law_1379 rfl rfl rfl rfl ?_
        refine sm_goto 18 ii_la_law_1382 (by decide) ?_
        exact hself18 ((a3 + (6 : Int32))) w283
      · refine sm_iconst (0 : Int32) ii_la_law_1340 (by decide) ?_
        exact sm_zret1 ii_la_law_1341 rfl (by decide)
    · refine sm_aload_n ii_la_law_1342 rfl ?_
      refine sm_aload_n ii_la_law_1343 rfl ?_
      refine sm_iload_n ii_la_law_1344 rfl ?_
      refine sm_iconst (1 : Int32) ii_la_law_1345 (by decide) ?_
      refine sm_iadd ii_la_law_1346 ?_
      refine sm_sald rfl ii_la_law_1347 (fun x284 => ?_)
      refine sm_cvI [.int x284] [] rfl ii_la_law_1348 ml_la_187 (mf_ho_findings) (mv_ho_findings) (Nat.le_of_ble_eq_true rfl) rfl 6 rfl rfl rfl rfl (mc_ho_findings (x284) w) (fun x285 w286 => ?_)
      refine sm_aload_n ii_la_law_1351 rfl ?_
      refine sm_aload_n ii_la_law_1352 rfl ?_
      refine sm_iload_n ii_la_law_1353 rfl ?_
      refine sm_iconst (1 : Int32) ii_la_law_1354 (by decide) ?_
      refine sm_iadd ii_la_law_1355 ?_
      refine sm_sald rfl ii_la_law_1356 (fun x287 => ?_)
      refine sm_cvI [.int x287] [.int x285] rfl ii_la_law_1357 ml_la_190 (mf_mo_findings) (mv_mo_findings) (Nat.le_of_ble_eq_true rfl) rfl 7 rfl rfl rfl rfl (mc_mo_findings (x287) w286) (fun x288 w289 => ?_)
      refine sm_icmp_eq 1379 ii_la_law_1360 (by decide) ?_ ?_
      · refine sm_iinc (a3 + (6 : Int32)) [some (.ref 999), some (.ref 0), some (.ref 62), some (.int (a3 + (6 : Int32)))] ii_la_law_1379 rfl rfl rfl rfl ?_
        refine sm_goto 18 ii_la_law_1382 (by decide) ?_
        exact hself18 ((a3 + (6 : Int32))) w289
      · refine sm_iconst (0 : Int32) ii_la_law_1363 (by decide) ?_
        exact sm_zret1 ii_la_law_1364 rfl (by decide)
    · refine sm_aload_n ii_la_law_1365 rfl ?_
      refine sm_cvL [] [] rfl ii_la_law_1366 ml_la_191 (mf_ho_digest) (mv_ho_digest) (Nat.le_of_ble_eq_true rfl) rfl 6 rfl rfl rfl rfl (mc_ho_digest  w) (fun x290 w291 => ?_)
      refine sm_aload_n ii_la_law_1369 rfl ?_
      refine sm_cvL [] [.long x290] rfl ii_la_law_1370 ml_la_194 (mf_mo_digest) (mv_mo_digest) (Nat.le_of_ble_eq_true rfl) rfl 7 rfl rfl rfl rfl (mc_mo_digest  w291) (fun x292 w293 => ?_)
      refine sm_lcmp ii_la_law_1373 ?_
      refine sm_if_eq 1379 ii_la_law_1374 (by decide) ?_ ?_
      · refine sm_iinc (a3 + (6 : Int32)) [some (.ref 999), some (.ref 0), some (.ref 62), some (.int (a3 + (6 : Int32)))] ii_la_law_1379 rfl rfl rfl rfl ?_
        refine sm_goto 18 ii_la_law_1382 (by decide) ?_
        exact hself18 ((a3 + (6 : Int32))) w293
      · refine sm_iconst (0 : Int32) ii_la_law_1377 (by decide) ?_
        exact sm_zret1 ii_la_law_1378 rfl (by decide)
    · refine sm_iinc (a3 + (6 : Int32)) [some (.ref 999), some (.ref 0), some (.ref 62), some (.int (a3 + (6 : Int32)))] ii_la_law_1379 rfl rfl rfl rfl ?_
      refine sm_goto 18 ii_la_law_1382 (by decide) ?_
      exact hself18 ((a3 + (6 : Int32))) w
set_option maxHeartbeats 4000000 in
set_option maxRecDepth 100000 in
theorem ss_la_law_18_f {E : Nat × (Nat → Int32)}  : ∀ (n : Nat) (a3 : Int32) (w : sm_Mem), sm_Sim E (mi_la_law) 18 [some (.ref 999), some (.ref 0), some (.ref 62), some (.int a3)] [] w (ff_la_law_18_f E  n a3 w)
  | 0, _, _ => fun _ _ h => by cases h
  | n + 1, a3, w => ss_la_law_18_b  _ (ss_la_law_18_f  n) a3 w
set_option maxHeartbeats 4000000 in
set_option maxRecDepth 100000 in
theorem ss_la_law_18 {E : Nat × (Nat → Int32)}  (a3 : Int32) (w : sm_Mem) : sm_Sim E (mi_la_law) 18 [some (.ref 999), some (.ref 0), some (.ref 62), some (.int a3)] [] w (ff_la_law_18 E  a3 w) := ss_la_law_18_f  sm_N a3 w
noncomputable def ff_la_law (E : Nat × (Nat → Int32))   (w : sm_Mem) : sm_R := ff_la_law_18 E ((0 : Int32)) w
set_option maxHeartbeats 4000000 in
set_option maxRecDepth 100000 in
theorem ss_la_law_16 {E : Nat × (Nat → Int32)}   (w : sm_Mem) : sm_Sim E (mi_la_law) 16 [some (.ref 999), some (.ref 0), some (.ref 62), none] [] w (ff_la_law E   w) := by
  unfold ff_la_law
  refine sm_iconst (0 : Int32) ii_la_law_16 (by decide) ?_
  refine sm_istore_n [some (.ref 999), some (.ref 0), some (.ref 62), some (.int (0 : Int32))] ii_la_law_17 rfl rfl ?_
  exact ss_la_law_18 ((0 : Int32)) w
