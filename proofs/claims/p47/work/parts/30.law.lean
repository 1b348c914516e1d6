/-! the law, behind its two constructors -/
set_option maxRecDepth 100000 in
theorem ml_la_85 : sm_ML "HerOrdersLaw" 85 ⟨"HerOrders", "digest", "()J"⟩ := Or.inl (List.mem_of_getElem? (i := 784) (by decide +kernel))
set_option maxRecDepth 100000 in
theorem ml_la_187 : sm_ML "HerOrdersLaw" 187 ⟨"HerOrders", "tear", "(I)I"⟩ := Or.inl (List.mem_of_getElem? (i := 366) (by decide +kernel))
set_option maxRecDepth 100000 in
theorem ml_la_177 : sm_ML "HerOrdersLaw" 177 ⟨"HerOrders", "mid", "(II)I"⟩ := Or.inl (List.mem_of_getElem? (i := 720) (by decide +kernel))
set_option maxRecDepth 100000 in
theorem ml_la_123 : sm_ML "HerOrdersLaw" 123 ⟨"HerOrders", "upper", "()J"⟩ := Or.inl (List.mem_of_getElem? (i := 746) (by decide +kernel))
set_option maxRecDepth 100000 in
theorem ml_la_174 : sm_ML "HerOrdersLaw" 174 ⟨"HerOrders", "lower", "()J"⟩ := Or.inl (List.mem_of_getElem? (i := 750) (by decide +kernel))
set_option maxRecDepth 100000 in
theorem ml_la_181 : sm_ML "HerOrdersLaw" 181 ⟨"HerOrders", "lots", "(II)I"⟩ := Or.inl (List.mem_of_getElem? (i := 728) (by decide +kernel))
set_option maxRecDepth 100000 in
theorem ml_la_96 : sm_ML "HerOrdersLaw" 96 ⟨"HerOrders", "count", "(I)I"⟩ := Or.inl (List.mem_of_getElem? (i := 754) (by decide +kernel))
set_option maxRecDepth 100000 in
theorem ml_la_111 : sm_ML "HerOrdersLaw" 111 ⟨"HerOrders", "undo", "(I)I"⟩ := Or.inl (List.mem_of_getElem? (i := 453) (by decide +kernel))
set_option maxRecDepth 100000 in
theorem ml_la_171 : sm_ML "HerOrdersLaw" 171 ⟨"HerOrders", "odds", "(II)I"⟩ := Or.inl (List.mem_of_getElem? (i := 698) (by decide +kernel))
set_option maxRecDepth 100000 in
theorem ml_la_168 : sm_ML "HerOrdersLaw" 168 ⟨"HerOrders", "struck", "(I)I"⟩ := Or.inl (List.mem_of_getElem? (i := 684) (by decide +kernel))
set_option maxRecDepth 100000 in
theorem ml_la_165 : sm_ML "HerOrdersLaw" 165 ⟨"HerOrders", "off", "(I)I"⟩ := Or.inl (List.mem_of_getElem? (i := 675) (by decide +kernel))
set_option maxRecDepth 100000 in
theorem ml_la_99 : sm_ML "HerOrdersLaw" 99 ⟨"HerOrders", "said", "(I)I"⟩ := Or.inl (List.mem_of_getElem? (i := 487) (by decide +kernel))
set_option maxRecDepth 100000 in
theorem ml_la_114 : sm_ML "HerOrdersLaw" 114 ⟨"HerOrders", "row", "(II)I"⟩ := Or.inl (List.mem_of_getElem? (i := 324) (by decide +kernel))
set_option maxRecDepth 100000 in
theorem ml_la_162 : sm_ML "HerOrdersLaw" 162 ⟨"HerOrders", "fourth", "(II)I"⟩ := Or.inl (List.mem_of_getElem? (i := 662) (by decide +kernel))
set_option maxRecDepth 100000 in
theorem ml_la_134 : sm_ML "HerOrdersLaw" 134 ⟨"HerOrdersLaw", "bits", "(I)I"⟩ := Or.inl (List.mem_of_getElem? (i := 835) (by decide +kernel))
set_option maxRecDepth 100000 in
theorem ml_la_156 : sm_ML "HerOrdersLaw" 156 ⟨"HerOrders", "kinds", "(II)I"⟩ := Or.inl (List.mem_of_getElem? (i := 632) (by decide +kernel))
set_option maxRecDepth 100000 in
theorem ml_la_159 : sm_ML "HerOrdersLaw" 159 ⟨"HerOrders", "test", "(II)I"⟩ := Or.inl (List.mem_of_getElem? (i := 653) (by decide +kernel))
set_option maxRecDepth 100000 in
theorem ml_la_102 : sm_ML "HerOrdersLaw" 102 ⟨"HerOrdersLaw", "told", "(LHerOrders;II)I"⟩ := Or.inl (List.mem_of_getElem? (i := 864) (by decide +kernel))
set_option maxRecDepth 100000 in
theorem ml_la_106 : sm_ML "HerOrdersLaw" 106 ⟨"HerOrders", "what", "(I)I"⟩ := Or.inl (List.mem_of_getElem? (i := 478) (by decide +kernel))
set_option maxRecDepth 100000 in
theorem ml_la_137 : sm_ML "HerOrdersLaw" 137 ⟨"HerOrders", "at", "(II)I"⟩ := Or.inl (List.mem_of_getElem? (i := 362) (by decide +kernel))
set_option maxRecDepth 100000 in
theorem ml_la_153 : sm_ML "HerOrdersLaw" 153 ⟨"HerOrders", "sure", "(I)I"⟩ := Or.inl (List.mem_of_getElem? (i := 624) (by decide +kernel))
set_option maxRecDepth 100000 in
theorem ml_la_120 : sm_ML "HerOrdersLaw" 120 ⟨"HerOrders", "ways", "(I)I"⟩ := Or.inl (List.mem_of_getElem? (i := 491) (by decide +kernel))
set_option maxRecDepth 100000 in
theorem ml_la_150 : sm_ML "HerOrdersLaw" 150 ⟨"HerOrders", "heard", "(I)I"⟩ := Or.inl (List.mem_of_getElem? (i := 608) (by decide +kernel))
set_option maxRecDepth 100000 in
theorem ml_la_147 : sm_ML "HerOrdersLaw" 147 ⟨"HerOrders", "longest", "(I)I"⟩ := Or.inl (List.mem_of_getElem? (i := 586) (by decide +kernel))
set_option maxRecDepth 100000 in
theorem ml_la_140 : sm_ML "HerOrdersLaw" 140 ⟨"HerOrdersLaw", "laid", "(LHerOrders;[II)Z"⟩ := Or.inl (List.mem_of_getElem? (i := 872) (by decide +kernel))
set_option maxRecDepth 100000 in
theorem ml_la_144 : sm_ML "HerOrdersLaw" 144 ⟨"HerOrders", "dumb", "()I"⟩ := Or.inl (List.mem_of_getElem? (i := 571) (by decide +kernel))
set_option maxRecDepth 100000 in
theorem ml_la_128 : sm_ML "HerOrdersLaw" 128 ⟨"HerOrders", "far", "(I)I"⟩ := Or.inl (List.mem_of_getElem? (i := 563) (by decide +kernel))
set_option maxRecDepth 100000 in
theorem ml_la_131 : sm_ML "HerOrdersLaw" 131 ⟨"HerOrders", "few", "(II)I"⟩ := Or.inl (List.mem_of_getElem? (i := 554) (by decide +kernel))
set_option maxRecDepth 100000 in
theorem ml_la_108 : sm_ML "HerOrdersLaw" 108 ⟨"HerOrders", "who", "(I)I"⟩ := Or.inl (List.mem_of_getElem? (i := 474) (by decide +kernel))
set_option maxRecDepth 100000 in
theorem ml_la_89 : sm_ML "HerOrdersLaw" 89 ⟨"HerOrders", "keep", "(I)I"⟩ := Or.inl (List.mem_of_getElem? (i := 458) (by decide +kernel))
set_option maxRecDepth 100000 in
theorem ml_la_184 : sm_ML "HerOrdersLaw" 184 ⟨"HerOrders", "on", "(I)I"⟩ := Or.inl (List.mem_of_getElem? (i := 466) (by decide +kernel))
set_option maxRecDepth 100000 in
theorem ml_la_92 : sm_ML "HerOrdersLaw" 92 ⟨"HerOrdersLaw", "stir", "(LHerOrders;[I[III)Z"⟩ := Or.inl (List.mem_of_getElem? (i := 841) (by decide +kernel))
set_option maxRecDepth 100000 in
theorem ml_la_82 : sm_ML "HerOrdersLaw" 82 ⟨"HerOrdersLaw", "house", "(LHerOrders;[I[I[I)Z"⟩ := Or.inl (List.mem_of_getElem? (i := 817) (by decide +kernel))
abbrev mi_la_law : sm_MI := (⟨"HerOrdersLaw", "law", "([I)Z"⟩, code, 45, some .boolean, 1500)
set_option maxRecDepth 100000 in
theorem ii_la_law_24 : sm_D code 24 1 25 (.aload_n 1) := ⟨by decide +kernel, rfl⟩
set_option maxRecDepth 100000 in
theorem ii_la_law_25 : sm_D code 25 1 26 (.aload_n 0) := ⟨by decide +kernel, rfl⟩
set_option maxRecDepth 100000 in
theorem ii_la_law_26 : sm_D code 26 1 27 (.aload_n 2) := ⟨by decide +kernel, rfl⟩
set_option maxRecDepth 100000 in
theorem ii_la_law_27 : sm_D code 27 1 28 (.aload_n 3) := ⟨by decide +kernel, rfl⟩
set_option maxRecDepth 100000 in
theorem ii_la_law_28 : sm_D code 28 3 31 (.invokestatic 82) := ⟨by decide +kernel, rfl⟩
set_option maxRecDepth 100000 in
theorem ii_la_law_31 : sm_D code 31 3 34 (.ifCond .ne 5) := ⟨by decide +kernel, rfl⟩
set_option maxRecDepth 100000 in
theorem ii_la_law_34 : sm_D code 34 1 35 (.iconst 0) := ⟨by decide +kernel, rfl⟩
set_option maxRecDepth 100000 in
theorem ii_la_law_35 : sm_D code 35 1 36 (.ireturn) := ⟨by decide +kernel, rfl⟩
set_option maxRecDepth 100000 in
theorem ii_la_law_36 : sm_D code 36 1 37 (.aload_n 2) := ⟨by decide +kernel, rfl⟩
set_option maxRecDepth 100000 in
theorem ii_la_law_37 : sm_D code 37 1 38 (.iconst 0) := ⟨by decide +kernel, rfl⟩
set_option maxRecDepth 100000 in
theorem ii_la_law_38 : sm_D code 38 1 39 (.iaload) := ⟨by decide +kernel, rfl⟩
set_option maxRecDepth 100000 in
theorem ii_la_law_39 : sm_D code 39 2 41 (.istore 5) := ⟨by decide +kernel, rfl⟩
set_option maxRecDepth 100000 in
theorem ii_la_law_41 : sm_D code 41 1 42 (.iconst 1) := ⟨by decide +kernel, rfl⟩
set_option maxRecDepth 100000 in
theorem ii_la_law_42 : sm_D code 42 2 44 (.iload 5) := ⟨by decide +kernel, rfl⟩
set_option maxRecDepth 100000 in
theorem ii_la_law_44 : sm_D code 44 1 45 (.ishl) := ⟨by decide +kernel, rfl⟩
set_option maxRecDepth 100000 in
theorem ii_la_law_45 : sm_D code 45 1 46 (.iconst 1) := ⟨by decide +kernel, rfl⟩
set_option maxRecDepth 100000 in
theorem ii_la_law_46 : sm_D code 46 1 47 (.isub) := ⟨by decide +kernel, rfl⟩
set_option maxRecDepth 100000 in
theorem ii_la_law_47 : sm_D code 47 2 49 (.istore 6) := ⟨by decide +kernel, rfl⟩
set_option maxRecDepth 100000 in
theorem ii_la_law_49 : sm_D code 49 1 50 (.aload_n 1) := ⟨by decide +kernel, rfl⟩
set_option maxRecDepth 100000 in
theorem ii_la_law_50 : sm_D code 50 3 53 (.invokevirtual 85) := ⟨by decide +kernel, rfl⟩
set_option maxRecDepth 100000 in
theorem ii_la_law_53 : sm_D code 53 2 55 (.lstore 7) := ⟨by decide +kernel, rfl⟩
set_option maxRecDepth 100000 in
theorem ii_la_law_55 : sm_D code 55 1 56 (.aload_n 1) := ⟨by decide +kernel, rfl⟩
set_option maxRecDepth 100000 in
theorem ii_la_law_56 : sm_D code 56 1 57 (.iconst 0) := ⟨by decide +kernel, rfl⟩
set_option maxRecDepth 100000 in
theorem ii_la_law_57 : sm_D code 57 3 60 (.invokevirtual 89) := ⟨by decide +kernel, rfl⟩
set_option maxRecDepth 100000 in
theorem ii_la_law_60 : sm_D code 60 3 63 (.ifCond .eq 5) := ⟨by decide +kernel, rfl⟩
set_option maxRecDepth 100000 in
theorem ii_la_law_63 : sm_D code 63 1 64 (.iconst 0) := ⟨by decide +kernel, rfl⟩
set_option maxRecDepth 100000 in
theorem ii_la_law_64 : sm_D code 64 1 65 (.ireturn) := ⟨by decide +kernel, rfl⟩
set_option maxRecDepth 100000 in
theorem ii_la_law_65 : sm_D code 65 1 66 (.iconst 0) := ⟨by decide +kernel, rfl⟩
set_option maxRecDepth 100000 in
theorem ii_la_law_66 : sm_D code 66 2 68 (.istore 9) := ⟨by decide +kernel, rfl⟩
set_option maxRecDepth 100000 in
theorem ii_la_law_68 : sm_D code 68 2 70 (.iload 9) := ⟨by decide +kernel, rfl⟩
set_option maxRecDepth 100000 in
theorem ii_la_law_70 : sm_D code 70 1 71 (.iconst 3) := ⟨by decide +kernel, rfl⟩
set_option maxRecDepth 100000 in
theorem ii_la_law_71 : sm_D code 71 3 74 (.if_icmp .ge 2533) := ⟨by decide +kernel, rfl⟩
set_option maxRecDepth 100000 in
theorem ii_la_law_74 : sm_D code 74 1 75 (.aload_n 0) := ⟨by decide +kernel, rfl⟩
set_option maxRecDepth 100000 in
theorem ii_la_law_75 : sm_D code 75 2 77 (.bipush 7) := ⟨by decide +kernel, rfl⟩
set_option maxRecDepth 100000 in
theorem ii_la_law_77 : sm_D code 77 2 79 (.iload 9) := ⟨by decide +kernel, rfl⟩
set_option maxRecDepth 100000 in
theorem ii_la_law_79 : sm_D code 79 1 80 (.iadd) := ⟨by decide +kernel, rfl⟩
set_option maxRecDepth 100000 in
theorem ii_la_law_80 : sm_D code 80 3 83 (.invokestatic 9) := ⟨by decide +kernel, rfl⟩
set_option maxRecDepth 100000 in
theorem ii_la_law_83 : sm_D code 83 2 85 (.istore 10) := ⟨by decide +kernel, rfl⟩
set_option maxRecDepth 100000 in
theorem ii_la_law_85 : sm_D code 85 1 86 (.aload_n 1) := ⟨by decide +kernel, rfl⟩
set_option maxRecDepth 100000 in
theorem ii_la_law_86 : sm_D code 86 1 87 (.aload_n 2) := ⟨by decide +kernel, rfl⟩
set_option maxRecDepth 100000 in
theorem ii_la_law_87 : sm_D code 87 1 88 (.aload_n 3) := ⟨by decide +kernel, rfl⟩
set_option maxRecDepth 100000 in
theorem ii_la_law_88 : sm_D code 88 1 89 (.aload_n 0) := ⟨by decide +kernel, rfl⟩
set_option maxRecDepth 100000 in
theorem ii_la_law_89 : sm_D code 89 2 91 (.bipush 10) := ⟨by decide +kernel, rfl⟩
set_option maxRecDepth 100000 in
theorem ii_la_law_91 : sm_D code 91 2 93 (.iload 9) := ⟨by decide +kernel, rfl⟩
set_option maxRecDepth 100000 in
theorem ii_la_law_93 : sm_D code 93 1 94 (.iadd) := ⟨by decide +kernel, rfl⟩
set_option maxRecDepth 100000 in
theorem ii_la_law_94 : sm_D code 94 3 97 (.invokestatic 9) := ⟨by decide +kernel, rfl⟩
set_option maxRecDepth 100000 in
theorem ii_la_law_97 : sm_D code 97 1 98 (.iconst 1) := ⟨by decide +kernel, rfl⟩
set_option maxRecDepth 100000 in
theorem ii_la_law_98 : sm_D code 98 2 100 (.iload 9) := ⟨by decide +kernel, rfl⟩
set_option maxRecDepth 100000 in
theorem ii_la_law_100 : sm_D code 100 1 101 (.iadd) := ⟨by decide +kernel, rfl⟩
set_option maxRecDepth 100000 in
theorem ii_la_law_101 : sm_D code 101 3 104 (.invokestatic 92) := ⟨by decide +kernel, rfl⟩
set_option maxRecDepth 100000 in
theorem ii_la_law_104 : sm_D code 104 3 107 (.ifCond .ne 5) := ⟨by decide +kernel, rfl⟩
set_option maxRecDepth 100000 in
theorem ii_la_law_107 : sm_D code 107 1 108 (.iconst 0) := ⟨by decide +kernel, rfl⟩
set_option maxRecDepth 100000 in
theorem ii_la_law_108 : sm_D code 108 1 109 (.ireturn) := ⟨by decide +kernel, rfl⟩
set_option maxRecDepth 100000 in
theorem ii_la_law_109 : sm_D code 109 1 110 (.aload_n 1) := ⟨by decide +kernel, rfl⟩
set_option maxRecDepth 100000 in
theorem ii_la_law_110 : sm_D code 110 1 111 (.iconst 2) := ⟨by decide +kernel, rfl⟩
set_option maxRecDepth 100000 in
theorem ii_la_law_111 : sm_D code 111 3 114 (.invokevirtual 96) := ⟨by decide +kernel, rfl⟩
set_option maxRecDepth 100000 in
theorem ii_la_law_114 : sm_D code 114 2 116 (.istore 11) := ⟨by decide +kernel, rfl⟩
set_option maxRecDepth 100000 in
theorem ii_la_law_116 : sm_D code 116 1 117 (.aload_n 1) := ⟨by decide +kernel, rfl⟩
set_option maxRecDepth 100000 in
theorem ii_la_law_117 : sm_D code 117 1 118 (.iconst 1) := ⟨by decide +kernel, rfl⟩
set_option maxRecDepth 100000 in
theorem ii_la_law_118 : sm_D code 118 3 121 (.invokevirtual 96) := ⟨by decide +kernel, rfl⟩
set_option maxRecDepth 100000 in
theorem ii_la_law_121 : sm_D code 121 2 123 (.istore 12) := ⟨by decide +kernel, rfl⟩
set_option maxRecDepth 100000 in
theorem ii_la_law_123 : sm_D code 123 1 124 (.aload_n 1) := ⟨by decide +kernel, rfl⟩
set_option maxRecDepth 100000 in
theorem ii_la_law_124 : sm_D code 124 1 125 (.iconst 3) := ⟨by decide +kernel, rfl⟩
set_option maxRecDepth 100000 in
theorem ii_la_law_125 : sm_D code 125 3 128 (.invokevirtual 96) := ⟨by decide +kernel, rfl⟩
set_option maxRecDepth 100000 in
theorem ii_la_law_128 : sm_D code 128 2 130 (.istore 13) := ⟨by decide +kernel, rfl⟩
set_option maxRecDepth 100000 in
theorem ii_la_law_130 : sm_D code 130 1 131 (.aload_n 1) := ⟨by decide +kernel, rfl⟩
set_option maxRecDepth 100000 in
theorem ii_la_law_131 : sm_D code 131 1 132 (.iconst 4) := ⟨by decide +kernel, rfl⟩
set_option maxRecDepth 100000 in
theorem ii_la_law_132 : sm_D code 132 3 135 (.invokevirtual 96) := ⟨by decide +kernel, rfl⟩
set_option maxRecDepth 100000 in
theorem ii_la_law_135 : sm_D code 135 2 137 (.istore 14) := ⟨by decide +kernel, rfl⟩
set_option maxRecDepth 100000 in
theorem ii_la_law_137 : sm_D code 137 1 138 (.aload_n 1) := ⟨by decide +kernel, rfl⟩
set_option maxRecDepth 100000 in
theorem ii_la_law_138 : sm_D code 138 1 139 (.iconst 5) := ⟨by decide +kernel, rfl⟩
set_option maxRecDepth 100000 in
theorem ii_la_law_139 : sm_D code 139 3 142 (.invokevirtual 96) := ⟨by decide +kernel, rfl⟩
set_option maxRecDepth 100000 in
theorem ii_la_law_142 : sm_D code 142 2 144 (.istore 15) := ⟨by decide +kernel, rfl⟩
set_option maxRecDepth 100000 in
theorem ii_la_law_144 : sm_D code 144 1 145 (.aload_n 1) := ⟨by decide +kernel, rfl⟩
set_option maxRecDepth 100000 in
theorem ii_la_law_145 : sm_D code 145 2 147 (.bipush 6) := ⟨by decide +kernel, rfl⟩
set_option maxRecDepth 100000 in
theorem ii_la_law_147 : sm_D code 147 3 150 (.invokevirtual 96) := ⟨by decide +kernel, rfl⟩
set_option maxRecDepth 100000 in
theorem ii_la_law_150 : sm_D code 150 2 152 (.istore 16) := ⟨by decide +kernel, rfl⟩
set_option maxRecDepth 100000 in
theorem ii_la_law_152 : sm_D code 152 2 154 (.iload 13) := ⟨by decide +kernel, rfl⟩
set_option maxRecDepth 100000 in
theorem ii_la_law_154 : sm_D code 154 3 157 (.ifCond .ne 8) := ⟨by decide +kernel, rfl⟩
set_option maxRecDepth 100000 in
theorem ii_la_law_157 : sm_D code 157 2 159 (.bipush (-9)) := ⟨by decide +kernel, rfl⟩
set_option maxRecDepth 100000 in
theorem ii_la_law_159 : sm_D code 159 3 162 (.goto 11) := ⟨by decide +kernel, rfl⟩
set_option maxRecDepth 100000 in
theorem ii_la_law_162 : sm_D code 162 1 163 (.aload_n 1) := ⟨by decide +kernel, rfl⟩
set_option maxRecDepth 100000 in
theorem ii_la_law_163 : sm_D code 163 2 165 (.iload 13) := ⟨by decide +kernel, rfl⟩
set_option maxRecDepth 100000 in
theorem ii_la_law_165 : sm_D code 165 1 166 (.iconst 1) := ⟨by decide +kernel, rfl⟩
set_option maxRecDepth 100000 in
theorem ii_la_law_166 : sm_D code 166 1 167 (.isub) := ⟨by decide +kernel, rfl⟩
set_option maxRecDepth 100000 in
theorem ii_la_law_167 : sm_D code 167 3 170 (.invokevirtual 99) := ⟨by decide +kernel, rfl⟩
set_option maxRecDepth 100000 in
theorem ii_la_law_170 : sm_D code 170 2 172 (.istore 17) := ⟨by decide +kernel, rfl⟩
set_option maxRecDepth 100000 in
theorem ii_la_law_172 : sm_D code 172 2 174 (.iload 13) := ⟨by decide +kernel, rfl⟩
set_option maxRecDepth 100000 in
theorem ii_la_law_174 : sm_D code 174 3 177 (.ifCond .ne 8) := ⟨by decide +kernel, rfl⟩
set_option maxRecDepth 100000 in
theorem ii_la_law_177 : sm_D code 177 2 179 (.bipush (-9)) := ⟨by decide +kernel, rfl⟩
set_option maxRecDepth 100000 in
theorem ii_la_law_179 : sm_D code 179 3 182 (.goto 7) := ⟨by decide +kernel, rfl⟩
set_option maxRecDepth 100000 in
theorem ii_la_law_182 : sm_D code 182 1 183 (.aload_n 1) := ⟨by decide +kernel, rfl⟩
set_option maxRecDepth 100000 in
theorem ii_la_law_183 : sm_D code 183 3 186 (.invokevirtual 78) := ⟨by decide +kernel, rfl⟩
set_option maxRecDepth 100000 in
theorem ii_la_law_186 : sm_D code 186 2 188 (.istore 18) := ⟨by decide +kernel, rfl⟩
set_option maxRecDepth 100000 in
theorem ii_la_law_188 : sm_D code 188 2 190 (.iload 13) := ⟨by decide +kernel, rfl⟩
set_option maxRecDepth 100000 in
theorem ii_la_law_190 : sm_D code 190 3 193 (.ifCond .lt 50) := ⟨by decide +kernel, rfl⟩
set_option maxRecDepth 100000 in
theorem ii_la_law_193 : sm_D code 193 2 195 (.iload 13) := ⟨by decide +kernel, rfl⟩
set_option maxRecDepth 100000 in
theorem ii_la_law_195 : sm_D code 195 2 197 (.bipush 8) := ⟨by decide +kernel, rfl⟩
set_option maxRecDepth 100000 in
theorem ii_la_law_197 : sm_D code 197 3 200 (.if_icmp .gt 43) := ⟨by decide +kernel, rfl⟩
set_option maxRecDepth 100000 in
theorem ii_la_law_200 : sm_D code 200 2 202 (.iload 15) := ⟨by decide +kernel, rfl⟩
set_option maxRecDepth 100000 in
theorem ii_la_law_202 : sm_D code 202 3 205 (.ifCond .lt 38) := ⟨by decide +kernel, rfl⟩
set_option maxRecDepth 100000 in
theorem ii_la_law_205 : sm_D code 205 2 207 (.iload 16) := ⟨by decide +kernel, rfl⟩
set_option maxRecDepth 100000 in
theorem ii_la_law_207 : sm_D code 207 3 210 (.ifCond .lt 33) := ⟨by decide +kernel, rfl⟩
set_option maxRecDepth 100000 in
theorem ii_la_law_210 : sm_D code 210 2 212 (.iload 16) := ⟨by decide +kernel, rfl⟩
set_option maxRecDepth 100000 in
theorem ii_la_law_212 : sm_D code 212 2 214 (.bipush 63) := ⟨by decide +kernel, rfl⟩
set_option maxRecDepth 100000 in
theorem ii_la_law_214 : sm_D code 214 3 217 (.if_icmp .gt 26) := ⟨by decide +kernel, rfl⟩
set_option maxRecDepth 100000 in
theorem ii_la_law_217 : sm_D code 217 2 219 (.iload 18) := ⟨by decide +kernel, rfl⟩
set_option maxRecDepth 100000 in
theorem ii_la_law_219 : sm_D code 219 2 221 (.iload 5) := ⟨by decide +kernel, rfl⟩
set_option maxRecDepth 100000 in
theorem ii_la_law_221 : sm_D code 221 3 224 (.if_icmp .ge 19) := ⟨by decide +kernel, rfl⟩
set_option maxRecDepth 100000 in
theorem ii_la_law_224 : sm_D code 224 2 226 (.iload 13) := ⟨by decide +kernel, rfl⟩
set_option maxRecDepth 100000 in
theorem ii_la_law_226 : sm_D code 226 3 229 (.ifCond .le 16) := ⟨by decide +kernel, rfl⟩
set_option maxRecDepth 100000 in
theorem ii_la_law_229 : sm_D code 229 2 231 (.iload 17) := ⟨by decide +kernel, rfl⟩
set_option maxRecDepth 100000 in
theorem ii_la_law_231 : sm_D code 231 3 234 (.ifCond .lt 9) := ⟨by decide +kernel, rfl⟩
set_option maxRecDepth 100000 in
theorem ii_la_law_234 : sm_D code 234 2 236 (.iload 17) := ⟨by decide +kernel, rfl⟩
set_option maxRecDepth 100000 in
theorem ii_la_law_236 : sm_D code 236 1 237 (.iconst 5) := ⟨by decide +kernel, rfl⟩
set_option maxRecDepth 100000 in
theorem ii_la_law_237 : sm_D code 237 3 240 (.if_icmp .le 5) := ⟨by decide +kernel, rfl⟩
set_option maxRecDepth 100000 in
theorem ii_la_law_240 : sm_D code 240 1 241 (.iconst 0) := ⟨by decide +kernel, rfl⟩
set_option maxRecDepth 100000 in
theorem ii_la_law_241 : sm_D code 241 1 242 (.ireturn) := ⟨by decide +kernel, rfl⟩
set_option maxRecDepth 100000 in
theorem ii_la_law_242 : sm_D code 242 1 243 (.iconst 0) := ⟨by decide +kernel, rfl⟩
set_option maxRecDepth 100000 in
theorem ii_la_law_243 : sm_D code 243 2 245 (.istore 19) := ⟨by decide +kernel, rfl⟩
set_option maxRecDepth 100000 in
theorem ii_la_law_245 : sm_D code 245 1 246 (.iconst 0) := ⟨by decide +kernel, rfl⟩
set_option maxRecDepth 100000 in
theorem ii_la_law_246 : sm_D code 246 2 248 (.istore 20) := ⟨by decide +kernel, rfl⟩
set_option maxRecDepth 100000 in
theorem ii_la_law_248 : sm_D code 248 2 250 (.iload 20) := ⟨by decide +kernel, rfl⟩
set_option maxRecDepth 100000 in
theorem ii_la_law_250 : sm_D code 250 2 252 (.iload 5) := ⟨by decide +kernel, rfl⟩
set_option maxRecDepth 100000 in
theorem ii_la_law_252 : sm_D code 252 3 255 (.if_icmp .ge 246) := ⟨by decide +kernel, rfl⟩
set_option maxRecDepth 100000 in
theorem ii_la_law_255 : sm_D code 255 1 256 (.aload_n 1) := ⟨by decide +kernel, rfl⟩
set_option maxRecDepth 100000 in
theorem ii_la_law_256 : sm_D code 256 2 258 (.iload 20) := ⟨by decide +kernel, rfl⟩
set_option maxRecDepth 100000 in
theorem ii_la_law_258 : sm_D code 258 1 259 (.iconst 4) := ⟨by decide +kernel, rfl⟩
set_option maxRecDepth 100000 in
theorem ii_la_law_259 : sm_D code 259 3 262 (.invokestatic 102) := ⟨by decide +kernel, rfl⟩
set_option maxRecDepth 100000 in
theorem ii_la_law_262 : sm_D code 262 2 264 (.istore 21) := ⟨by decide +kernel, rfl⟩
set_option maxRecDepth 100000 in
theorem ii_la_law_264 : sm_D code 264 1 265 (.aload_n 1) := ⟨by decide +kernel, rfl⟩
set_option maxRecDepth 100000 in
theorem ii_la_law_265 : sm_D code 265 2 267 (.iload 20) := ⟨by decide +kernel, rfl⟩
set_option maxRecDepth 100000 in
theorem ii_la_law_267 : sm_D code 267 3 270 (.invokevirtual 106) := ⟨by decide +kernel, rfl⟩
set_option maxRecDepth 100000 in
theorem ii_la_law_270 : sm_D code 270 2 272 (.istore 22) := ⟨by decide +kernel, rfl⟩
set_option maxRecDepth 100000 in
theorem ii_la_law_272 : sm_D code 272 2 274 (.iload 19) := ⟨by decide +kernel, rfl⟩
set_option maxRecDepth 100000 in
theorem ii_la_law_274 : sm_D code 274 2 276 (.iload 22) := ⟨by decide +kernel, rfl⟩
set_option maxRecDepth 100000 in
theorem ii_la_law_276 : sm_D code 276 1 277 (.ior) := ⟨by decide +kernel, rfl⟩
set_option maxRecDepth 100000 in
theorem ii_la_law_277 : sm_D code 277 2 279 (.istore 19) := ⟨by decide +kernel, rfl⟩
set_option maxRecDepth 100000 in
theorem ii_la_law_279 : sm_D code 279 2 281 (.iload 21) := ⟨by decide +kernel, rfl⟩
set_option maxRecDepth 100000 in
theorem ii_la_law_281 : sm_D code 281 3 284 (.ifCond .lt 39) := ⟨by decide +kernel, rfl⟩
set_option maxRecDepth 100000 in
theorem ii_la_law_284 : sm_D code 284 2 286 (.iload 21) := ⟨by decide +kernel, rfl⟩
set_option maxRecDepth 100000 in
theorem ii_la_law_286 : sm_D code 286 1 287 (.aload_n 1) := ⟨by decide +kernel, rfl⟩
set_option maxRecDepth 100000 in
theorem ii_la_law_287 : sm_D code 287 2 289 (.iload 20) := ⟨by decide +kernel, rfl⟩
set_option maxRecDepth 100000 in
theorem ii_la_law_289 : sm_D code 289 1 290 (.iconst 3) := ⟨by decide +kernel, rfl⟩
set_option maxRecDepth 100000 in
theorem ii_la_law_290 : sm_D code 290 3 293 (.invokestatic 102) := ⟨by decide +kernel, rfl⟩
set_option maxRecDepth 100000 in
theorem ii_la_law_293 : sm_D code 293 3 296 (.if_icmp .gt 27) := ⟨by decide +kernel, rfl⟩
set_option maxRecDepth 100000 in
theorem ii_la_law_296 : sm_D code 296 2 298 (.iload 22) := ⟨by decide +kernel, rfl⟩
set_option maxRecDepth 100000 in
theorem ii_la_law_298 : sm_D code 298 3 301 (.ifCond .eq 24) := ⟨by decide +kernel, rfl⟩
set_option maxRecDepth 100000 in
theorem ii_la_law_301 : sm_D code 301 2 303 (.iload 21) := ⟨by decide +kernel, rfl⟩
set_option maxRecDepth 100000 in
theorem ii_la_law_303 : sm_D code 303 3 306 (.ifCond .eq 17) := ⟨by decide +kernel, rfl⟩
set_option maxRecDepth 100000 in
theorem ii_la_law_306 : sm_D code 306 2 308 (.iload 20) := ⟨by decide +kernel, rfl⟩
set_option maxRecDepth 100000 in
theorem ii_la_law_308 : sm_D code 308 2 310 (.iload 18) := ⟨by decide +kernel, rfl⟩
set_option maxRecDepth 100000 in
theorem ii_la_law_310 : sm_D code 310 3 313 (.if_icmp .eq 10) := ⟨by decide +kernel, rfl⟩
set_option maxRecDepth 100000 in
theorem ii_la_law_313 : sm_D code 313 2 315 (.iload 13) := ⟨by decide +kernel, rfl⟩
set_option maxRecDepth 100000 in
theorem ii_la_law_315 : sm_D code 315 2 317 (.bipush 8) := ⟨by decide +kernel, rfl⟩
set_option maxRecDepth 100000 in
theorem ii_la_law_317 : sm_D code 317 3 320 (.if_icmp .ne 5) := ⟨by decide +kernel, rfl⟩
set_option maxRecDepth 100000 in
theorem ii_la_law_320 : sm_D code 320 1 321 (.iconst 0) := ⟨by decide +kernel, rfl⟩
set_option maxRecDepth 100000 in
theorem ii_la_law_321 : sm_D code 321 1 322 (.ireturn) := ⟨by decide +kernel, rfl⟩
set_option maxRecDepth 100000 in
theorem ii_la_law_322 : sm_D code 322 1 323 (.iconst 0) := ⟨by decide +kernel, rfl⟩
set_option maxRecDepth 100000 in
theorem ii_la_law_323 : sm_D code 323 2 325 (.istore 23) := ⟨by decide +kernel, rfl⟩
set_option maxRecDepth 100000 in
theorem ii_la_law_325 : sm_D code 325 2 327 (.iload 23) := ⟨by decide +kernel, rfl⟩
set_option maxRecDepth 100000 in
theorem ii_la_law_327 : sm_D code 327 2 329 (.bipush 6) := ⟨by decide +kernel, rfl⟩
set_option maxRecDepth 100000 in
theorem ii_la_law_329 : sm_D code 329 3 332 (.if_icmp .ge 163) := ⟨by decide +kernel, rfl⟩
set_option maxRecDepth 100000 in
theorem ii_la_law_332 : sm_D code 332 2 334 (.iload 22) := ⟨by decide +kernel, rfl⟩
set_option maxRecDepth 100000 in
theorem ii_la_law_334 : sm_D code 334 2 336 (.iload 23) := ⟨by decide +kernel, rfl⟩
set_option maxRecDepth 100000 in
theorem ii_la_law_336 : sm_D code 336 1 337 (.ishr) := ⟨by decide +kernel, rfl⟩
set_option maxRecDepth 100000 in
theorem ii_la_law_337 : sm_D code 337 1 338 (.iconst 1) := ⟨by decide +kernel, rfl⟩
set_option maxRecDepth 100000 in
theorem ii_la_law_338 : sm_D code 338 1 339 (.iand) := ⟨by decide +kernel, rfl⟩
set_option maxRecDepth 100000 in
theorem ii_la_law_339 : sm_D code 339 1 340 (.iconst 1) := ⟨by decide +kernel, rfl⟩
set_option maxRecDepth 100000 in
theorem ii_la_law_340 : sm_D code 340 3 343 (.if_icmp .ne 7) := ⟨by decide +kernel, rfl⟩
set_option maxRecDepth 100000 in
theorem ii_la_law_343 : sm_D code 343 1 344 (.iconst 1) := ⟨by decide +kernel, rfl⟩
set_option maxRecDepth 100000 in
theorem ii_la_law_344 : sm_D code 344 3 347 (.goto 4) := ⟨by decide +kernel, rfl⟩
set_option maxRecDepth 100000 in
theorem ii_la_law_347 : sm_D code 347 1 348 (.iconst 0) := ⟨by decide +kernel, rfl⟩
set_option maxRecDepth 100000 in
theorem ii_la_law_348 : sm_D code 348 2 350 (.istore 24) := ⟨by decide +kernel, rfl⟩
set_option maxRecDepth 100000 in
theorem ii_la_law_350 : sm_D code 350 2 352 (.iload 24) := ⟨by decide +kernel, rfl⟩
set_option maxRecDepth 100000 in
theorem ii_la_law_352 : sm_D code 352 1 353 (.aload_n 1) := ⟨by decide +kernel, rfl⟩
set_option maxRecDepth 100000 in
theorem ii_la_law_353 : sm_D code 353 2 355 (.iload 23) := ⟨by decide +kernel, rfl⟩
set_option maxRecDepth 100000 in
theorem ii_la_law_355 : sm_D code 355 3 358 (.invokevirtual 108) := ⟨by decide +kernel, rfl⟩
set_option maxRecDepth 100000 in
theorem ii_la_law_358 : sm_D code 358 2 360 (.iload 20) := ⟨by decide +kernel, rfl⟩
set_option maxRecDepth 100000 in
theorem ii_la_law_360 : sm_D code 360 1 361 (.ishr) := ⟨by decide +kernel, rfl⟩
set_option maxRecDepth 100000 in
theorem ii_la_law_361 : sm_D code 361 1 362 (.iconst 1) := ⟨by decide +kernel, rfl⟩
set_option maxRecDepth 100000 in
theorem ii_la_law_362 : sm_D code 362 1 363 (.iand) := ⟨by decide +kernel, rfl⟩
set_option maxRecDepth 100000 in
theorem ii_la_law_363 : sm_D code 363 1 364 (.iconst 1) := ⟨by decide +kernel, rfl⟩
set_option maxRecDepth 100000 in
theorem ii_la_law_364 : sm_D code 364 3 367 (.if_icmp .ne 7) := ⟨by decide +kernel, rfl⟩
set_option maxRecDepth 100000 in
theorem ii_la_law_367 : sm_D code 367 1 368 (.iconst 1) := ⟨by decide +kernel, rfl⟩
set_option maxRecDepth 100000 in
theorem ii_la_law_368 : sm_D code 368 3 371 (.goto 4) := ⟨by decide +kernel, rfl⟩
set_option maxRecDepth 100000 in
theorem ii_la_law_371 : sm_D code 371 1 372 (.iconst 0) := ⟨by decide +kernel, rfl⟩
set_option maxRecDepth 100000 in
theorem ii_la_law_372 : sm_D code 372 3 375 (.if_icmp .ne 28) := ⟨by decide +kernel, rfl⟩
set_option maxRecDepth 100000 in
theorem ii_la_law_375 : sm_D code 375 1 376 (.aload_n 1) := ⟨by decide +kernel, rfl⟩
set_option maxRecDepth 100000 in
theorem ii_la_law_376 : sm_D code 376 2 378 (.iload 20) := ⟨by decide +kernel, rfl⟩
set_option maxRecDepth 100000 in
theorem ii_la_law_378 : sm_D code 378 2 380 (.iload 23) := ⟨by decide +kernel, rfl⟩
set_option maxRecDepth 100000 in
theorem ii_la_law_380 : sm_D code 380 3 383 (.invokevirtual 58) := ⟨by decide +kernel, rfl⟩
set_option maxRecDepth 100000 in
theorem ii_la_law_383 : sm_D code 383 2 385 (.iload 24) := ⟨by decide +kernel, rfl⟩
set_option maxRecDepth 100000 in
theorem ii_la_law_385 : sm_D code 385 3 388 (.ifCond .eq 10) := ⟨by decide +kernel, rfl⟩
set_option maxRecDepth 100000 in
theorem ii_la_law_388 : sm_D code 388 2 390 (.iload 13) := ⟨by decide +kernel, rfl⟩
set_option maxRecDepth 100000 in
theorem ii_la_law_390 : sm_D code 390 1 391 (.iconst 1) := ⟨by decide +kernel, rfl⟩
set_option maxRecDepth 100000 in
theorem ii_la_law_391 : sm_D code 391 1 392 (.iadd) := ⟨by decide +kernel, rfl⟩
set_option maxRecDepth 100000 in
theorem ii_la_law_392 : sm_D code 392 3 395 (.goto 5) := ⟨by decide +kernel, rfl⟩
set_option maxRecDepth 100000 in
theorem ii_la_law_395 : sm_D code 395 2 397 (.bipush (-4)) := ⟨by decide +kernel, rfl⟩
set_option maxRecDepth 100000 in
theorem ii_la_law_397 : sm_D code 397 3 400 (.if_icmp .eq 5) := ⟨by decide +kernel, rfl⟩
set_option maxRecDepth 100000 in
theorem ii_la_law_400 : sm_D code 400 1 401 (.iconst 0) := ⟨by decide +kernel, rfl⟩
set_option maxRecDepth 100000 in
theorem ii_la_law_401 : sm_D code 401 1 402 (.ireturn) := ⟨by decide +kernel, rfl⟩
set_option maxRecDepth 100000 in
theorem ii_la_law_402 : sm_D code 402 2 404 (.iload 24) := ⟨by decide +kernel, rfl⟩
set_option maxRecDepth 100000 in
theorem ii_la_law_404 : sm_D code 404 3 407 (.ifCond .eq 82) := ⟨by decide +kernel, rfl⟩
set_option maxRecDepth 100000 in
theorem ii_la_law_407 : sm_D code 407 1 408 (.aload_n 1) := ⟨by decide +kernel, rfl⟩
set_option maxRecDepth 100000 in
theorem ii_la_law_408 : sm_D code 408 2 410 (.iload 13) := ⟨by decide +kernel, rfl⟩
set_option maxRecDepth 100000 in
theorem ii_la_law_410 : sm_D code 410 3 413 (.invokevirtual 99) := ⟨by decide +kernel, rfl⟩
set_option maxRecDepth 100000 in
theorem ii_la_law_413 : sm_D code 413 2 415 (.iload 23) := ⟨by decide +kernel, rfl⟩
set_option maxRecDepth 100000 in
theorem ii_la_law_415 : sm_D code 415 3 418 (.if_icmp .ne 69) := ⟨by decide +kernel, rfl⟩
set_option maxRecDepth 100000 in
theorem ii_la_law_418 : sm_D code 418 1 419 (.aload_n 1) := ⟨by decide +kernel, rfl⟩
set_option maxRecDepth 100000 in
theorem ii_la_law_419 : sm_D code 419 3 422 (.invokevirtual 78) := ⟨by decide +kernel, rfl⟩
set_option maxRecDepth 100000 in
theorem ii_la_law_422 : sm_D code 422 2 424 (.iload 20) := ⟨by decide +kernel, rfl⟩
set_option maxRecDepth 100000 in
theorem ii_la_law_424 : sm_D code 424 3 427 (.if_icmp .ne 60) := ⟨by decide +kernel, rfl⟩
set_option maxRecDepth 100000 in
theorem ii_la_law_427 : sm_D code 427 1 428 (.aload_n 1) := ⟨by decide +kernel, rfl⟩
set_option maxRecDepth 100000 in
theorem ii_la_law_428 : sm_D code 428 2 430 (.iload 20) := ⟨by decide +kernel, rfl⟩
set_option maxRecDepth 100000 in
theorem ii_la_law_430 : sm_D code 430 1 431 (.iconst 4) := ⟨by decide +kernel, rfl⟩
set_option maxRecDepth 100000 in
theorem ii_la_law_431 : sm_D code 431 3 434 (.invokestatic 102) := ⟨by decide +kernel, rfl⟩
set_option maxRecDepth 100000 in
theorem ii_la_law_434 : sm_D code 434 2 436 (.iload 21) := ⟨by decide +kernel, rfl⟩
set_option maxRecDepth 100000 in
theorem ii_la_law_436 : sm_D code 436 1 437 (.iconst 1) := ⟨by decide +kernel, rfl⟩
set_option maxRecDepth 100000 in
theorem ii_la_law_437 : sm_D code 437 1 438 (.isub) := ⟨by decide +kernel, rfl⟩
set_option maxRecDepth 100000 in
theorem ii_la_law_438 : sm_D code 438 3 441 (.if_icmp .ne 46) := ⟨by decide +kernel, rfl⟩
set_option maxRecDepth 100000 in
theorem ii_la_law_441 : sm_D code 441 1 442 (.aload_n 1) := ⟨by decide +kernel, rfl⟩
set_option maxRecDepth 100000 in
theorem ii_la_law_442 : sm_D code 442 1 443 (.iconst 5) := ⟨by decide +kernel, rfl⟩
set_option maxRecDepth 100000 in
theorem ii_la_law_443 : sm_D code 443 3 446 (.invokevirtual 96) := ⟨by decide +kernel, rfl⟩
set_option maxRecDepth 100000 in
theorem ii_la_law_446 : sm_D code 446 2 448 (.iload 15) := ⟨by decide +kernel, rfl⟩
set_option maxRecDepth 100000 in
theorem ii_la_law_448 : sm_D code 448 1 449 (.iconst 1) := ⟨by decide +kernel, rfl⟩
set_option maxRecDepth 100000 in
theorem ii_la_law_449 : sm_D code 449 1 450 (.isub) := ⟨by decide +kernel, rfl⟩
set_option maxRecDepth 100000 in
theorem ii_la_law_450 : sm_D code 450 3 453 (.if_icmp .ne 34) := ⟨by decide +kernel, rfl⟩
set_option maxRecDepth 100000 in
theorem ii_la_law_453 : sm_D code 453 1 454 (.aload_n 1) := ⟨by decide +kernel, rfl⟩
set_option maxRecDepth 100000 in
theorem ii_la_law_454 : sm_D code 454 2 456 (.iload 20) := ⟨by decide +kernel, rfl⟩
set_option maxRecDepth 100000 in
theorem ii_la_law_456 : sm_D code 456 3 459 (.invokevirtual 106) := ⟨by decide +kernel, rfl⟩
set_option maxRecDepth 100000 in
theorem ii_la_law_459 : sm_D code 459 3 462 (.ifCond .ne 25) := ⟨by decide +kernel, rfl⟩
set_option maxRecDepth 100000 in
theorem ii_la_law_462 : sm_D code 462 1 463 (.aload_n 1) := ⟨by decide +kernel, rfl⟩
set_option maxRecDepth 100000 in
theorem ii_la_law_463 : sm_D code 463 2 465 (.iload 11) := ⟨by decide +kernel, rfl⟩
set_option maxRecDepth 100000 in
theorem ii_la_law_465 : sm_D code 465 3 468 (.invokevirtual 111) := ⟨by decide +kernel, rfl⟩
set_option maxRecDepth 100000 in
theorem ii_la_law_468 : sm_D code 468 1 469 (.iconst 1) := ⟨by decide +kernel, rfl⟩
set_option maxRecDepth 100000 in
theorem ii_la_law_469 : sm_D code 469 3 472 (.if_icmp .ne 15) := ⟨by decide +kernel, rfl⟩
set_option maxRecDepth 100000 in
theorem ii_la_law_472 : sm_D code 472 1 473 (.aload_n 1) := ⟨by decide +kernel, rfl⟩
set_option maxRecDepth 100000 in
theorem ii_la_law_473 : sm_D code 473 2 475 (.iload 20) := ⟨by decide +kernel, rfl⟩
set_option maxRecDepth 100000 in
theorem ii_la_law_475 : sm_D code 475 1 476 (.iconst 4) := ⟨by decide +kernel, rfl⟩
set_option maxRecDepth 100000 in
theorem ii_la_law_476 : sm_D code 476 3 479 (.invokestatic 102) := ⟨by decide +kernel, rfl⟩
set_option maxRecDepth 100000 in
theorem ii_la_law_479 : sm_D code 479 2 481 (.iload 21) := ⟨by decide +kernel, rfl⟩
set_option maxRecDepth 100000 in
theorem ii_la_law_481 : sm_D code 481 3 484 (.if_icmp .eq 5) := ⟨by decide +kernel, rfl⟩
set_option maxRecDepth 100000 in
theorem ii_la_law_484 : sm_D code 484 1 485 (.iconst 0) := ⟨by decide +kernel, rfl⟩
set_option maxRecDepth 100000 in
theorem ii_la_law_485 : sm_D code 485 1 486 (.ireturn) := ⟨by decide +kernel, rfl⟩
set_option maxRecDepth 100000 in
theorem ii_la_law_486 : sm_D code 486 3 489 (.iinc 23 1) := ⟨by decide +kernel, rfl⟩
set_option maxRecDepth 100000 in
theorem ii_la_law_489 : sm_D code 489 3 492 (.goto (-164)) := ⟨by decide +kernel, rfl⟩
set_option maxRecDepth 100000 in
theorem ii_la_law_492 : sm_D code 492 3 495 (.iinc 20 1) := ⟨by decide +kernel, rfl⟩
set_option maxRecDepth 100000 in
theorem ii_la_law_495 : sm_D code 495 3 498 (.goto (-247)) := ⟨by decide +kernel, rfl⟩
set_option maxRecDepth 100000 in
theorem ii_la_law_498 : sm_D code 498 2 500 (.iload 19) := ⟨by decide +kernel, rfl⟩
set_option maxRecDepth 100000 in
theorem ii_la_law_500 : sm_D code 500 2 502 (.iload 16) := ⟨by decide +kernel, rfl⟩
set_option maxRecDepth 100000 in
theorem ii_la_law_502 : sm_D code 502 3 505 (.if_icmp .eq 5) := ⟨by decide +kernel, rfl⟩
set_option maxRecDepth 100000 in
theorem ii_la_law_505 : sm_D code 505 1 506 (.iconst 0) := ⟨by decide +kernel, rfl⟩
set_option maxRecDepth 100000 in
theorem ii_la_law_506 : sm_D code 506 1 507 (.ireturn) := ⟨by decide +kernel, rfl⟩
set_option maxRecDepth 100000 in
theorem ii_la_law_507 : sm_D code 507 1 508 (.aload_n 1) := ⟨by decide +kernel, rfl⟩
set_option maxRecDepth 100000 in
theorem ii_la_law_508 : sm_D code 508 3 511 (.invokevirtual 64) := ⟨by decide +kernel, rfl⟩
set_option maxRecDepth 100000 in
theorem ii_la_law_511 : sm_D code 511 2 513 (.iload 12) := ⟨by decide +kernel, rfl⟩
set_option maxRecDepth 100000 in
theorem ii_la_law_513 : sm_D code 513 1 514 (.iconst 1) := ⟨by decide +kernel, rfl⟩
set_option maxRecDepth 100000 in
theorem ii_la_law_514 : sm_D code 514 1 515 (.iadd) := ⟨by decide +kernel, rfl⟩
set_option maxRecDepth 100000 in
theorem ii_la_law_515 : sm_D code 515 3 518 (.if_icmp .ne 13) := ⟨by decide +kernel, rfl⟩
set_option maxRecDepth 100000 in
theorem ii_la_law_518 : sm_D code 518 1 519 (.aload_n 1) := ⟨by decide +kernel, rfl⟩
set_option maxRecDepth 100000 in
theorem ii_la_law_519 : sm_D code 519 1 520 (.iconst 3) := ⟨by decide +kernel, rfl⟩
set_option maxRecDepth 100000 in
theorem ii_la_law_520 : sm_D code 520 3 523 (.invokevirtual 96) := ⟨by decide +kernel, rfl⟩
set_option maxRecDepth 100000 in
theorem ii_la_law_523 : sm_D code 523 2 525 (.iload 13) := ⟨by decide +kernel, rfl⟩
set_option maxRecDepth 100000 in
theorem ii_la_law_525 : sm_D code 525 3 528 (.if_icmp .eq 5) := ⟨by decide +kernel, rfl⟩
set_option maxRecDepth 100000 in
theorem ii_la_law_528 : sm_D code 528 1 529 (.iconst 0) := ⟨by decide +kernel, rfl⟩
set_option maxRecDepth 100000 in
theorem ii_la_law_529 : sm_D code 529 1 530 (.ireturn) := ⟨by decide +kernel, rfl⟩
set_option maxRecDepth 100000 in
theorem ii_la_law_530 : sm_D code 530 1 531 (.iconst 0) := ⟨by decide +kernel, rfl⟩
set_option maxRecDepth 100000 in
theorem ii_la_law_531 : sm_D code 531 2 533 (.istore 20) := ⟨by decide +kernel, rfl⟩
set_option maxRecDepth 100000 in
theorem ii_la_law_533 : sm_D code 533 2 535 (.iload 20) := ⟨by decide +kernel, rfl⟩
set_option maxRecDepth 100000 in
theorem ii_la_law_535 : sm_D code 535 2 537 (.iload 5) := ⟨by decide +kernel, rfl⟩
set_option maxRecDepth 100000 in
theorem ii_la_law_537 : sm_D code 537 3 540 (.if_icmp .ge 28) := ⟨by decide +kernel, rfl⟩
set_option maxRecDepth 100000 in
theorem ii_la_law_540 : sm_D code 540 1 541 (.aload_n 1) := ⟨by decide +kernel, rfl⟩
set_option maxRecDepth 100000 in
theorem ii_la_law_541 : sm_D code 541 2 543 (.iload 20) := ⟨by decide +kernel, rfl⟩
set_option maxRecDepth 100000 in
theorem ii_la_law_543 : sm_D code 543 1 544 (.iconst 4) := ⟨by decide +kernel, rfl⟩
set_option maxRecDepth 100000 in
theorem ii_la_law_544 : sm_D code 544 3 547 (.invokestatic 102) := ⟨by decide +kernel, rfl⟩
set_option maxRecDepth 100000 in
theorem ii_la_law_547 : sm_D code 547 1 548 (.aload_n 1) := ⟨by decide +kernel, rfl⟩
set_option maxRecDepth 100000 in
theorem ii_la_law_548 : sm_D code 548 2 550 (.iload 20) := ⟨by decide +kernel, rfl⟩
set_option maxRecDepth 100000 in
theorem ii_la_law_550 : sm_D code 550 1 551 (.iconst 3) := ⟨by decide +kernel, rfl⟩
set_option maxRecDepth 100000 in
theorem ii_la_law_551 : sm_D code 551 3 554 (.invokestatic 102) := ⟨by decide +kernel, rfl⟩
set_option maxRecDepth 100000 in
theorem ii_la_law_554 : sm_D code 554 3 557 (.if_icmp .eq 5) := ⟨by decide +kernel, rfl⟩
set_option maxRecDepth 100000 in
theorem ii_la_law_557 : sm_D code 557 1 558 (.iconst 0) := ⟨by decide +kernel, rfl⟩
set_option maxRecDepth 100000 in
theorem ii_la_law_558 : sm_D code 558 1 559 (.ireturn) := ⟨by decide +kernel, rfl⟩
set_option maxRecDepth 100000 in
theorem ii_la_law_559 : sm_D code 559 3 562 (.iinc 20 1) := ⟨by decide +kernel, rfl⟩
set_option maxRecDepth 100000 in
theorem ii_la_law_562 : sm_D code 562 3 565 (.goto (-29)) := ⟨by decide +kernel, rfl⟩
set_option maxRecDepth 100000 in
theorem ii_la_law_565 : sm_D code 565 1 566 (.aload_n 1) := ⟨by decide +kernel, rfl⟩
set_option maxRecDepth 100000 in
theorem ii_la_law_566 : sm_D code 566 2 568 (.iload 11) := ⟨by decide +kernel, rfl⟩
set_option maxRecDepth 100000 in
theorem ii_la_law_568 : sm_D code 568 3 571 (.invokevirtual 111) := ⟨by decide +kernel, rfl⟩
set_option maxRecDepth 100000 in
theorem ii_la_law_571 : sm_D code 571 1 572 (.iconst 1) := ⟨by decide +kernel, rfl⟩
set_option maxRecDepth 100000 in
theorem ii_la_law_572 : sm_D code 572 3 575 (.if_icmp .ne 77) := ⟨by decide +kernel, rfl⟩
set_option maxRecDepth 100000 in
theorem ii_la_law_575 : sm_D code 575 1 576 (.aload_n 1) := ⟨by decide +kernel, rfl⟩
set_option maxRecDepth 100000 in
theorem ii_la_law_576 : sm_D code 576 1 577 (.iconst 5) := ⟨by decide +kernel, rfl⟩
set_option maxRecDepth 100000 in
theorem ii_la_law_577 : sm_D code 577 3 580 (.invokevirtual 96) := ⟨by decide +kernel, rfl⟩
set_option maxRecDepth 100000 in
theorem ii_la_law_580 : sm_D code 580 2 582 (.iload 15) := ⟨by decide +kernel, rfl⟩
set_option maxRecDepth 100000 in
theorem ii_la_law_582 : sm_D code 582 3 585 (.if_icmp .ne 67) := ⟨by decide +kernel, rfl⟩
set_option maxRecDepth 100000 in
theorem ii_la_law_585 : sm_D code 585 1 586 (.aload_n 1) := ⟨by decide +kernel, rfl⟩
set_option maxRecDepth 100000 in
theorem ii_la_law_586 : sm_D code 586 3 589 (.invokevirtual 70) := ⟨by decide +kernel, rfl⟩
set_option maxRecDepth 100000 in
theorem ii_la_law_589 : sm_D code 589 2 591 (.iload 13) := ⟨by decide +kernel, rfl⟩
set_option maxRecDepth 100000 in
theorem ii_la_law_591 : sm_D code 591 3 594 (.ifCond .ne 8) := ⟨by decide +kernel, rfl⟩
set_option maxRecDepth 100000 in
theorem ii_la_law_594 : sm_D code 594 2 596 (.bipush (-4)) := ⟨by decide +kernel, rfl⟩
set_option maxRecDepth 100000 in
theorem ii_la_law_596 : sm_D code 596 3 599 (.goto 5) := ⟨by decide +kernel, rfl⟩
set_option maxRecDepth 100000 in
theorem ii_la_law_599 : sm_D code 599 2 601 (.iload 13) := ⟨by decide +kernel, rfl⟩
set_option maxRecDepth 100000 in
theorem ii_la_law_601 : sm_D code 601 3 604 (.if_icmp .ne 48) := ⟨by decide +kernel, rfl⟩
set_option maxRecDepth 100000 in
theorem ii_la_law_604 : sm_D code 604 2 606 (.iload 13) := ⟨by decide +kernel, rfl⟩
set_option maxRecDepth 100000 in
theorem ii_la_law_606 : sm_D code 606 3 609 (.ifCond .le 45) := ⟨by decide +kernel, rfl⟩
set_option maxRecDepth 100000 in
theorem ii_la_law_609 : sm_D code 609 1 610 (.aload_n 1) := ⟨by decide +kernel, rfl⟩
set_option maxRecDepth 100000 in
theorem ii_la_law_610 : sm_D code 610 1 611 (.iconst 3) := ⟨by decide +kernel, rfl⟩
set_option maxRecDepth 100000 in
theorem ii_la_law_611 : sm_D code 611 3 614 (.invokevirtual 96) := ⟨by decide +kernel, rfl⟩
set_option maxRecDepth 100000 in
theorem ii_la_law_614 : sm_D code 614 3 617 (.ifCond .ne 35) := ⟨by decide +kernel, rfl⟩
set_option maxRecDepth 100000 in
theorem ii_la_law_617 : sm_D code 617 1 618 (.aload_n 1) := ⟨by decide +kernel, rfl⟩
set_option maxRecDepth 100000 in
theorem ii_la_law_618 : sm_D code 618 1 619 (.iconst 4) := ⟨by decide +kernel, rfl⟩
set_option maxRecDepth 100000 in
theorem ii_la_law_619 : sm_D code 619 3 622 (.invokevirtual 96) := ⟨by decide +kernel, rfl⟩
set_option maxRecDepth 100000 in
theorem ii_la_law_622 : sm_D code 622 2 624 (.iload 14) := ⟨by decide +kernel, rfl⟩
set_option maxRecDepth 100000 in
theorem ii_la_law_624 : sm_D code 624 1 625 (.iconst 1) := ⟨by decide +kernel, rfl⟩
set_option maxRecDepth 100000 in
theorem ii_la_law_625 : sm_D code 625 1 626 (.iadd) := ⟨by decide +kernel, rfl⟩
set_option maxRecDepth 100000 in
theorem ii_la_law_626 : sm_D code 626 3 629 (.if_icmp .ne 23) := ⟨by decide +kernel, rfl⟩
set_option maxRecDepth 100000 in
theorem ii_la_law_629 : sm_D code 629 1 630 (.aload_n 1) := ⟨by decide +kernel, rfl⟩
set_option maxRecDepth 100000 in
theorem ii_la_law_630 : sm_D code 630 2 632 (.iload 11) := ⟨by decide +kernel, rfl⟩
set_option maxRecDepth 100000 in
theorem ii_la_law_632 : sm_D code 632 3 635 (.invokevirtual 111) := ⟨by decide +kernel, rfl⟩
set_option maxRecDepth 100000 in
theorem ii_la_law_635 : sm_D code 635 1 636 (.iconst 1) := ⟨by decide +kernel, rfl⟩
set_option maxRecDepth 100000 in
theorem ii_la_law_636 : sm_D code 636 3 639 (.if_icmp .ne 13) := ⟨by decide +kernel, rfl⟩
set_option maxRecDepth 100000 in
theorem ii_la_law_639 : sm_D code 639 1 640 (.aload_n 1) := ⟨by decide +kernel, rfl⟩
set_option maxRecDepth 100000 in
theorem ii_la_law_640 : sm_D code 640 1 641 (.iconst 3) := ⟨by decide +kernel, rfl⟩
set_option maxRecDepth 100000 in
theorem ii_la_law_641 : sm_D code 641 3 644 (.invokevirtual 96) := ⟨by decide +kernel, rfl⟩
set_option maxRecDepth 100000 in
theorem ii_la_law_644 : sm_D code 644 2 646 (.iload 13) := ⟨by decide +kernel, rfl⟩
set_option maxRecDepth 100000 in
theorem ii_la_law_646 : sm_D code 646 3 649 (.if_icmp .eq 5) := ⟨by decide +kernel, rfl⟩
set_option maxRecDepth 100000 in
theorem ii_la_law_649 : sm_D code 649 1 650 (.iconst 0) := ⟨by decide +kernel, rfl⟩
set_option maxRecDepth 100000 in
theorem ii_la_law_650 : sm_D code 650 1 651 (.ireturn) := ⟨by decide +kernel, rfl⟩
set_option maxRecDepth 100000 in
theorem ii_la_law_651 : sm_D code 651 2 653 (.iload 10) := ⟨by decide +kernel, rfl⟩
set_option maxRecDepth 100000 in
theorem ii_la_law_653 : sm_D code 653 1 654 (.iconst 5) := ⟨by decide +kernel, rfl⟩
set_option maxRecDepth 100000 in
theorem ii_la_law_654 : sm_D code 654 3 657 (.invokestatic 15) := ⟨by decide +kernel, rfl⟩
set_option maxRecDepth 100000 in
theorem ii_la_law_657 : sm_D code 657 2 659 (.istore 20) := ⟨by decide +kernel, rfl⟩
set_option maxRecDepth 100000 in
theorem ii_la_law_659 : sm_D code 659 1 660 (.aload_n 1) := ⟨by decide +kernel, rfl⟩
set_option maxRecDepth 100000 in
theorem ii_la_law_660 : sm_D code 660 1 661 (.iconst 0) := ⟨by decide +kernel, rfl⟩
set_option maxRecDepth 100000 in
theorem ii_la_law_661 : sm_D code 661 2 663 (.iload 20) := ⟨by decide +kernel, rfl⟩
set_option maxRecDepth 100000 in
theorem ii_la_law_663 : sm_D code 663 3 666 (.invokevirtual 114) := ⟨by decide +kernel, rfl⟩
set_option maxRecDepth 100000 in
theorem ii_la_law_666 : sm_D code 666 2 668 (.iload 20) := ⟨by decide +kernel, rfl⟩
set_option maxRecDepth 100000 in
theorem ii_la_law_668 : sm_D code 668 3 671 (.if_icmp .eq 5) := ⟨by decide +kernel, rfl⟩
set_option maxRecDepth 100000 in
theorem ii_la_law_671 : sm_D code 671 1 672 (.iconst 0) := ⟨by decide +kernel, rfl⟩
set_option maxRecDepth 100000 in
theorem ii_la_law_672 : sm_D code 672 1 673 (.ireturn) := ⟨by decide +kernel, rfl⟩
set_option maxRecDepth 100000 in
theorem ii_la_law_673 : sm_D code 673 1 674 (.iconst 0) := ⟨by decide +kernel, rfl⟩
set_option maxRecDepth 100000 in
theorem ii_la_law_674 : sm_D code 674 2 676 (.istore 21) := ⟨by decide +kernel, rfl⟩
set_option maxRecDepth 100000 in
theorem ii_la_law_676 : sm_D code 676 2 678 (.iload 21) := ⟨by decide +kernel, rfl⟩
set_option maxRecDepth 100000 in
theorem ii_la_law_678 : sm_D code 678 2 680 (.iload 20) := ⟨by decide +kernel, rfl⟩
set_option maxRecDepth 100000 in
theorem ii_la_law_680 : sm_D code 680 3 683 (.if_icmp .ge 51) := ⟨by decide +kernel, rfl⟩
set_option maxRecDepth 100000 in
theorem ii_la_law_683 : sm_D code 683 2 685 (.aload 4) := ⟨by decide +kernel, rfl⟩
set_option maxRecDepth 100000 in
theorem ii_la_law_685 : sm_D code 685 2 687 (.iload 21) := ⟨by decide +kernel, rfl⟩
set_option maxRecDepth 100000 in
theorem ii_la_law_687 : sm_D code 687 1 688 (.aload_n 0) := ⟨by decide +kernel, rfl⟩
set_option maxRecDepth 100000 in
theorem ii_la_law_688 : sm_D code 688 2 690 (.bipush 13) := ⟨by decide +kernel, rfl⟩
set_option maxRecDepth 100000 in
theorem ii_la_law_690 : sm_D code 690 2 692 (.iload 9) := ⟨by decide +kernel, rfl⟩
set_option maxRecDepth 100000 in
theorem ii_la_law_692 : sm_D code 692 1 693 (.iadd) := ⟨by decide +kernel, rfl⟩
set_option maxRecDepth 100000 in
theorem ii_la_law_693 : sm_D code 693 3 696 (.invokestatic 9) := ⟨by decide +kernel, rfl⟩
set_option maxRecDepth 100000 in
theorem ii_la_law_696 : sm_D code 696 1 697 (.iconst 5) := ⟨by decide +kernel, rfl⟩
set_option maxRecDepth 100000 in
theorem ii_la_law_697 : sm_D code 697 2 699 (.iload 21) := ⟨by decide +kernel, rfl⟩
set_option maxRecDepth 100000 in
theorem ii_la_law_699 : sm_D code 699 1 700 (.imul) := ⟨by decide +kernel, rfl⟩
set_option maxRecDepth 100000 in
theorem ii_la_law_700 : sm_D code 700 1 701 (.ishr) := ⟨by decide +kernel, rfl⟩
set_option maxRecDepth 100000 in
theorem ii_la_law_701 : sm_D code 701 2 703 (.bipush 6) := ⟨by decide +kernel, rfl⟩
set_option maxRecDepth 100000 in
theorem ii_la_law_703 : sm_D code 703 3 706 (.invokestatic 15) := ⟨by decide +kernel, rfl⟩
set_option maxRecDepth 100000 in
theorem ii_la_law_706 : sm_D code 706 1 707 (.iastore) := ⟨by decide +kernel, rfl⟩
set_option maxRecDepth 100000 in
theorem ii_la_law_707 : sm_D code 707 1 708 (.aload_n 1) := ⟨by decide +kernel, rfl⟩
set_option maxRecDepth 100000 in
theorem ii_la_law_708 : sm_D code 708 1 709 (.iconst 0) := ⟨by decide +kernel, rfl⟩
set_option maxRecDepth 100000 in
theorem ii_la_law_709 : sm_D code 709 2 711 (.iload 21) := ⟨by decide +kernel, rfl⟩
set_option maxRecDepth 100000 in
theorem ii_la_law_711 : sm_D code 711 2 713 (.aload 4) := ⟨by decide +kernel, rfl⟩
set_option maxRecDepth 100000 in
theorem ii_la_law_713 : sm_D code 713 2 715 (.iload 21) := ⟨by decide +kernel, rfl⟩
set_option maxRecDepth 100000 in
theorem ii_la_law_715 : sm_D code 715 1 716 (.iaload) := ⟨by decide +kernel, rfl⟩
set_option maxRecDepth 100000 in
theorem ii_la_law_716 : sm_D code 716 3 719 (.invokevirtual 117) := ⟨by decide +kernel, rfl⟩
set_option maxRecDepth 100000 in
theorem ii_la_law_719 : sm_D code 719 1 720 (.iconst 1) := ⟨by decide +kernel, rfl⟩
set_option maxRecDepth 100000 in
theorem ii_la_law_720 : sm_D code 720 3 723 (.if_icmp .eq 5) := ⟨by decide +kernel, rfl⟩
set_option maxRecDepth 100000 in
theorem ii_la_law_723 : sm_D code 723 1 724 (.iconst 0) := ⟨by decide +kernel, rfl⟩
set_option maxRecDepth 100000 in
theorem ii_la_law_724 : sm_D code 724 1 725 (.ireturn) := ⟨by decide +kernel, rfl⟩
set_option maxRecDepth 100000 in
theorem ii_la_law_725 : sm_D code 725 3 728 (.iinc 21 1) := ⟨by decide +kernel, rfl⟩
set_option maxRecDepth 100000 in
theorem ii_la_law_728 : sm_D code 728 3 731 (.goto (-52)) := ⟨by decide +kernel, rfl⟩
set_option maxRecDepth 100000 in
theorem ii_la_law_731 : sm_D code 731 1 732 (.aload_n 1) := ⟨by decide +kernel, rfl⟩
set_option maxRecDepth 100000 in
theorem ii_la_law_732 : sm_D code 732 1 733 (.iconst 0) := ⟨by decide +kernel, rfl⟩
set_option maxRecDepth 100000 in
theorem ii_la_law_733 : sm_D code 733 3 736 (.invokevirtual 120) := ⟨by decide +kernel, rfl⟩
set_option maxRecDepth 100000 in
theorem ii_la_law_736 : sm_D code 736 1 737 (.iconst 1) := ⟨by decide +kernel, rfl⟩
set_option maxRecDepth 100000 in
theorem ii_la_law_737 : sm_D code 737 3 740 (.if_icmp .ne 10) := ⟨by decide +kernel, rfl⟩
set_option maxRecDepth 100000 in
theorem ii_la_law_740 : sm_D code 740 1 741 (.aload_n 1) := ⟨by decide +kernel, rfl⟩
set_option maxRecDepth 100000 in
theorem ii_la_law_741 : sm_D code 741 3 744 (.invokevirtual 123) := ⟨by decide +kernel, rfl⟩
set_option maxRecDepth 100000 in
theorem ii_la_law_744 : sm_D code 744 3 747 (.goto 6) := ⟨by decide +kernel, rfl⟩
set_option maxRecDepth 100000 in
theorem ii_la_law_747 : sm_D code 747 3 750 (.ldc2_w 126) := ⟨by decide +kernel, rfl⟩
set_option maxRecDepth 100000 in
theorem ii_la_law_750 : sm_D code 750 2 752 (.lstore 21) := ⟨by decide +kernel, rfl⟩
set_option maxRecDepth 100000 in
theorem ii_la_law_752 : sm_D code 752 1 753 (.aload_n 1) := ⟨by decide +kernel, rfl⟩
set_option maxRecDepth 100000 in
theorem ii_la_law_753 : sm_D code 753 3 756 (.invokevirtual 78) := ⟨by decide +kernel, rfl⟩
set_option maxRecDepth 100000 in
theorem ii_la_law_756 : sm_D code 756 2 758 (.istore 23) := ⟨by decide +kernel, rfl⟩
set_option maxRecDepth 100000 in
theorem ii_la_law_758 : sm_D code 758 1 759 (.aload_n 1) := ⟨by decide +kernel, rfl⟩
set_option maxRecDepth 100000 in
theorem ii_la_law_759 : sm_D code 759 1 760 (.iconst 0) := ⟨by decide +kernel, rfl⟩
set_option maxRecDepth 100000 in
theorem ii_la_law_760 : sm_D code 760 3 763 (.invokevirtual 128) := ⟨by decide +kernel, rfl⟩
set_option maxRecDepth 100000 in
theorem ii_la_law_763 : sm_D code 763 2 765 (.istore 24) := ⟨by decide +kernel, rfl⟩
set_option maxRecDepth 100000 in
theorem ii_la_law_765 : sm_D code 765 1 766 (.aload_n 1) := ⟨by decide +kernel, rfl⟩
set_option maxRecDepth 100000 in
theorem ii_la_law_766 : sm_D code 766 3 769 (.invokevirtual 78) := ⟨by decide +kernel, rfl⟩
set_option maxRecDepth 100000 in
theorem ii_la_law_769 : sm_D code 769 2 771 (.istore 25) := ⟨by decide +kernel, rfl⟩
set_option maxRecDepth 100000 in
theorem ii_la_law_771 : sm_D code 771 1 772 (.aload_n 1) := ⟨by decide +kernel, rfl⟩
set_option maxRecDepth 100000 in
theorem ii_la_law_772 : sm_D code 772 1 773 (.iconst 0) := ⟨by decide +kernel, rfl⟩
set_option maxRecDepth 100000 in
theorem ii_la_law_773 : sm_D code 773 1 774 (.iconst 1) := ⟨by decide +kernel, rfl⟩
set_option maxRecDepth 100000 in
theorem ii_la_law_774 : sm_D code 774 3 777 (.invokevirtual 131) := ⟨by decide +kernel, rfl⟩
set_option maxRecDepth 100000 in
theorem ii_la_law_777 : sm_D code 777 2 779 (.istore 26) := ⟨by decide +kernel, rfl⟩
set_option maxRecDepth 100000 in
theorem ii_la_law_779 : sm_D code 779 2 781 (.lload 21) := ⟨by decide +kernel, rfl⟩
set_option maxRecDepth 100000 in
theorem ii_la_law_781 : sm_D code 781 1 782 (.lconst 0) := ⟨by decide +kernel, rfl⟩
set_option maxRecDepth 100000 in
theorem ii_la_law_782 : sm_D code 782 1 783 (.lcmp) := ⟨by decide +kernel, rfl⟩
set_option maxRecDepth 100000 in
theorem ii_la_law_783 : sm_D code 783 3 786 (.ifCond .lt 135) := ⟨by decide +kernel, rfl⟩
set_option maxRecDepth 100000 in
theorem ii_la_law_786 : sm_D code 786 2 788 (.iload 24) := ⟨by decide +kernel, rfl⟩
set_option maxRecDepth 100000 in
theorem ii_la_law_788 : sm_D code 788 3 791 (.ifCond .lt 130) := ⟨by decide +kernel, rfl⟩
set_option maxRecDepth 100000 in
theorem ii_la_law_791 : sm_D code 791 2 793 (.iload 24) := ⟨by decide +kernel, rfl⟩
set_option maxRecDepth 100000 in
theorem ii_la_law_793 : sm_D code 793 2 795 (.iload 20) := ⟨by decide +kernel, rfl⟩
set_option maxRecDepth 100000 in
theorem ii_la_law_795 : sm_D code 795 3 798 (.if_icmp .gt 123) := ⟨by decide +kernel, rfl⟩
set_option maxRecDepth 100000 in
theorem ii_la_law_798 : sm_D code 798 2 800 (.iload 25) := ⟨by decide +kernel, rfl⟩
set_option maxRecDepth 100000 in
theorem ii_la_law_800 : sm_D code 800 1 801 (.iconst 1) := ⟨by decide +kernel, rfl⟩
set_option maxRecDepth 100000 in
theorem ii_la_law_801 : sm_D code 801 3 804 (.if_icmp .lt 117) := ⟨by decide +kernel, rfl⟩
set_option maxRecDepth 100000 in
theorem ii_la_law_804 : sm_D code 804 2 806 (.lload 21) := ⟨by decide +kernel, rfl⟩
set_option maxRecDepth 100000 in
theorem ii_la_law_806 : sm_D code 806 1 807 (.lconst 0) := ⟨by decide +kernel, rfl⟩
set_option maxRecDepth 100000 in
theorem ii_la_law_807 : sm_D code 807 1 808 (.lcmp) := ⟨by decide +kernel, rfl⟩
set_option maxRecDepth 100000 in
theorem ii_la_law_808 : sm_D code 808 3 811 (.ifCond .le 7) := ⟨by decide +kernel, rfl⟩
set_option maxRecDepth 100000 in
theorem ii_la_law_811 : sm_D code 811 1 812 (.iconst 1) := ⟨by decide +kernel, rfl⟩
set_option maxRecDepth 100000 in
theorem ii_la_law_812 : sm_D code 812 3 815 (.goto 4) := ⟨by decide +kernel, rfl⟩
set_option maxRecDepth 100000 in
theorem ii_la_law_815 : sm_D code 815 1 816 (.iconst 0) := ⟨by decide +kernel, rfl⟩
set_option maxRecDepth 100000 in
theorem ii_la_law_816 : sm_D code 816 2 818 (.iload 24) := ⟨by decide +kernel, rfl⟩
set_option maxRecDepth 100000 in
theorem ii_la_law_818 : sm_D code 818 2 820 (.iload 20) := ⟨by decide +kernel, rfl⟩
set_option maxRecDepth 100000 in
theorem ii_la_law_820 : sm_D code 820 3 823 (.if_icmp .ne 7) := ⟨by decide +kernel, rfl⟩
set_option maxRecDepth 100000 in
theorem ii_la_law_823 : sm_D code 823 1 824 (.iconst 1) := ⟨by decide +kernel, rfl⟩
set_option maxRecDepth 100000 in
theorem ii_la_law_824 : sm_D code 824 3 827 (.goto 4) := ⟨by decide +kernel, rfl⟩
set_option maxRecDepth 100000 in
theorem ii_la_law_827 : sm_D code 827 1 828 (.iconst 0) := ⟨by decide +kernel, rfl⟩
set_option maxRecDepth 100000 in
theorem ii_la_law_828 : sm_D code 828 3 831 (.if_icmp .ne 90) := ⟨by decide +kernel, rfl⟩
set_option maxRecDepth 100000 in
theorem ii_la_law_831 : sm_D code 831 2 833 (.iload 24) := ⟨by decide +kernel, rfl⟩
set_option maxRecDepth 100000 in
theorem ii_la_law_833 : sm_D code 833 2 835 (.iload 20) := ⟨by decide +kernel, rfl⟩
set_option maxRecDepth 100000 in
theorem ii_la_law_835 : sm_D code 835 3 838 (.if_icmp .ne 12) := ⟨by decide +kernel, rfl⟩
set_option maxRecDepth 100000 in
theorem ii_la_law_838 : sm_D code 838 2 840 (.iload 25) := ⟨by decide +kernel, rfl⟩
set_option maxRecDepth 100000 in
theorem ii_la_law_840 : sm_D code 840 1 841 (.i2l) := ⟨by decide +kernel, rfl⟩
set_option maxRecDepth 100000 in
theorem ii_la_law_841 : sm_D code 841 2 843 (.lload 21) := ⟨by decide +kernel, rfl⟩
set_option maxRecDepth 100000 in
theorem ii_la_law_843 : sm_D code 843 1 844 (.lcmp) := ⟨by decide +kernel, rfl⟩
set_option maxRecDepth 100000 in
theorem ii_la_law_844 : sm_D code 844 3 847 (.ifCond .ne 74) := ⟨by decide +kernel, rfl⟩
set_option maxRecDepth 100000 in
theorem ii_la_law_847 : sm_D code 847 2 849 (.iload 26) := ⟨by decide +kernel, rfl⟩
set_option maxRecDepth 100000 in
theorem ii_la_law_849 : sm_D code 849 3 852 (.ifCond .ge 7) := ⟨by decide +kernel, rfl⟩
set_option maxRecDepth 100000 in
theorem ii_la_law_852 : sm_D code 852 1 853 (.iconst 1) := ⟨by decide +kernel, rfl⟩
set_option maxRecDepth 100000 in
theorem ii_la_law_853 : sm_D code 853 3 856 (.goto 4) := ⟨by decide +kernel, rfl⟩
set_option maxRecDepth 100000 in
theorem ii_la_law_856 : sm_D code 856 1 857 (.iconst 0) := ⟨by decide +kernel, rfl⟩
set_option maxRecDepth 100000 in
theorem ii_la_law_857 : sm_D code 857 2 859 (.lload 21) := ⟨by decide +kernel, rfl⟩
set_option maxRecDepth 100000 in
theorem ii_la_law_859 : sm_D code 859 1 860 (.lconst 0) := ⟨by decide +kernel, rfl⟩
set_option maxRecDepth 100000 in
theorem ii_la_law_860 : sm_D code 860 1 861 (.lcmp) := ⟨by decide +kernel, rfl⟩
set_option maxRecDepth 100000 in
theorem ii_la_law_861 : sm_D code 861 3 864 (.ifCond .ne 7) := ⟨by decide +kernel, rfl⟩
set_option maxRecDepth 100000 in
theorem ii_la_law_864 : sm_D code 864 1 865 (.iconst 1) := ⟨by decide +kernel, rfl⟩
set_option maxRecDepth 100000 in
theorem ii_la_law_865 : sm_D code 865 3 868 (.goto 4) := ⟨by decide +kernel, rfl⟩
set_option maxRecDepth 100000 in
theorem ii_la_law_868 : sm_D code 868 1 869 (.iconst 0) := ⟨by decide +kernel, rfl⟩
set_option maxRecDepth 100000 in
theorem ii_la_law_869 : sm_D code 869 3 872 (.if_icmp .ne 49) := ⟨by decide +kernel, rfl⟩
set_option maxRecDepth 100000 in
theorem ii_la_law_872 : sm_D code 872 2 874 (.iload 26) := ⟨by decide +kernel, rfl⟩
set_option maxRecDepth 100000 in
theorem ii_la_law_874 : sm_D code 874 2 876 (.iload 20) := ⟨by decide +kernel, rfl⟩
set_option maxRecDepth 100000 in
theorem ii_la_law_876 : sm_D code 876 3 879 (.if_icmp .gt 42) := ⟨by decide +kernel, rfl⟩
set_option maxRecDepth 100000 in
theorem ii_la_law_879 : sm_D code 879 2 881 (.iload 26) := ⟨by decide +kernel, rfl⟩
set_option maxRecDepth 100000 in
theorem ii_la_law_881 : sm_D code 881 2 883 (.iload 5) := ⟨by decide +kernel, rfl⟩
set_option maxRecDepth 100000 in
theorem ii_la_law_883 : sm_D code 883 3 886 (.if_icmp .gt 35) := ⟨by decide +kernel, rfl⟩
set_option maxRecDepth 100000 in
theorem ii_la_law_886 : sm_D code 886 2 888 (.iload 23) := ⟨by decide +kernel, rfl⟩
set_option maxRecDepth 100000 in
theorem ii_la_law_888 : sm_D code 888 2 890 (.iload 6) := ⟨by decide +kernel, rfl⟩
set_option maxRecDepth 100000 in
theorem ii_la_law_890 : sm_D code 890 1 891 (.iconst (-1)) := ⟨by decide +kernel, rfl⟩
set_option maxRecDepth 100000 in
theorem ii_la_law_891 : sm_D code 891 1 892 (.ixor) := ⟨by decide +kernel, rfl⟩
set_option maxRecDepth 100000 in
theorem ii_la_law_892 : sm_D code 892 1 893 (.iand) := ⟨by decide +kernel, rfl⟩
set_option maxRecDepth 100000 in
theorem ii_la_law_893 : sm_D code 893 3 896 (.ifCond .ne 25) := ⟨by decide +kernel, rfl⟩
set_option maxRecDepth 100000 in
theorem ii_la_law_896 : sm_D code 896 2 898 (.lload 21) := ⟨by decide +kernel, rfl⟩
set_option maxRecDepth 100000 in
theorem ii_la_law_898 : sm_D code 898 1 899 (.lconst 0) := ⟨by decide +kernel, rfl⟩
set_option maxRecDepth 100000 in
theorem ii_la_law_899 : sm_D code 899 1 900 (.lcmp) := ⟨by decide +kernel, rfl⟩
set_option maxRecDepth 100000 in
theorem ii_la_law_900 : sm_D code 900 3 903 (.ifCond .ne 8) := ⟨by decide +kernel, rfl⟩
set_option maxRecDepth 100000 in
theorem ii_la_law_903 : sm_D code 903 2 905 (.iload 23) := ⟨by decide +kernel, rfl⟩
set_option maxRecDepth 100000 in
theorem ii_la_law_905 : sm_D code 905 3 908 (.ifCond .ne 13) := ⟨by decide +kernel, rfl⟩
set_option maxRecDepth 100000 in
theorem ii_la_law_908 : sm_D code 908 2 910 (.iload 23) := ⟨by decide +kernel, rfl⟩
set_option maxRecDepth 100000 in
theorem ii_la_law_910 : sm_D code 910 3 913 (.invokestatic 134) := ⟨by decide +kernel, rfl⟩
set_option maxRecDepth 100000 in
theorem ii_la_law_913 : sm_D code 913 2 915 (.iload 20) := ⟨by decide +kernel, rfl⟩
set_option maxRecDepth 100000 in
theorem ii_la_law_915 : sm_D code 915 3 918 (.if_icmp .le 5) := ⟨by decide +kernel, rfl⟩
set_option maxRecDepth 100000 in
theorem ii_la_law_918 : sm_D code 918 1 919 (.iconst 0) := ⟨by decide +kernel, rfl⟩
set_option maxRecDepth 100000 in
theorem ii_la_law_919 : sm_D code 919 1 920 (.ireturn) := ⟨by decide +kernel, rfl⟩
set_option maxRecDepth 100000 in
theorem ii_la_law_920 : sm_D code 920 2 922 (.lload 21) := ⟨by decide +kernel, rfl⟩
set_option maxRecDepth 100000 in
theorem ii_la_law_922 : sm_D code 922 1 923 (.lconst 0) := ⟨by decide +kernel, rfl⟩
set_option maxRecDepth 100000 in
theorem ii_la_law_923 : sm_D code 923 1 924 (.lcmp) := ⟨by decide +kernel, rfl⟩
set_option maxRecDepth 100000 in
theorem ii_la_law_924 : sm_D code 924 3 927 (.ifCond .le 138) := ⟨by decide +kernel, rfl⟩
set_option maxRecDepth 100000 in
theorem ii_la_law_927 : sm_D code 927 1 928 (.iconst 0) := ⟨by decide +kernel, rfl⟩
set_option maxRecDepth 100000 in
theorem ii_la_law_928 : sm_D code 928 2 930 (.istore 27) := ⟨by decide +kernel, rfl⟩
set_option maxRecDepth 100000 in
theorem ii_la_law_930 : sm_D code 930 1 931 (.iconst 0) := ⟨by decide +kernel, rfl⟩
set_option maxRecDepth 100000 in
theorem ii_la_law_931 : sm_D code 931 2 933 (.istore 28) := ⟨by decide +kernel, rfl⟩
set_option maxRecDepth 100000 in
theorem ii_la_law_933 : sm_D code 933 2 935 (.iload 28) := ⟨by decide +kernel, rfl⟩
set_option maxRecDepth 100000 in
theorem ii_la_law_935 : sm_D code 935 2 937 (.iload 20) := ⟨by decide +kernel, rfl⟩
set_option maxRecDepth 100000 in
theorem ii_la_law_937 : sm_D code 937 3 940 (.if_icmp .ge 75) := ⟨by decide +kernel, rfl⟩
set_option maxRecDepth 100000 in
theorem ii_la_law_940 : sm_D code 940 1 941 (.aload_n 1) := ⟨by decide +kernel, rfl⟩
set_option maxRecDepth 100000 in
theorem ii_la_law_941 : sm_D code 941 1 942 (.iconst 1) := ⟨by decide +kernel, rfl⟩
set_option maxRecDepth 100000 in
theorem ii_la_law_942 : sm_D code 942 2 944 (.iload 28) := ⟨by decide +kernel, rfl⟩
set_option maxRecDepth 100000 in
theorem ii_la_law_944 : sm_D code 944 3 947 (.invokevirtual 137) := ⟨by decide +kernel, rfl⟩
set_option maxRecDepth 100000 in
theorem ii_la_law_947 : sm_D code 947 1 948 (.iconst 1) := ⟨by decide +kernel, rfl⟩
set_option maxRecDepth 100000 in
theorem ii_la_law_948 : sm_D code 948 3 951 (.if_icmp .ne 10) := ⟨by decide +kernel, rfl⟩
set_option maxRecDepth 100000 in
theorem ii_la_law_951 : sm_D code 951 1 952 (.aload_n 1) := ⟨by decide +kernel, rfl⟩
set_option maxRecDepth 100000 in
theorem ii_la_law_952 : sm_D code 952 3 955 (.invokevirtual 78) := ⟨by decide +kernel, rfl⟩
set_option maxRecDepth 100000 in
theorem ii_la_law_955 : sm_D code 955 3 958 (.goto 5) := ⟨by decide +kernel, rfl⟩
set_option maxRecDepth 100000 in
theorem ii_la_law_958 : sm_D code 958 2 960 (.bipush (-99)) := ⟨by decide +kernel, rfl⟩
set_option maxRecDepth 100000 in
theorem ii_la_law_960 : sm_D code 960 2 962 (.istore 29) := ⟨by decide +kernel, rfl⟩
set_option maxRecDepth 100000 in
theorem ii_la_law_962 : sm_D code 962 2 964 (.iload 29) := ⟨by decide +kernel, rfl⟩
set_option maxRecDepth 100000 in
theorem ii_la_law_964 : sm_D code 964 3 967 (.ifCond .lt 31) := ⟨by decide +kernel, rfl⟩
set_option maxRecDepth 100000 in
theorem ii_la_law_967 : sm_D code 967 2 969 (.iload 29) := ⟨by decide +kernel, rfl⟩
set_option maxRecDepth 100000 in
theorem ii_la_law_969 : sm_D code 969 2 971 (.iload 5) := ⟨by decide +kernel, rfl⟩
set_option maxRecDepth 100000 in
theorem ii_la_law_971 : sm_D code 971 3 974 (.if_icmp .ge 24) := ⟨by decide +kernel, rfl⟩
set_option maxRecDepth 100000 in
theorem ii_la_law_974 : sm_D code 974 1 975 (.aload_n 1) := ⟨by decide +kernel, rfl⟩
set_option maxRecDepth 100000 in
theorem ii_la_law_975 : sm_D code 975 2 977 (.iload 29) := ⟨by decide +kernel, rfl⟩
set_option maxRecDepth 100000 in
theorem ii_la_law_977 : sm_D code 977 2 979 (.aload 4) := ⟨by decide +kernel, rfl⟩
set_option maxRecDepth 100000 in
theorem ii_la_law_979 : sm_D code 979 2 981 (.iload 28) := ⟨by decide +kernel, rfl⟩
set_option maxRecDepth 100000 in
theorem ii_la_law_981 : sm_D code 981 1 982 (.iaload) := ⟨by decide +kernel, rfl⟩
set_option maxRecDepth 100000 in
theorem ii_la_law_982 : sm_D code 982 3 985 (.invokevirtual 58) := ⟨by decide +kernel, rfl⟩
set_option maxRecDepth 100000 in
theorem ii_la_law_985 : sm_D code 985 2 987 (.iload 13) := ⟨by decide +kernel, rfl⟩
set_option maxRecDepth 100000 in
theorem ii_la_law_987 : sm_D code 987 2 989 (.iload 28) := ⟨by decide +kernel, rfl⟩
set_option maxRecDepth 100000 in
theorem ii_la_law_989 : sm_D code 989 1 990 (.iadd) := ⟨by decide +kernel, rfl⟩
set_option maxRecDepth 100000 in
theorem ii_la_law_990 : sm_D code 990 1 991 (.iconst 1) := ⟨by decide +kernel, rfl⟩
set_option maxRecDepth 100000 in
theorem ii_la_law_991 : sm_D code 991 1 992 (.iadd) := ⟨by decide +kernel, rfl⟩
set_option maxRecDepth 100000 in
theorem ii_la_law_992 : sm_D code 992 3 995 (.if_icmp .eq 5) := ⟨by decide +kernel, rfl⟩
set_option maxRecDepth 100000 in
theorem ii_la_law_995 : sm_D code 995 1 996 (.iconst 0) := ⟨by decide +kernel, rfl⟩
set_option maxRecDepth 100000 in
theorem ii_la_law_996 : sm_D code 996 1 997 (.ireturn) := ⟨by decide +kernel, rfl⟩
set_option maxRecDepth 100000 in
theorem ii_la_law_997 : sm_D code 997 2 999 (.iload 27) := ⟨by decide +kernel, rfl⟩
set_option maxRecDepth 100000 in
theorem ii_la_law_999 : sm_D code 999 1 1000 (.iconst 1) := ⟨by decide +kernel, rfl⟩
set_option maxRecDepth 100000 in
theorem ii_la_law_1000 : sm_D code 1000 2 1002 (.iload 29) := ⟨by decide +kernel, rfl⟩
set_option maxRecDepth 100000 in
theorem ii_la_law_1002 : sm_D code 1002 1 1003 (.ishl) := ⟨by decide +kernel, rfl⟩
set_option maxRecDepth 100000 in
theorem ii_la_law_1003 : sm_D code 1003 1 1004 (.ior) := ⟨by decide +kernel, rfl⟩
set_option maxRecDepth 100000 in
theorem ii_la_law_1004 : sm_D code 1004 2 1006 (.istore 27) := ⟨by decide +kernel, rfl⟩
set_option maxRecDepth 100000 in
theorem ii_la_law_1006 : sm_D code 1006 3 1009 (.iinc 28 1) := ⟨by decide +kernel, rfl⟩
set_option maxRecDepth 100000 in
theorem ii_la_law_1009 : sm_D code 1009 3 1012 (.goto (-76)) := ⟨by decide +kernel, rfl⟩
set_option maxRecDepth 100000 in
theorem ii_la_law_1012 : sm_D code 1012 2 1014 (.iload 27) := ⟨by decide +kernel, rfl⟩
set_option maxRecDepth 100000 in
theorem ii_la_law_1014 : sm_D code 1014 3 1017 (.invokestatic 134) := ⟨by decide +kernel, rfl⟩
set_option maxRecDepth 100000 in
theorem ii_la_law_1017 : sm_D code 1017 2 1019 (.iload 26) := ⟨by decide +kernel, rfl⟩
set_option maxRecDepth 100000 in
theorem ii_la_law_1019 : sm_D code 1019 3 1022 (.if_icmp .ne 41) := ⟨by decide +kernel, rfl⟩
set_option maxRecDepth 100000 in
theorem ii_la_law_1022 : sm_D code 1022 2 1024 (.iload 23) := ⟨by decide +kernel, rfl⟩
set_option maxRecDepth 100000 in
theorem ii_la_law_1024 : sm_D code 1024 2 1026 (.iload 27) := ⟨by decide +kernel, rfl⟩
set_option maxRecDepth 100000 in
theorem ii_la_law_1026 : sm_D code 1026 1 1027 (.iconst (-1)) := ⟨by decide +kernel, rfl⟩
set_option maxRecDepth 100000 in
theorem ii_la_law_1027 : sm_D code 1027 1 1028 (.ixor) := ⟨by decide +kernel, rfl⟩
set_option maxRecDepth 100000 in
theorem ii_la_law_1028 : sm_D code 1028 1 1029 (.iand) := ⟨by decide +kernel, rfl⟩
set_option maxRecDepth 100000 in
theorem ii_la_law_1029 : sm_D code 1029 3 1032 (.ifCond .ne 31) := ⟨by decide +kernel, rfl⟩
set_option maxRecDepth 100000 in
theorem ii_la_law_1032 : sm_D code 1032 1 1033 (.aload_n 1) := ⟨by decide +kernel, rfl⟩
set_option maxRecDepth 100000 in
theorem ii_la_law_1033 : sm_D code 1033 1 1034 (.iconst 1) := ⟨by decide +kernel, rfl⟩
set_option maxRecDepth 100000 in
theorem ii_la_law_1034 : sm_D code 1034 2 1036 (.iload 20) := ⟨by decide +kernel, rfl⟩
set_option maxRecDepth 100000 in
theorem ii_la_law_1036 : sm_D code 1036 3 1039 (.invokevirtual 137) := ⟨by decide +kernel, rfl⟩
set_option maxRecDepth 100000 in
theorem ii_la_law_1039 : sm_D code 1039 2 1041 (.bipush (-3)) := ⟨by decide +kernel, rfl⟩
set_option maxRecDepth 100000 in
theorem ii_la_law_1041 : sm_D code 1041 3 1044 (.if_icmp .ne 19) := ⟨by decide +kernel, rfl⟩
set_option maxRecDepth 100000 in
theorem ii_la_law_1044 : sm_D code 1044 2 1046 (.iload 20) := ⟨by decide +kernel, rfl⟩
set_option maxRecDepth 100000 in
theorem ii_la_law_1046 : sm_D code 1046 3 1049 (.ifCond .le 16) := ⟨by decide +kernel, rfl⟩
set_option maxRecDepth 100000 in
theorem ii_la_law_1049 : sm_D code 1049 1 1050 (.aload_n 1) := ⟨by decide +kernel, rfl⟩
set_option maxRecDepth 100000 in
theorem ii_la_law_1050 : sm_D code 1050 2 1052 (.iload 11) := ⟨by decide +kernel, rfl⟩
set_option maxRecDepth 100000 in
theorem ii_la_law_1052 : sm_D code 1052 3 1055 (.invokevirtual 111) := ⟨by decide +kernel, rfl⟩
set_option maxRecDepth 100000 in
theorem ii_la_law_1055 : sm_D code 1055 2 1057 (.iload 20) := ⟨by decide +kernel, rfl⟩
set_option maxRecDepth 100000 in
theorem ii_la_law_1057 : sm_D code 1057 3 1060 (.if_icmp .eq 5) := ⟨by decide +kernel, rfl⟩
set_option maxRecDepth 100000 in
theorem ii_la_law_1060 : sm_D code 1060 1 1061 (.iconst 0) := ⟨by decide +kernel, rfl⟩
set_option maxRecDepth 100000 in
theorem ii_la_law_1061 : sm_D code 1061 1 1062 (.ireturn) := ⟨by decide +kernel, rfl⟩
set_option maxRecDepth 100000 in
theorem ii_la_law_1062 : sm_D code 1062 1 1063 (.aload_n 1) := ⟨by decide +kernel, rfl⟩
set_option maxRecDepth 100000 in
theorem ii_la_law_1063 : sm_D code 1063 1 1064 (.iconst 2) := ⟨by decide +kernel, rfl⟩
set_option maxRecDepth 100000 in
theorem ii_la_law_1064 : sm_D code 1064 2 1066 (.iload 24) := ⟨by decide +kernel, rfl⟩
set_option maxRecDepth 100000 in
theorem ii_la_law_1066 : sm_D code 1066 3 1069 (.invokevirtual 114) := ⟨by decide +kernel, rfl⟩
set_option maxRecDepth 100000 in
theorem ii_la_law_1069 : sm_D code 1069 2 1071 (.iload 24) := ⟨by decide +kernel, rfl⟩
set_option maxRecDepth 100000 in
theorem ii_la_law_1071 : sm_D code 1071 3 1074 (.if_icmp .eq 5) := ⟨by decide +kernel, rfl⟩
set_option maxRecDepth 100000 in
theorem ii_la_law_1074 : sm_D code 1074 1 1075 (.iconst 0) := ⟨by decide +kernel, rfl⟩
set_option maxRecDepth 100000 in
theorem ii_la_law_1075 : sm_D code 1075 1 1076 (.ireturn) := ⟨by decide +kernel, rfl⟩
set_option maxRecDepth 100000 in
theorem ii_la_law_1076 : sm_D code 1076 1 1077 (.iconst 0) := ⟨by decide +kernel, rfl⟩
set_option maxRecDepth 100000 in
theorem ii_la_law_1077 : sm_D code 1077 2 1079 (.istore 27) := ⟨by decide +kernel, rfl⟩
set_option maxRecDepth 100000 in
theorem ii_la_law_1079 : sm_D code 1079 2 1081 (.iload 27) := ⟨by decide +kernel, rfl⟩
set_option maxRecDepth 100000 in
theorem ii_la_law_1081 : sm_D code 1081 2 1083 (.iload 24) := ⟨by decide +kernel, rfl⟩
set_option maxRecDepth 100000 in
theorem ii_la_law_1083 : sm_D code 1083 3 1086 (.if_icmp .ge 27) := ⟨by decide +kernel, rfl⟩
set_option maxRecDepth 100000 in
theorem ii_la_law_1086 : sm_D code 1086 1 1087 (.aload_n 1) := ⟨by decide +kernel, rfl⟩
set_option maxRecDepth 100000 in
theorem ii_la_law_1087 : sm_D code 1087 1 1088 (.iconst 2) := ⟨by decide +kernel, rfl⟩
set_option maxRecDepth 100000 in
theorem ii_la_law_1088 : sm_D code 1088 2 1090 (.iload 27) := ⟨by decide +kernel, rfl⟩
set_option maxRecDepth 100000 in
theorem ii_la_law_1090 : sm_D code 1090 2 1092 (.aload 4) := ⟨by decide +kernel, rfl⟩
set_option maxRecDepth 100000 in
theorem ii_la_law_1092 : sm_D code 1092 2 1094 (.iload 27) := ⟨by decide +kernel, rfl⟩
set_option maxRecDepth 100000 in
theorem ii_la_law_1094 : sm_D code 1094 1 1095 (.iaload) := ⟨by decide +kernel, rfl⟩
set_option maxRecDepth 100000 in
theorem ii_la_law_1095 : sm_D code 1095 3 1098 (.invokevirtual 117) := ⟨by decide +kernel, rfl⟩
set_option maxRecDepth 100000 in
theorem ii_la_law_1098 : sm_D code 1098 1 1099 (.iconst 1) := ⟨by decide +kernel, rfl⟩
set_option maxRecDepth 100000 in
theorem ii_la_law_1099 : sm_D code 1099 3 1102 (.if_icmp .eq 5) := ⟨by decide +kernel, rfl⟩
set_option maxRecDepth 100000 in
theorem ii_la_law_1102 : sm_D code 1102 1 1103 (.iconst 0) := ⟨by decide +kernel, rfl⟩
set_option maxRecDepth 100000 in
theorem ii_la_law_1103 : sm_D code 1103 1 1104 (.ireturn) := ⟨by decide +kernel, rfl⟩
set_option maxRecDepth 100000 in
theorem ii_la_law_1104 : sm_D code 1104 3 1107 (.iinc 27 1) := ⟨by decide +kernel, rfl⟩
set_option maxRecDepth 100000 in
theorem ii_la_law_1107 : sm_D code 1107 3 1110 (.goto (-28)) := ⟨by decide +kernel, rfl⟩
set_option maxRecDepth 100000 in
theorem ii_la_law_1110 : sm_D code 1110 1 1111 (.aload_n 1) := ⟨by decide +kernel, rfl⟩
set_option maxRecDepth 100000 in
theorem ii_la_law_1111 : sm_D code 1111 1 1112 (.iconst 2) := ⟨by decide +kernel, rfl⟩
set_option maxRecDepth 100000 in
theorem ii_la_law_1112 : sm_D code 1112 3 1115 (.invokevirtual 120) := ⟨by decide +kernel, rfl⟩
set_option maxRecDepth 100000 in
theorem ii_la_law_1115 : sm_D code 1115 1 1116 (.iconst 1) := ⟨by decide +kernel, rfl⟩
set_option maxRecDepth 100000 in
theorem ii_la_law_1116 : sm_D code 1116 3 1119 (.if_icmp .ne 68) := ⟨by decide +kernel, rfl⟩
set_option maxRecDepth 100000 in
theorem ii_la_law_1119 : sm_D code 1119 1 1120 (.aload_n 1) := ⟨by decide +kernel, rfl⟩
set_option maxRecDepth 100000 in
theorem ii_la_law_1120 : sm_D code 1120 3 1123 (.invokevirtual 123) := ⟨by decide +kernel, rfl⟩
set_option maxRecDepth 100000 in
theorem ii_la_law_1123 : sm_D code 1123 2 1125 (.iload 25) := ⟨by decide +kernel, rfl⟩
set_option maxRecDepth 100000 in
theorem ii_la_law_1125 : sm_D code 1125 1 1126 (.i2l) := ⟨by decide +kernel, rfl⟩
set_option maxRecDepth 100000 in
theorem ii_la_law_1126 : sm_D code 1126 1 1127 (.lcmp) := ⟨by decide +kernel, rfl⟩
set_option maxRecDepth 100000 in
theorem ii_la_law_1127 : sm_D code 1127 3 1130 (.ifCond .ne 57) := ⟨by decide +kernel, rfl⟩
set_option maxRecDepth 100000 in
theorem ii_la_law_1130 : sm_D code 1130 2 1132 (.iload 24) := ⟨by decide +kernel, rfl⟩
set_option maxRecDepth 100000 in
theorem ii_la_law_1132 : sm_D code 1132 2 1134 (.iload 20) := ⟨by decide +kernel, rfl⟩
set_option maxRecDepth 100000 in
theorem ii_la_law_1134 : sm_D code 1134 3 1137 (.if_icmp .ge 52) := ⟨by decide +kernel, rfl⟩
set_option maxRecDepth 100000 in
theorem ii_la_law_1137 : sm_D code 1137 1 1138 (.aload_n 1) := ⟨by decide +kernel, rfl⟩
set_option maxRecDepth 100000 in
theorem ii_la_law_1138 : sm_D code 1138 1 1139 (.iconst 2) := ⟨by decide +kernel, rfl⟩
set_option maxRecDepth 100000 in
theorem ii_la_law_1139 : sm_D code 1139 2 1141 (.iload 24) := ⟨by decide +kernel, rfl⟩
set_option maxRecDepth 100000 in
theorem ii_la_law_1141 : sm_D code 1141 1 1142 (.iconst 1) := ⟨by decide +kernel, rfl⟩
set_option maxRecDepth 100000 in
theorem ii_la_law_1142 : sm_D code 1142 1 1143 (.iadd) := ⟨by decide +kernel, rfl⟩
set_option maxRecDepth 100000 in
theorem ii_la_law_1143 : sm_D code 1143 3 1146 (.invokevirtual 114) := ⟨by decide +kernel, rfl⟩
set_option maxRecDepth 100000 in
theorem ii_la_law_1146 : sm_D code 1146 2 1148 (.iload 24) := ⟨by decide +kernel, rfl⟩
set_option maxRecDepth 100000 in
theorem ii_la_law_1148 : sm_D code 1148 1 1149 (.iconst 1) := ⟨by decide +kernel, rfl⟩
set_option maxRecDepth 100000 in
theorem ii_la_law_1149 : sm_D code 1149 1 1150 (.iadd) := ⟨by decide +kernel, rfl⟩
set_option maxRecDepth 100000 in
theorem ii_la_law_1150 : sm_D code 1150 3 1153 (.if_icmp .ne 34) := ⟨by decide +kernel, rfl⟩
set_option maxRecDepth 100000 in
theorem ii_la_law_1153 : sm_D code 1153 1 1154 (.aload_n 1) := ⟨by decide +kernel, rfl⟩
set_option maxRecDepth 100000 in
theorem ii_la_law_1154 : sm_D code 1154 2 1156 (.aload 4) := ⟨by decide +kernel, rfl⟩
set_option maxRecDepth 100000 in
theorem ii_la_law_1156 : sm_D code 1156 2 1158 (.iload 24) := ⟨by decide +kernel, rfl⟩
set_option maxRecDepth 100000 in
theorem ii_la_law_1158 : sm_D code 1158 1 1159 (.iconst 1) := ⟨by decide +kernel, rfl⟩
set_option maxRecDepth 100000 in
theorem ii_la_law_1159 : sm_D code 1159 1 1160 (.iadd) := ⟨by decide +kernel, rfl⟩
set_option maxRecDepth 100000 in
theorem ii_la_law_1160 : sm_D code 1160 3 1163 (.invokestatic 140) := ⟨by decide +kernel, rfl⟩
set_option maxRecDepth 100000 in
theorem ii_la_law_1163 : sm_D code 1163 3 1166 (.ifCond .eq 21) := ⟨by decide +kernel, rfl⟩
set_option maxRecDepth 100000 in
theorem ii_la_law_1166 : sm_D code 1166 1 1167 (.aload_n 1) := ⟨by decide +kernel, rfl⟩
set_option maxRecDepth 100000 in
theorem ii_la_law_1167 : sm_D code 1167 1 1168 (.iconst 2) := ⟨by decide +kernel, rfl⟩
set_option maxRecDepth 100000 in
theorem ii_la_law_1168 : sm_D code 1168 3 1171 (.invokevirtual 120) := ⟨by decide +kernel, rfl⟩
set_option maxRecDepth 100000 in
theorem ii_la_law_1171 : sm_D code 1171 1 1172 (.iconst 1) := ⟨by decide +kernel, rfl⟩
set_option maxRecDepth 100000 in
theorem ii_la_law_1172 : sm_D code 1172 3 1175 (.if_icmp .ne 12) := ⟨by decide +kernel, rfl⟩
set_option maxRecDepth 100000 in
theorem ii_la_law_1175 : sm_D code 1175 1 1176 (.aload_n 1) := ⟨by decide +kernel, rfl⟩
set_option maxRecDepth 100000 in
theorem ii_la_law_1176 : sm_D code 1176 3 1179 (.invokevirtual 123) := ⟨by decide +kernel, rfl⟩
set_option maxRecDepth 100000 in
theorem ii_la_law_1179 : sm_D code 1179 1 1180 (.lconst 0) := ⟨by decide +kernel, rfl⟩
set_option maxRecDepth 100000 in
theorem ii_la_law_1180 : sm_D code 1180 1 1181 (.lcmp) := ⟨by decide +kernel, rfl⟩
set_option maxRecDepth 100000 in
theorem ii_la_law_1181 : sm_D code 1181 3 1184 (.ifCond .eq 5) := ⟨by decide +kernel, rfl⟩
set_option maxRecDepth 100000 in
theorem ii_la_law_1184 : sm_D code 1184 1 1185 (.iconst 0) := ⟨by decide +kernel, rfl⟩
set_option maxRecDepth 100000 in
theorem ii_la_law_1185 : sm_D code 1185 1 1186 (.ireturn) := ⟨by decide +kernel, rfl⟩
set_option maxRecDepth 100000 in
theorem ii_la_law_1186 : sm_D code 1186 1 1187 (.aload_n 1) := ⟨by decide +kernel, rfl⟩
set_option maxRecDepth 100000 in
theorem ii_la_law_1187 : sm_D code 1187 3 1190 (.invokevirtual 144) := ⟨by decide +kernel, rfl⟩
set_option maxRecDepth 100000 in
theorem ii_la_law_1190 : sm_D code 1190 2 1192 (.istore 27) := ⟨by decide +kernel, rfl⟩
set_option maxRecDepth 100000 in
theorem ii_la_law_1192 : sm_D code 1192 1 1193 (.aload_n 1) := ⟨by decide +kernel, rfl⟩
set_option maxRecDepth 100000 in
theorem ii_la_law_1193 : sm_D code 1193 3 1196 (.invokevirtual 78) := ⟨by decide +kernel, rfl⟩
set_option maxRecDepth 100000 in
theorem ii_la_law_1196 : sm_D code 1196 2 1198 (.istore 28) := ⟨by decide +kernel, rfl⟩
set_option maxRecDepth 100000 in
theorem ii_la_law_1198 : sm_D code 1198 2 1200 (.iload 27) := ⟨by decide +kernel, rfl⟩
set_option maxRecDepth 100000 in
theorem ii_la_law_1200 : sm_D code 1200 2 1202 (.bipush (-9)) := ⟨by decide +kernel, rfl⟩
set_option maxRecDepth 100000 in
theorem ii_la_law_1202 : sm_D code 1202 3 1205 (.if_icmp .lt 48) := ⟨by decide +kernel, rfl⟩
set_option maxRecDepth 100000 in
theorem ii_la_law_1205 : sm_D code 1205 2 1207 (.iload 27) := ⟨by decide +kernel, rfl⟩
set_option maxRecDepth 100000 in
theorem ii_la_law_1207 : sm_D code 1207 1 1208 (.iconst 3) := ⟨by decide +kernel, rfl⟩
set_option maxRecDepth 100000 in
theorem ii_la_law_1208 : sm_D code 1208 3 1211 (.if_icmp .gt 42) := ⟨by decide +kernel, rfl⟩
set_option maxRecDepth 100000 in
theorem ii_la_law_1211 : sm_D code 1211 2 1213 (.iload 27) := ⟨by decide +kernel, rfl⟩
set_option maxRecDepth 100000 in
theorem ii_la_law_1213 : sm_D code 1213 2 1215 (.bipush (-9)) := ⟨by decide +kernel, rfl⟩
set_option maxRecDepth 100000 in
theorem ii_la_law_1215 : sm_D code 1215 3 1218 (.if_icmp .le 9) := ⟨by decide +kernel, rfl⟩
set_option maxRecDepth 100000 in
theorem ii_la_law_1218 : sm_D code 1218 2 1220 (.iload 27) := ⟨by decide +kernel, rfl⟩
set_option maxRecDepth 100000 in
theorem ii_la_law_1220 : sm_D code 1220 1 1221 (.iconst 1) := ⟨by decide +kernel, rfl⟩
set_option maxRecDepth 100000 in
theorem ii_la_law_1221 : sm_D code 1221 3 1224 (.if_icmp .lt 29) := ⟨by decide +kernel, rfl⟩
set_option maxRecDepth 100000 in
theorem ii_la_law_1224 : sm_D code 1224 2 1226 (.iload 27) := ⟨by decide +kernel, rfl⟩
set_option maxRecDepth 100000 in
theorem ii_la_law_1226 : sm_D code 1226 1 1227 (.iconst 1) := ⟨by decide +kernel, rfl⟩
set_option maxRecDepth 100000 in
theorem ii_la_law_1227 : sm_D code 1227 3 1230 (.if_icmp .ne 7) := ⟨by decide +kernel, rfl⟩
set_option maxRecDepth 100000 in
theorem ii_la_law_1230 : sm_D code 1230 1 1231 (.iconst 1) := ⟨by decide +kernel, rfl⟩
set_option maxRecDepth 100000 in
theorem ii_la_law_1231 : sm_D code 1231 3 1234 (.goto 4) := ⟨by decide +kernel, rfl⟩
set_option maxRecDepth 100000 in
theorem ii_la_law_1234 : sm_D code 1234 1 1235 (.iconst 0) := ⟨by decide +kernel, rfl⟩
set_option maxRecDepth 100000 in
theorem ii_la_law_1235 : sm_D code 1235 2 1237 (.iload 16) := ⟨by decide +kernel, rfl⟩
set_option maxRecDepth 100000 in
theorem ii_la_law_1237 : sm_D code 1237 2 1239 (.bipush 63) := ⟨by decide +kernel, rfl⟩
set_option maxRecDepth 100000 in
theorem ii_la_law_1239 : sm_D code 1239 3 1242 (.if_icmp .eq 7) := ⟨by decide +kernel, rfl⟩
set_option maxRecDepth 100000 in
theorem ii_la_law_1242 : sm_D code 1242 1 1243 (.iconst 1) := ⟨by decide +kernel, rfl⟩
set_option maxRecDepth 100000 in
theorem ii_la_law_1243 : sm_D code 1243 3 1246 (.goto 4) := ⟨by decide +kernel, rfl⟩
set_option maxRecDepth 100000 in
theorem ii_la_law_1246 : sm_D code 1246 1 1247 (.iconst 0) := ⟨by decide +kernel, rfl⟩
set_option maxRecDepth 100000 in
theorem ii_la_law_1247 : sm_D code 1247 3 1250 (.if_icmp .eq 5) := ⟨by decide +kernel, rfl⟩
set_option maxRecDepth 100000 in
theorem ii_la_law_1250 : sm_D code 1250 1 1251 (.iconst 0) := ⟨by decide +kernel, rfl⟩
set_option maxRecDepth 100000 in
theorem ii_la_law_1251 : sm_D code 1251 1 1252 (.ireturn) := ⟨by decide +kernel, rfl⟩
set_option maxRecDepth 100000 in
theorem ii_la_law_1252 : sm_D code 1252 2 1254 (.iload 27) := ⟨by decide +kernel, rfl⟩
set_option maxRecDepth 100000 in
theorem ii_la_law_1254 : sm_D code 1254 3 1257 (.ifCond .le 94) := ⟨by decide +kernel, rfl⟩
set_option maxRecDepth 100000 in
theorem ii_la_law_1257 : sm_D code 1257 2 1259 (.iload 28) := ⟨by decide +kernel, rfl⟩
set_option maxRecDepth 100000 in
theorem ii_la_law_1259 : sm_D code 1259 2 1261 (.istore 29) := ⟨by decide +kernel, rfl⟩
set_option maxRecDepth 100000 in
theorem ii_la_law_1261 : sm_D code 1261 2 1263 (.iload 27) := ⟨by decide +kernel, rfl⟩
set_option maxRecDepth 100000 in
theorem ii_la_law_1263 : sm_D code 1263 1 1264 (.iconst 1) := ⟨by decide +kernel, rfl⟩
set_option maxRecDepth 100000 in
theorem ii_la_law_1264 : sm_D code 1264 1 1265 (.isub) := ⟨by decide +kernel, rfl⟩
set_option maxRecDepth 100000 in
theorem ii_la_law_1265 : sm_D code 1265 2 1267 (.istore 30) := ⟨by decide +kernel, rfl⟩
set_option maxRecDepth 100000 in
theorem ii_la_law_1267 : sm_D code 1267 2 1269 (.iload 30) := ⟨by decide +kernel, rfl⟩
set_option maxRecDepth 100000 in
theorem ii_la_law_1269 : sm_D code 1269 3 1272 (.ifCond .lt 26) := ⟨by decide +kernel, rfl⟩
set_option maxRecDepth 100000 in
theorem ii_la_law_1272 : sm_D code 1272 2 1274 (.aload 4) := ⟨by decide +kernel, rfl⟩
set_option maxRecDepth 100000 in
theorem ii_la_law_1274 : sm_D code 1274 2 1276 (.iload 30) := ⟨by decide +kernel, rfl⟩
set_option maxRecDepth 100000 in
theorem ii_la_law_1276 : sm_D code 1276 2 1278 (.iload 29) := ⟨by decide +kernel, rfl⟩
set_option maxRecDepth 100000 in
theorem ii_la_law_1278 : sm_D code 1278 2 1280 (.bipush 6) := ⟨by decide +kernel, rfl⟩
set_option maxRecDepth 100000 in
theorem ii_la_law_1280 : sm_D code 1280 1 1281 (.irem) := ⟨by decide +kernel, rfl⟩
set_option maxRecDepth 100000 in
theorem ii_la_law_1281 : sm_D code 1281 1 1282 (.iastore) := ⟨by decide +kernel, rfl⟩
set_option maxRecDepth 100000 in
theorem ii_la_law_1282 : sm_D code 1282 2 1284 (.iload 29) := ⟨by decide +kernel, rfl⟩
set_option maxRecDepth 100000 in
theorem ii_la_law_1284 : sm_D code 1284 2 1286 (.bipush 6) := ⟨by decide +kernel, rfl⟩
set_option maxRecDepth 100000 in
theorem ii_la_law_1286 : sm_D code 1286 1 1287 (.idiv) := ⟨by decide +kernel, rfl⟩
set_option maxRecDepth 100000 in
theorem ii_la_law_1287 : sm_D code 1287 2 1289 (.istore 29) := ⟨by decide +kernel, rfl⟩
set_option maxRecDepth 100000 in
theorem ii_la_law_1289 : sm_D code 1289 3 1292 (.iinc 30 (-1)) := ⟨by decide +kernel, rfl⟩
set_option maxRecDepth 100000 in
theorem ii_la_law_1292 : sm_D code 1292 3 1295 (.goto (-25)) := ⟨by decide +kernel, rfl⟩
set_option maxRecDepth 100000 in
theorem ii_la_law_1295 : sm_D code 1295 2 1297 (.iload 29) := ⟨by decide +kernel, rfl⟩
set_option maxRecDepth 100000 in
theorem ii_la_law_1297 : sm_D code 1297 3 1300 (.ifCond .ne 49) := ⟨by decide +kernel, rfl⟩
set_option maxRecDepth 100000 in
theorem ii_la_law_1300 : sm_D code 1300 2 1302 (.iload 28) := ⟨by decide +kernel, rfl⟩
set_option maxRecDepth 100000 in
theorem ii_la_law_1302 : sm_D code 1302 3 1305 (.ifCond .lt 44) := ⟨by decide +kernel, rfl⟩
set_option maxRecDepth 100000 in
theorem ii_la_law_1305 : sm_D code 1305 1 1306 (.aload_n 1) := ⟨by decide +kernel, rfl⟩
set_option maxRecDepth 100000 in
theorem ii_la_law_1306 : sm_D code 1306 1 1307 (.iconst 2) := ⟨by decide +kernel, rfl⟩
set_option maxRecDepth 100000 in
theorem ii_la_law_1307 : sm_D code 1307 2 1309 (.iload 27) := ⟨by decide +kernel, rfl⟩
set_option maxRecDepth 100000 in
theorem ii_la_law_1309 : sm_D code 1309 3 1312 (.invokevirtual 114) := ⟨by decide +kernel, rfl⟩
set_option maxRecDepth 100000 in
theorem ii_la_law_1312 : sm_D code 1312 2 1314 (.iload 27) := ⟨by decide +kernel, rfl⟩
set_option maxRecDepth 100000 in
theorem ii_la_law_1314 : sm_D code 1314 3 1317 (.if_icmp .ne 32) := ⟨by decide +kernel, rfl⟩
set_option maxRecDepth 100000 in
theorem ii_la_law_1317 : sm_D code 1317 1 1318 (.aload_n 1) := ⟨by decide +kernel, rfl⟩
set_option maxRecDepth 100000 in
theorem ii_la_law_1318 : sm_D code 1318 2 1320 (.aload 4) := ⟨by decide +kernel, rfl⟩
set_option maxRecDepth 100000 in
theorem ii_la_law_1320 : sm_D code 1320 2 1322 (.iload 27) := ⟨by decide +kernel, rfl⟩
set_option maxRecDepth 100000 in
theorem ii_la_law_1322 : sm_D code 1322 3 1325 (.invokestatic 140) := ⟨by decide +kernel, rfl⟩
set_option maxRecDepth 100000 in
theorem ii_la_law_1325 : sm_D code 1325 3 1328 (.ifCond .eq 21) := ⟨by decide +kernel, rfl⟩
set_option maxRecDepth 100000 in
theorem ii_la_law_1328 : sm_D code 1328 1 1329 (.aload_n 1) := ⟨by decide +kernel, rfl⟩
set_option maxRecDepth 100000 in
theorem ii_la_law_1329 : sm_D code 1329 1 1330 (.iconst 2) := ⟨by decide +kernel, rfl⟩
set_option maxRecDepth 100000 in
theorem ii_la_law_1330 : sm_D code 1330 3 1333 (.invokevirtual 120) := ⟨by decide +kernel, rfl⟩
set_option maxRecDepth 100000 in
theorem ii_la_law_1333 : sm_D code 1333 1 1334 (.iconst 1) := ⟨by decide +kernel, rfl⟩
set_option maxRecDepth 100000 in
theorem ii_la_law_1334 : sm_D code 1334 3 1337 (.if_icmp .ne 12) := ⟨by decide +kernel, rfl⟩
set_option maxRecDepth 100000 in
theorem ii_la_law_1337 : sm_D code 1337 1 1338 (.aload_n 1) := ⟨by decide +kernel, rfl⟩
set_option maxRecDepth 100000 in
theorem ii_la_law_1338 : sm_D code 1338 3 1341 (.invokevirtual 123) := ⟨by decide +kernel, rfl⟩
set_option maxRecDepth 100000 in
theorem ii_la_law_1341 : sm_D code 1341 1 1342 (.lconst 0) := ⟨by decide +kernel, rfl⟩
set_option maxRecDepth 100000 in
theorem ii_la_law_1342 : sm_D code 1342 1 1343 (.lcmp) := ⟨by decide +kernel, rfl⟩
set_option maxRecDepth 100000 in
theorem ii_la_law_1343 : sm_D code 1343 3 1346 (.ifCond .eq 5) := ⟨by decide +kernel, rfl⟩
set_option maxRecDepth 100000 in
theorem ii_la_law_1346 : sm_D code 1346 1 1347 (.iconst 0) := ⟨by decide +kernel, rfl⟩
set_option maxRecDepth 100000 in
theorem ii_la_law_1347 : sm_D code 1347 1 1348 (.ireturn) := ⟨by decide +kernel, rfl⟩
set_option maxRecDepth 100000 in
theorem ii_la_law_1348 : sm_D code 1348 2 1350 (.iload 9) := ⟨by decide +kernel, rfl⟩
set_option maxRecDepth 100000 in
theorem ii_la_law_1350 : sm_D code 1350 3 1353 (.ifCond .ne 103) := ⟨by decide +kernel, rfl⟩
set_option maxRecDepth 100000 in
theorem ii_la_law_1353 : sm_D code 1353 1 1354 (.aload_n 1) := ⟨by decide +kernel, rfl⟩
set_option maxRecDepth 100000 in
theorem ii_la_law_1354 : sm_D code 1354 1 1355 (.iconst 2) := ⟨by decide +kernel, rfl⟩
set_option maxRecDepth 100000 in
theorem ii_la_law_1355 : sm_D code 1355 3 1358 (.invokevirtual 147) := ⟨by decide +kernel, rfl⟩
set_option maxRecDepth 100000 in
theorem ii_la_law_1358 : sm_D code 1358 2 1360 (.istore 29) := ⟨by decide +kernel, rfl⟩
set_option maxRecDepth 100000 in
theorem ii_la_law_1360 : sm_D code 1360 2 1362 (.iload 29) := ⟨by decide +kernel, rfl⟩
set_option maxRecDepth 100000 in
theorem ii_la_law_1362 : sm_D code 1362 3 1365 (.ifCond .lt 89) := ⟨by decide +kernel, rfl⟩
set_option maxRecDepth 100000 in
theorem ii_la_law_1365 : sm_D code 1365 2 1367 (.iload 29) := ⟨by decide +kernel, rfl⟩
set_option maxRecDepth 100000 in
theorem ii_la_law_1367 : sm_D code 1367 1 1368 (.iconst 4) := ⟨by decide +kernel, rfl⟩
set_option maxRecDepth 100000 in
theorem ii_la_law_1368 : sm_D code 1368 3 1371 (.if_icmp .gt 83) := ⟨by decide +kernel, rfl⟩
set_option maxRecDepth 100000 in
theorem ii_la_law_1371 : sm_D code 1371 2 1373 (.iload 29) := ⟨by decide +kernel, rfl⟩
set_option maxRecDepth 100000 in
theorem ii_la_law_1373 : sm_D code 1373 3 1376 (.ifCond .ne 7) := ⟨by decide +kernel, rfl⟩
set_option maxRecDepth 100000 in
theorem ii_la_law_1376 : sm_D code 1376 1 1377 (.iconst 1) := ⟨by decide +kernel, rfl⟩
set_option maxRecDepth 100000 in
theorem ii_la_law_1377 : sm_D code 1377 3 1380 (.goto 4) := ⟨by decide +kernel, rfl⟩
set_option maxRecDepth 100000 in
theorem ii_la_law_1380 : sm_D code 1380 1 1381 (.iconst 0) := ⟨by decide +kernel, rfl⟩
set_option maxRecDepth 100000 in
theorem ii_la_law_1381 : sm_D code 1381 2 1383 (.iload 16) := ⟨by decide +kernel, rfl⟩
set_option maxRecDepth 100000 in
theorem ii_la_law_1383 : sm_D code 1383 3 1386 (.ifCond .ne 7) := ⟨by decide +kernel, rfl⟩
set_option maxRecDepth 100000 in
theorem ii_la_law_1386 : sm_D code 1386 1 1387 (.iconst 1) := ⟨by decide +kernel, rfl⟩
set_option maxRecDepth 100000 in
theorem ii_la_law_1387 : sm_D code 1387 3 1390 (.goto 4) := ⟨by decide +kernel, rfl⟩
set_option maxRecDepth 100000 in
theorem ii_la_law_1390 : sm_D code 1390 1 1391 (.iconst 0) := ⟨by decide +kernel, rfl⟩
set_option maxRecDepth 100000 in
theorem ii_la_law_1391 : sm_D code 1391 3 1394 (.if_icmp .ne 60) := ⟨by decide +kernel, rfl⟩
set_option maxRecDepth 100000 in
theorem ii_la_law_1394 : sm_D code 1394 2 1396 (.iload 27) := ⟨by decide +kernel, rfl⟩
set_option maxRecDepth 100000 in
theorem ii_la_law_1396 : sm_D code 1396 2 1398 (.bipush (-9)) := ⟨by decide +kernel, rfl⟩
set_option maxRecDepth 100000 in
theorem ii_la_law_1398 : sm_D code 1398 3 1401 (.if_icmp .ne 9) := ⟨by decide +kernel, rfl⟩
set_option maxRecDepth 100000 in
theorem ii_la_law_1401 : sm_D code 1401 2 1403 (.iload 29) := ⟨by decide +kernel, rfl⟩
set_option maxRecDepth 100000 in
theorem ii_la_law_1403 : sm_D code 1403 1 1404 (.iconst 3) := ⟨by decide +kernel, rfl⟩
set_option maxRecDepth 100000 in
theorem ii_la_law_1404 : sm_D code 1404 3 1407 (.if_icmp .lt 47) := ⟨by decide +kernel, rfl⟩
set_option maxRecDepth 100000 in
theorem ii_la_law_1407 : sm_D code 1407 2 1409 (.iload 27) := ⟨by decide +kernel, rfl⟩
set_option maxRecDepth 100000 in
theorem ii_la_law_1409 : sm_D code 1409 3 1412 (.ifCond .le 12) := ⟨by decide +kernel, rfl⟩
set_option maxRecDepth 100000 in
theorem ii_la_law_1412 : sm_D code 1412 2 1414 (.iload 29) := ⟨by decide +kernel, rfl⟩
set_option maxRecDepth 100000 in
theorem ii_la_law_1414 : sm_D code 1414 2 1416 (.iload 27) := ⟨by decide +kernel, rfl⟩
set_option maxRecDepth 100000 in
theorem ii_la_law_1416 : sm_D code 1416 1 1417 (.iconst 1) := ⟨by decide +kernel, rfl⟩
set_option maxRecDepth 100000 in
theorem ii_la_law_1417 : sm_D code 1417 1 1418 (.isub) := ⟨by decide +kernel, rfl⟩
set_option maxRecDepth 100000 in
theorem ii_la_law_1418 : sm_D code 1418 3 1421 (.if_icmp .lt 33) := ⟨by decide +kernel, rfl⟩
set_option maxRecDepth 100000 in
theorem ii_la_law_1421 : sm_D code 1421 1 1422 (.aload_n 1) := ⟨by decide +kernel, rfl⟩
set_option maxRecDepth 100000 in
theorem ii_la_law_1422 : sm_D code 1422 1 1423 (.iconst 2) := ⟨by decide +kernel, rfl⟩
set_option maxRecDepth 100000 in
theorem ii_la_law_1423 : sm_D code 1423 3 1426 (.invokevirtual 120) := ⟨by decide +kernel, rfl⟩
set_option maxRecDepth 100000 in
theorem ii_la_law_1426 : sm_D code 1426 1 1427 (.iconst 1) := ⟨by decide +kernel, rfl⟩
set_option maxRecDepth 100000 in
theorem ii_la_law_1427 : sm_D code 1427 3 1430 (.if_icmp .ne 24) := ⟨by decide +kernel, rfl⟩
set_option maxRecDepth 100000 in
theorem ii_la_law_1430 : sm_D code 1430 1 1431 (.aload_n 1) := ⟨by decide +kernel, rfl⟩
set_option maxRecDepth 100000 in
theorem ii_la_law_1431 : sm_D code 1431 3 1434 (.invokevirtual 123) := ⟨by decide +kernel, rfl⟩
set_option maxRecDepth 100000 in
theorem ii_la_law_1434 : sm_D code 1434 1 1435 (.lconst 1) := ⟨by decide +kernel, rfl⟩
set_option maxRecDepth 100000 in
theorem ii_la_law_1435 : sm_D code 1435 1 1436 (.lcmp) := ⟨by decide +kernel, rfl⟩
set_option maxRecDepth 100000 in
theorem ii_la_law_1436 : sm_D code 1436 3 1439 (.ifCond .lt 15) := ⟨by decide +kernel, rfl⟩
set_option maxRecDepth 100000 in
theorem ii_la_law_1439 : sm_D code 1439 1 1440 (.aload_n 1) := ⟨by decide +kernel, rfl⟩
set_option maxRecDepth 100000 in
theorem ii_la_law_1440 : sm_D code 1440 1 1441 (.iconst 2) := ⟨by decide +kernel, rfl⟩
set_option maxRecDepth 100000 in
theorem ii_la_law_1441 : sm_D code 1441 2 1443 (.iload 29) := ⟨by decide +kernel, rfl⟩
set_option maxRecDepth 100000 in
theorem ii_la_law_1443 : sm_D code 1443 3 1446 (.invokevirtual 137) := ⟨by decide +kernel, rfl⟩
set_option maxRecDepth 100000 in
theorem ii_la_law_1446 : sm_D code 1446 2 1448 (.bipush (-3)) := ⟨by decide +kernel, rfl⟩
set_option maxRecDepth 100000 in
theorem ii_la_law_1448 : sm_D code 1448 3 1451 (.if_icmp .eq 5) := ⟨by decide +kernel, rfl⟩
set_option maxRecDepth 100000 in
theorem ii_la_law_1451 : sm_D code 1451 1 1452 (.iconst 0) := ⟨by decide +kernel, rfl⟩
set_option maxRecDepth 100000 in
theorem ii_la_law_1452 : sm_D code 1452 1 1453 (.ireturn) := ⟨by decide +kernel, rfl⟩
set_option maxRecDepth 100000 in
theorem ii_la_law_1453 : sm_D code 1453 2 1455 (.iload 10) := ⟨by decide +kernel, rfl⟩
set_option maxRecDepth 100000 in
theorem ii_la_law_1455 : sm_D code 1455 1 1456 (.iconst 3) := ⟨by decide +kernel, rfl⟩
set_option maxRecDepth 100000 in
theorem ii_la_law_1456 : sm_D code 1456 1 1457 (.ishr) := ⟨by decide +kernel, rfl⟩
set_option maxRecDepth 100000 in
theorem ii_la_law_1457 : sm_D code 1457 1 1458 (.iconst 4) := ⟨by decide +kernel, rfl⟩
set_option maxRecDepth 100000 in
theorem ii_la_law_1458 : sm_D code 1458 3 1461 (.invokestatic 15) := ⟨by decide +kernel, rfl⟩
set_option maxRecDepth 100000 in
theorem ii_la_law_1461 : sm_D code 1461 2 1463 (.istore 29) := ⟨by decide +kernel, rfl⟩
set_option maxRecDepth 100000 in
theorem ii_la_law_1463 : sm_D code 1463 1 1464 (.aload_n 1) := ⟨by decide +kernel, rfl⟩
set_option maxRecDepth 100000 in
theorem ii_la_law_1464 : sm_D code 1464 1 1465 (.iconst 3) := ⟨by decide +kernel, rfl⟩
set_option maxRecDepth 100000 in
theorem ii_la_law_1465 : sm_D code 1465 1 1466 (.iconst 2) := ⟨by decide +kernel, rfl⟩
set_option maxRecDepth 100000 in
theorem ii_la_law_1466 : sm_D code 1466 2 1468 (.iload 29) := ⟨by decide +kernel, rfl⟩
set_option maxRecDepth 100000 in
theorem ii_la_law_1468 : sm_D code 1468 1 1469 (.imul) := ⟨by decide +kernel, rfl⟩
set_option maxRecDepth 100000 in
theorem ii_la_law_1469 : sm_D code 1469 3 1472 (.invokevirtual 114) := ⟨by decide +kernel, rfl⟩
set_option maxRecDepth 100000 in
theorem ii_la_law_1472 : sm_D code 1472 1 1473 (.iconst 2) := ⟨by decide +kernel, rfl⟩
set_option maxRecDepth 100000 in
theorem ii_la_law_1473 : sm_D code 1473 2 1475 (.iload 29) := ⟨by decide +kernel, rfl⟩
set_option maxRecDepth 100000 in
theorem ii_la_law_1475 : sm_D code 1475 1 1476 (.imul) := ⟨by decide +kernel, rfl⟩
set_option maxRecDepth 100000 in
theorem ii_la_law_1476 : sm_D code 1476 3 1479 (.if_icmp .ne 15) := ⟨by decide +kernel, rfl⟩
set_option maxRecDepth 100000 in
theorem ii_la_law_1479 : sm_D code 1479 1 1480 (.aload_n 1) := ⟨by decide +kernel, rfl⟩
set_option maxRecDepth 100000 in
theorem ii_la_law_1480 : sm_D code 1480 1 1481 (.iconst 4) := ⟨by decide +kernel, rfl⟩
set_option maxRecDepth 100000 in
theorem ii_la_law_1481 : sm_D code 1481 2 1483 (.iload 29) := ⟨by decide +kernel, rfl⟩
set_option maxRecDepth 100000 in
theorem ii_la_law_1483 : sm_D code 1483 3 1486 (.invokevirtual 114) := ⟨by decide +kernel, rfl⟩
set_option maxRecDepth 100000 in
theorem ii_la_law_1486 : sm_D code 1486 2 1488 (.iload 29) := ⟨by decide +kernel, rfl⟩
set_option maxRecDepth 100000 in
theorem ii_la_law_1488 : sm_D code 1488 3 1491 (.if_icmp .eq 5) := ⟨by decide +kernel, rfl⟩
set_option maxRecDepth 100000 in
theorem ii_la_law_1491 : sm_D code 1491 1 1492 (.iconst 0) := ⟨by decide +kernel, rfl⟩
set_option maxRecDepth 100000 in
theorem ii_la_law_1492 : sm_D code 1492 1 1493 (.ireturn) := ⟨by decide +kernel, rfl⟩
set_option maxRecDepth 100000 in
theorem ii_la_law_1493 : sm_D code 1493 1 1494 (.iconst 0) := ⟨by decide +kernel, rfl⟩
set_option maxRecDepth 100000 in
theorem ii_la_law_1494 : sm_D code 1494 2 1496 (.istore 30) := ⟨by decide +kernel, rfl⟩
set_option maxRecDepth 100000 in
theorem ii_la_law_1496 : sm_D code 1496 2 1498 (.iload 30) := ⟨by decide +kernel, rfl⟩
set_option maxRecDepth 100000 in
theorem ii_la_law_1498 : sm_D code 1498 2 1500 (.iload 29) := ⟨by decide +kernel, rfl⟩
set_option maxRecDepth 100000 in
theorem ii_la_law_1500 : sm_D code 1500 3 1503 (.if_icmp .ge 90) := ⟨by decide +kernel, rfl⟩
set_option maxRecDepth 100000 in
theorem ii_la_law_1503 : sm_D code 1503 2 1505 (.iload 10) := ⟨by decide +kernel, rfl⟩
set_option maxRecDepth 100000 in
theorem ii_la_law_1505 : sm_D code 1505 1 1506 (.iconst 5) := ⟨by decide +kernel, rfl⟩
set_option maxRecDepth 100000 in
theorem ii_la_law_1506 : sm_D code 1506 1 1507 (.iconst 3) := ⟨by decide +kernel, rfl⟩
set_option maxRecDepth 100000 in
theorem ii_la_law_1507 : sm_D code 1507 2 1509 (.iload 30) := ⟨by decide +kernel, rfl⟩
set_option maxRecDepth 100000 in
theorem ii_la_law_1509 : sm_D code 1509 1 1510 (.imul) := ⟨by decide +kernel, rfl⟩
set_option maxRecDepth 100000 in
theorem ii_la_law_1510 : sm_D code 1510 1 1511 (.iadd) := ⟨by decide +kernel, rfl⟩
set_option maxRecDepth 100000 in
theorem ii_la_law_1511 : sm_D code 1511 1 1512 (.ishr) := ⟨by decide +kernel, rfl⟩
set_option maxRecDepth 100000 in
theorem ii_la_law_1512 : sm_D code 1512 2 1514 (.bipush 6) := ⟨by decide +kernel, rfl⟩
set_option maxRecDepth 100000 in
theorem ii_la_law_1514 : sm_D code 1514 3 1517 (.invokestatic 15) := ⟨by decide +kernel, rfl⟩
set_option maxRecDepth 100000 in
theorem ii_la_law_1517 : sm_D code 1517 2 1519 (.istore 31) := ⟨by decide +kernel, rfl⟩
set_option maxRecDepth 100000 in
theorem ii_la_law_1519 : sm_D code 1519 1 1520 (.aload_n 1) := ⟨by decide +kernel, rfl⟩
set_option maxRecDepth 100000 in
theorem ii_la_law_1520 : sm_D code 1520 1 1521 (.iconst 4) := ⟨by decide +kernel, rfl⟩
set_option maxRecDepth 100000 in
theorem ii_la_law_1521 : sm_D code 1521 2 1523 (.iload 30) := ⟨by decide +kernel, rfl⟩
set_option maxRecDepth 100000 in
theorem ii_la_law_1523 : sm_D code 1523 2 1525 (.iload 31) := ⟨by decide +kernel, rfl⟩
set_option maxRecDepth 100000 in
theorem ii_la_law_1525 : sm_D code 1525 3 1528 (.invokevirtual 117) := ⟨by decide +kernel, rfl⟩
set_option maxRecDepth 100000 in
theorem ii_la_law_1528 : sm_D code 1528 1 1529 (.iconst 1) := ⟨by decide +kernel, rfl⟩
set_option maxRecDepth 100000 in
theorem ii_la_law_1529 : sm_D code 1529 3 1532 (.if_icmp .ne 53) := ⟨by decide +kernel, rfl⟩
set_option maxRecDepth 100000 in
theorem ii_la_law_1532 : sm_D code 1532 1 1533 (.aload_n 1) := ⟨by decide +kernel, rfl⟩
set_option maxRecDepth 100000 in
theorem ii_la_law_1533 : sm_D code 1533 1 1534 (.iconst 3) := ⟨by decide +kernel, rfl⟩
set_option maxRecDepth 100000 in
theorem ii_la_law_1534 : sm_D code 1534 1 1535 (.iconst 2) := ⟨by decide +kernel, rfl⟩
set_option maxRecDepth 100000 in
theorem ii_la_law_1535 : sm_D code 1535 2 1537 (.iload 30) := ⟨by decide +kernel, rfl⟩
set_option maxRecDepth 100000 in
theorem ii_la_law_1537 : sm_D code 1537 1 1538 (.imul) := ⟨by decide +kernel, rfl⟩
set_option maxRecDepth 100000 in
theorem ii_la_law_1538 : sm_D code 1538 2 1540 (.iload 31) := ⟨by decide +kernel, rfl⟩
set_option maxRecDepth 100000 in
theorem ii_la_law_1540 : sm_D code 1540 3 1543 (.invokevirtual 117) := ⟨by decide +kernel, rfl⟩
set_option maxRecDepth 100000 in
theorem ii_la_law_1543 : sm_D code 1543 1 1544 (.iconst 1) := ⟨by decide +kernel, rfl⟩
set_option maxRecDepth 100000 in
theorem ii_la_law_1544 : sm_D code 1544 3 1547 (.if_icmp .ne 38) := ⟨by decide +kernel, rfl⟩
set_option maxRecDepth 100000 in
theorem ii_la_law_1547 : sm_D code 1547 1 1548 (.aload_n 1) := ⟨by decide +kernel, rfl⟩
set_option maxRecDepth 100000 in
theorem ii_la_law_1548 : sm_D code 1548 1 1549 (.iconst 3) := ⟨by decide +kernel, rfl⟩
set_option maxRecDepth 100000 in
theorem ii_la_law_1549 : sm_D code 1549 1 1550 (.iconst 2) := ⟨by decide +kernel, rfl⟩
set_option maxRecDepth 100000 in
theorem ii_la_law_1550 : sm_D code 1550 2 1552 (.iload 30) := ⟨by decide +kernel, rfl⟩
set_option maxRecDepth 100000 in
theorem ii_la_law_1552 : sm_D code 1552 1 1553 (.imul) := ⟨by decide +kernel, rfl⟩
set_option maxRecDepth 100000 in
theorem ii_la_law_1553 : sm_D code 1553 1 1554 (.iconst 1) := ⟨by decide +kernel, rfl⟩
set_option maxRecDepth 100000 in
theorem ii_la_law_1554 : sm_D code 1554 1 1555 (.iadd) := ⟨by decide +kernel, rfl⟩
set_option maxRecDepth 100000 in
theorem ii_la_law_1555 : sm_D code 1555 1 1556 (.aload_n 1) := ⟨by decide +kernel, rfl⟩
set_option maxRecDepth 100000 in
theorem ii_la_law_1556 : sm_D code 1556 2 1558 (.iload 10) := ⟨by decide +kernel, rfl⟩
set_option maxRecDepth 100000 in
theorem ii_la_law_1558 : sm_D code 1558 2 1560 (.bipush 14) := ⟨by decide +kernel, rfl⟩
set_option maxRecDepth 100000 in
theorem ii_la_law_1560 : sm_D code 1560 1 1561 (.iconst 2) := ⟨by decide +kernel, rfl⟩
set_option maxRecDepth 100000 in
theorem ii_la_law_1561 : sm_D code 1561 2 1563 (.iload 30) := ⟨by decide +kernel, rfl⟩
set_option maxRecDepth 100000 in
theorem ii_la_law_1563 : sm_D code 1563 1 1564 (.imul) := ⟨by decide +kernel, rfl⟩
set_option maxRecDepth 100000 in
theorem ii_la_law_1564 : sm_D code 1564 1 1565 (.iadd) := ⟨by decide +kernel, rfl⟩
set_option maxRecDepth 100000 in
theorem ii_la_law_1565 : sm_D code 1565 1 1566 (.ishr) := ⟨by decide +kernel, rfl⟩
set_option maxRecDepth 100000 in
theorem ii_la_law_1566 : sm_D code 1566 2 1568 (.iload 5) := ⟨by decide +kernel, rfl⟩
set_option maxRecDepth 100000 in
theorem ii_la_law_1568 : sm_D code 1568 3 1571 (.invokestatic 15) := ⟨by decide +kernel, rfl⟩
set_option maxRecDepth 100000 in
theorem ii_la_law_1571 : sm_D code 1571 1 1572 (.iconst 2) := ⟨by decide +kernel, rfl⟩
set_option maxRecDepth 100000 in
theorem ii_la_law_1572 : sm_D code 1572 3 1575 (.invokestatic 102) := ⟨by decide +kernel, rfl⟩
set_option maxRecDepth 100000 in
theorem ii_la_law_1575 : sm_D code 1575 3 1578 (.invokevirtual 117) := ⟨by decide +kernel, rfl⟩
set_option maxRecDepth 100000 in
theorem ii_la_law_1578 : sm_D code 1578 1 1579 (.iconst 1) := ⟨by decide +kernel, rfl⟩
set_option maxRecDepth 100000 in
theorem ii_la_law_1579 : sm_D code 1579 3 1582 (.if_icmp .eq 5) := ⟨by decide +kernel, rfl⟩
set_option maxRecDepth 100000 in
theorem ii_la_law_1582 : sm_D code 1582 1 1583 (.iconst 0) := ⟨by decide +kernel, rfl⟩
set_option maxRecDepth 100000 in
theorem ii_la_law_1583 : sm_D code 1583 1 1584 (.ireturn) := ⟨by decide +kernel, rfl⟩
set_option maxRecDepth 100000 in
theorem ii_la_law_1584 : sm_D code 1584 3 1587 (.iinc 30 1) := ⟨by decide +kernel, rfl⟩
set_option maxRecDepth 100000 in
theorem ii_la_law_1587 : sm_D code 1587 3 1590 (.goto (-91)) := ⟨by decide +kernel, rfl⟩
set_option maxRecDepth 100000 in
theorem ii_la_law_1590 : sm_D code 1590 1 1591 (.aload_n 1) := ⟨by decide +kernel, rfl⟩
set_option maxRecDepth 100000 in
theorem ii_la_law_1591 : sm_D code 1591 1 1592 (.iconst 3) := ⟨by decide +kernel, rfl⟩
set_option maxRecDepth 100000 in
theorem ii_la_law_1592 : sm_D code 1592 3 1595 (.invokevirtual 150) := ⟨by decide +kernel, rfl⟩
set_option maxRecDepth 100000 in
theorem ii_la_law_1595 : sm_D code 1595 1 1596 (.iconst 1) := ⟨by decide +kernel, rfl⟩
set_option maxRecDepth 100000 in
theorem ii_la_law_1596 : sm_D code 1596 3 1599 (.if_icmp .ne 10) := ⟨by decide +kernel, rfl⟩
set_option maxRecDepth 100000 in
theorem ii_la_law_1599 : sm_D code 1599 1 1600 (.aload_n 1) := ⟨by decide +kernel, rfl⟩
set_option maxRecDepth 100000 in
theorem ii_la_law_1600 : sm_D code 1600 3 1603 (.invokevirtual 123) := ⟨by decide +kernel, rfl⟩
set_option maxRecDepth 100000 in
theorem ii_la_law_1603 : sm_D code 1603 3 1606 (.goto 6) := ⟨by decide +kernel, rfl⟩
set_option maxRecDepth 100000 in
theorem ii_la_law_1606 : sm_D code 1606 3 1609 (.ldc2_w 126) := ⟨by decide +kernel, rfl⟩
set_option maxRecDepth 100000 in
theorem ii_la_law_1609 : sm_D code 1609 2 1611 (.lstore 30) := ⟨by decide +kernel, rfl⟩
set_option maxRecDepth 100000 in
theorem ii_la_law_1611 : sm_D code 1611 1 1612 (.aload_n 1) := ⟨by decide +kernel, rfl⟩
set_option maxRecDepth 100000 in
theorem ii_la_law_1612 : sm_D code 1612 3 1615 (.invokevirtual 78) := ⟨by decide +kernel, rfl⟩
set_option maxRecDepth 100000 in
theorem ii_la_law_1615 : sm_D code 1615 2 1617 (.istore 32) := ⟨by decide +kernel, rfl⟩
set_option maxRecDepth 100000 in
theorem ii_la_law_1617 : sm_D code 1617 1 1618 (.aload_n 1) := ⟨by decide +kernel, rfl⟩
set_option maxRecDepth 100000 in
theorem ii_la_law_1618 : sm_D code 1618 1 1619 (.iconst 3) := ⟨by decide +kernel, rfl⟩
set_option maxRecDepth 100000 in
theorem ii_la_law_1619 : sm_D code 1619 3 1622 (.invokevirtual 153) := ⟨by decide +kernel, rfl⟩
set_option maxRecDepth 100000 in
theorem ii_la_law_1622 : sm_D code 1622 2 1624 (.istore 33) := ⟨by decide +kernel, rfl⟩
set_option maxRecDepth 100000 in
theorem ii_la_law_1624 : sm_D code 1624 1 1625 (.aload_n 1) := ⟨by decide +kernel, rfl⟩
set_option maxRecDepth 100000 in
theorem ii_la_law_1625 : sm_D code 1625 3 1628 (.invokevirtual 78) := ⟨by decide +kernel, rfl⟩
set_option maxRecDepth 100000 in
theorem ii_la_law_1628 : sm_D code 1628 2 1630 (.istore 34) := ⟨by decide +kernel, rfl⟩
set_option maxRecDepth 100000 in
theorem ii_la_law_1630 : sm_D code 1630 2 1632 (.lload 30) := ⟨by decide +kernel, rfl⟩
set_option maxRecDepth 100000 in
theorem ii_la_law_1632 : sm_D code 1632 1 1633 (.lconst 0) := ⟨by decide +kernel, rfl⟩
set_option maxRecDepth 100000 in
theorem ii_la_law_1633 : sm_D code 1633 1 1634 (.lcmp) := ⟨by decide +kernel, rfl⟩
set_option maxRecDepth 100000 in
theorem ii_la_law_1634 : sm_D code 1634 3 1637 (.ifCond .lt 129) := ⟨by decide +kernel, rfl⟩
set_option maxRecDepth 100000 in
theorem ii_la_law_1637 : sm_D code 1637 1 1638 (.aload_n 1) := ⟨by decide +kernel, rfl⟩
set_option maxRecDepth 100000 in
theorem ii_la_law_1638 : sm_D code 1638 1 1639 (.iconst 4) := ⟨by decide +kernel, rfl⟩
set_option maxRecDepth 100000 in
theorem ii_la_law_1639 : sm_D code 1639 3 1642 (.invokevirtual 120) := ⟨by decide +kernel, rfl⟩
set_option maxRecDepth 100000 in
theorem ii_la_law_1642 : sm_D code 1642 1 1643 (.iconst 1) := ⟨by decide +kernel, rfl⟩
set_option maxRecDepth 100000 in
theorem ii_la_law_1643 : sm_D code 1643 3 1646 (.if_icmp .ne 120) := ⟨by decide +kernel, rfl⟩
set_option maxRecDepth 100000 in
theorem ii_la_law_1646 : sm_D code 1646 1 1647 (.aload_n 1) := ⟨by decide +kernel, rfl⟩
set_option maxRecDepth 100000 in
theorem ii_la_law_1647 : sm_D code 1647 3 1650 (.invokevirtual 123) := ⟨by decide +kernel, rfl⟩
set_option maxRecDepth 100000 in
theorem ii_la_law_1650 : sm_D code 1650 2 1652 (.lload 30) := ⟨by decide +kernel, rfl⟩
set_option maxRecDepth 100000 in
theorem ii_la_law_1652 : sm_D code 1652 1 1653 (.lcmp) := ⟨by decide +kernel, rfl⟩
set_option maxRecDepth 100000 in
theorem ii_la_law_1653 : sm_D code 1653 3 1656 (.ifCond .lt 110) := ⟨by decide +kernel, rfl⟩
set_option maxRecDepth 100000 in
theorem ii_la_law_1656 : sm_D code 1656 2 1658 (.iload 32) := ⟨by decide +kernel, rfl⟩
set_option maxRecDepth 100000 in
theorem ii_la_law_1658 : sm_D code 1658 2 1660 (.bipush (-9)) := ⟨by decide +kernel, rfl⟩
set_option maxRecDepth 100000 in
theorem ii_la_law_1660 : sm_D code 1660 3 1663 (.if_icmp .ne 7) := ⟨by decide +kernel, rfl⟩
set_option maxRecDepth 100000 in
theorem ii_la_law_1663 : sm_D code 1663 1 1664 (.iconst 1) := ⟨by decide +kernel, rfl⟩
set_option maxRecDepth 100000 in
theorem ii_la_law_1664 : sm_D code 1664 3 1667 (.goto 4) := ⟨by decide +kernel, rfl⟩
set_option maxRecDepth 100000 in
theorem ii_la_law_1667 : sm_D code 1667 1 1668 (.iconst 0) := ⟨by decide +kernel, rfl⟩
set_option maxRecDepth 100000 in
theorem ii_la_law_1668 : sm_D code 1668 2 1670 (.lload 30) := ⟨by decide +kernel, rfl⟩
set_option maxRecDepth 100000 in
theorem ii_la_law_1670 : sm_D code 1670 1 1671 (.lconst 0) := ⟨by decide +kernel, rfl⟩
set_option maxRecDepth 100000 in
theorem ii_la_law_1671 : sm_D code 1671 1 1672 (.lcmp) := ⟨by decide +kernel, rfl⟩
set_option maxRecDepth 100000 in
theorem ii_la_law_1672 : sm_D code 1672 3 1675 (.ifCond .eq 8) := ⟨by decide +kernel, rfl⟩
set_option maxRecDepth 100000 in
theorem ii_la_law_1675 : sm_D code 1675 2 1677 (.iload 29) := ⟨by decide +kernel, rfl⟩
set_option maxRecDepth 100000 in
theorem ii_la_law_1677 : sm_D code 1677 3 1680 (.ifCond .ne 7) := ⟨by decide +kernel, rfl⟩
set_option maxRecDepth 100000 in
theorem ii_la_law_1680 : sm_D code 1680 1 1681 (.iconst 1) := ⟨by decide +kernel, rfl⟩
set_option maxRecDepth 100000 in
theorem ii_la_law_1681 : sm_D code 1681 3 1684 (.goto 4) := ⟨by decide +kernel, rfl⟩
set_option maxRecDepth 100000 in
theorem ii_la_law_1684 : sm_D code 1684 1 1685 (.iconst 0) := ⟨by decide +kernel, rfl⟩
set_option maxRecDepth 100000 in
theorem ii_la_law_1685 : sm_D code 1685 3 1688 (.if_icmp .ne 78) := ⟨by decide +kernel, rfl⟩
set_option maxRecDepth 100000 in
theorem ii_la_law_1688 : sm_D code 1688 2 1690 (.iload 32) := ⟨by decide +kernel, rfl⟩
set_option maxRecDepth 100000 in
theorem ii_la_law_1690 : sm_D code 1690 2 1692 (.iload 5) := ⟨by decide +kernel, rfl⟩
set_option maxRecDepth 100000 in
theorem ii_la_law_1692 : sm_D code 1692 3 1695 (.if_icmp .ge 71) := ⟨by decide +kernel, rfl⟩
set_option maxRecDepth 100000 in
theorem ii_la_law_1695 : sm_D code 1695 2 1697 (.iload 33) := ⟨by decide +kernel, rfl⟩
set_option maxRecDepth 100000 in
theorem ii_la_law_1697 : sm_D code 1697 2 1699 (.bipush (-3)) := ⟨by decide +kernel, rfl⟩
set_option maxRecDepth 100000 in
theorem ii_la_law_1699 : sm_D code 1699 3 1702 (.if_icmp .ne 7) := ⟨by decide +kernel, rfl⟩
set_option maxRecDepth 100000 in
theorem ii_la_law_1702 : sm_D code 1702 1 1703 (.iconst 1) := ⟨by decide +kernel, rfl⟩
set_option maxRecDepth 100000 in
theorem ii_la_law_1703 : sm_D code 1703 3 1706 (.goto 4) := ⟨by decide +kernel, rfl⟩
set_option maxRecDepth 100000 in
theorem ii_la_law_1706 : sm_D code 1706 1 1707 (.iconst 0) := ⟨by decide +kernel, rfl⟩
set_option maxRecDepth 100000 in
theorem ii_la_law_1707 : sm_D code 1707 2 1709 (.lload 30) := ⟨by decide +kernel, rfl⟩
set_option maxRecDepth 100000 in
theorem ii_la_law_1709 : sm_D code 1709 1 1710 (.lconst 0) := ⟨by decide +kernel, rfl⟩
set_option maxRecDepth 100000 in
theorem ii_la_law_1710 : sm_D code 1710 1 1711 (.lcmp) := ⟨by decide +kernel, rfl⟩
set_option maxRecDepth 100000 in
theorem ii_la_law_1711 : sm_D code 1711 3 1714 (.ifCond .ne 7) := ⟨by decide +kernel, rfl⟩
set_option maxRecDepth 100000 in
theorem ii_la_law_1714 : sm_D code 1714 1 1715 (.iconst 1) := ⟨by decide +kernel, rfl⟩
set_option maxRecDepth 100000 in
theorem ii_la_law_1715 : sm_D code 1715 3 1718 (.goto 4) := ⟨by decide +kernel, rfl⟩
set_option maxRecDepth 100000 in
theorem ii_la_law_1718 : sm_D code 1718 1 1719 (.iconst 0) := ⟨by decide +kernel, rfl⟩
set_option maxRecDepth 100000 in
theorem ii_la_law_1719 : sm_D code 1719 3 1722 (.if_icmp .ne 44) := ⟨by decide +kernel, rfl⟩
set_option maxRecDepth 100000 in
theorem ii_la_law_1722 : sm_D code 1722 2 1724 (.iload 33) := ⟨by decide +kernel, rfl⟩
set_option maxRecDepth 100000 in
theorem ii_la_law_1724 : sm_D code 1724 3 1727 (.ifCond .lt 41) := ⟨by decide +kernel, rfl⟩
set_option maxRecDepth 100000 in
theorem ii_la_law_1727 : sm_D code 1727 2 1729 (.iload 33) := ⟨by decide +kernel, rfl⟩
set_option maxRecDepth 100000 in
theorem ii_la_law_1729 : sm_D code 1729 2 1731 (.iload 34) := ⟨by decide +kernel, rfl⟩
set_option maxRecDepth 100000 in
theorem ii_la_law_1731 : sm_D code 1731 1 1732 (.iand) := ⟨by decide +kernel, rfl⟩
set_option maxRecDepth 100000 in
theorem ii_la_law_1732 : sm_D code 1732 3 1735 (.ifCond .ne 31) := ⟨by decide +kernel, rfl⟩
set_option maxRecDepth 100000 in
theorem ii_la_law_1735 : sm_D code 1735 2 1737 (.iload 33) := ⟨by decide +kernel, rfl⟩
set_option maxRecDepth 100000 in
theorem ii_la_law_1737 : sm_D code 1737 2 1739 (.iload 34) := ⟨by decide +kernel, rfl⟩
set_option maxRecDepth 100000 in
theorem ii_la_law_1739 : sm_D code 1739 1 1740 (.ior) := ⟨by decide +kernel, rfl⟩
set_option maxRecDepth 100000 in
theorem ii_la_law_1740 : sm_D code 1740 2 1742 (.iload 6) := ⟨by decide +kernel, rfl⟩
set_option maxRecDepth 100000 in
theorem ii_la_law_1742 : sm_D code 1742 1 1743 (.iconst (-1)) := ⟨by decide +kernel, rfl⟩
set_option maxRecDepth 100000 in
theorem ii_la_law_1743 : sm_D code 1743 1 1744 (.ixor) := ⟨by decide +kernel, rfl⟩
set_option maxRecDepth 100000 in
theorem ii_la_law_1744 : sm_D code 1744 1 1745 (.iand) := ⟨by decide +kernel, rfl⟩
set_option maxRecDepth 100000 in
theorem ii_la_law_1745 : sm_D code 1745 3 1748 (.ifCond .ne 18) := ⟨by decide +kernel, rfl⟩
set_option maxRecDepth 100000 in
theorem ii_la_law_1748 : sm_D code 1748 2 1750 (.iload 32) := ⟨by decide +kernel, rfl⟩
set_option maxRecDepth 100000 in
theorem ii_la_law_1750 : sm_D code 1750 3 1753 (.ifCond .lt 15) := ⟨by decide +kernel, rfl⟩
set_option maxRecDepth 100000 in
theorem ii_la_law_1753 : sm_D code 1753 2 1755 (.iload 34) := ⟨by decide +kernel, rfl⟩
set_option maxRecDepth 100000 in
theorem ii_la_law_1755 : sm_D code 1755 2 1757 (.iload 32) := ⟨by decide +kernel, rfl⟩
set_option maxRecDepth 100000 in
theorem ii_la_law_1757 : sm_D code 1757 1 1758 (.ishr) := ⟨by decide +kernel, rfl⟩
set_option maxRecDepth 100000 in
theorem ii_la_law_1758 : sm_D code 1758 1 1759 (.iconst 1) := ⟨by decide +kernel, rfl⟩
set_option maxRecDepth 100000 in
theorem ii_la_law_1759 : sm_D code 1759 1 1760 (.iand) := ⟨by decide +kernel, rfl⟩
set_option maxRecDepth 100000 in
theorem ii_la_law_1760 : sm_D code 1760 3 1763 (.ifCond .eq 5) := ⟨by decide +kernel, rfl⟩
set_option maxRecDepth 100000 in
theorem ii_la_law_1763 : sm_D code 1763 1 1764 (.iconst 0) := ⟨by decide +kernel, rfl⟩
set_option maxRecDepth 100000 in
theorem ii_la_law_1764 : sm_D code 1764 1 1765 (.ireturn) := ⟨by decide +kernel, rfl⟩
set_option maxRecDepth 100000 in
theorem ii_la_law_1765 : sm_D code 1765 2 1767 (.iload 10) := ⟨by decide +kernel, rfl⟩
set_option maxRecDepth 100000 in
theorem ii_la_law_1767 : sm_D code 1767 2 1769 (.bipush 20) := ⟨by decide +kernel, rfl⟩
set_option maxRecDepth 100000 in
theorem ii_la_law_1769 : sm_D code 1769 1 1770 (.ishr) := ⟨by decide +kernel, rfl⟩
set_option maxRecDepth 100000 in
theorem ii_la_law_1770 : sm_D code 1770 2 1772 (.iload 5) := ⟨by decide +kernel, rfl⟩
set_option maxRecDepth 100000 in
theorem ii_la_law_1772 : sm_D code 1772 3 1775 (.invokestatic 15) := ⟨by decide +kernel, rfl⟩
set_option maxRecDepth 100000 in
theorem ii_la_law_1775 : sm_D code 1775 2 1777 (.istore 35) := ⟨by decide +kernel, rfl⟩
set_option maxRecDepth 100000 in
theorem ii_la_law_1777 : sm_D code 1777 2 1779 (.iload 10) := ⟨by decide +kernel, rfl⟩
set_option maxRecDepth 100000 in
theorem ii_la_law_1779 : sm_D code 1779 2 1781 (.bipush 7) := ⟨by decide +kernel, rfl⟩
set_option maxRecDepth 100000 in
theorem ii_la_law_1781 : sm_D code 1781 1 1782 (.ishr) := ⟨by decide +kernel, rfl⟩
set_option maxRecDepth 100000 in
theorem ii_la_law_1782 : sm_D code 1782 2 1784 (.bipush 6) := ⟨by decide +kernel, rfl⟩
set_option maxRecDepth 100000 in
theorem ii_la_law_1784 : sm_D code 1784 3 1787 (.invokestatic 15) := ⟨by decide +kernel, rfl⟩
set_option maxRecDepth 100000 in
theorem ii_la_law_1787 : sm_D code 1787 2 1789 (.istore 36) := ⟨by decide +kernel, rfl⟩
set_option maxRecDepth 100000 in
theorem ii_la_law_1789 : sm_D code 1789 1 1790 (.aload_n 1) := ⟨by decide +kernel, rfl⟩
set_option maxRecDepth 100000 in
theorem ii_la_law_1790 : sm_D code 1790 1 1791 (.iconst 5) := ⟨by decide +kernel, rfl⟩
set_option maxRecDepth 100000 in
theorem ii_la_law_1791 : sm_D code 1791 1 1792 (.iconst 3) := ⟨by decide +kernel, rfl⟩
set_option maxRecDepth 100000 in
theorem ii_la_law_1792 : sm_D code 1792 3 1795 (.invokevirtual 114) := ⟨by decide +kernel, rfl⟩
set_option maxRecDepth 100000 in
theorem ii_la_law_1795 : sm_D code 1795 1 1796 (.iconst 3) := ⟨by decide +kernel, rfl⟩
set_option maxRecDepth 100000 in
theorem ii_la_law_1796 : sm_D code 1796 3 1799 (.if_icmp .ne 77) := ⟨by decide +kernel, rfl⟩
set_option maxRecDepth 100000 in
theorem ii_la_law_1799 : sm_D code 1799 1 1800 (.aload_n 1) := ⟨by decide +kernel, rfl⟩
set_option maxRecDepth 100000 in
theorem ii_la_law_1800 : sm_D code 1800 1 1801 (.iconst 5) := ⟨by decide +kernel, rfl⟩
set_option maxRecDepth 100000 in
theorem ii_la_law_1801 : sm_D code 1801 1 1802 (.iconst 0) := ⟨by decide +kernel, rfl⟩
set_option maxRecDepth 100000 in
theorem ii_la_law_1802 : sm_D code 1802 2 1804 (.iload 17) := ⟨by decide +kernel, rfl⟩
set_option maxRecDepth 100000 in
theorem ii_la_law_1804 : sm_D code 1804 3 1807 (.ifCond .ge 8) := ⟨by decide +kernel, rfl⟩
set_option maxRecDepth 100000 in
theorem ii_la_law_1807 : sm_D code 1807 2 1809 (.bipush (-9)) := ⟨by decide +kernel, rfl⟩
set_option maxRecDepth 100000 in
theorem ii_la_law_1809 : sm_D code 1809 3 1812 (.goto 5) := ⟨by decide +kernel, rfl⟩
set_option maxRecDepth 100000 in
theorem ii_la_law_1812 : sm_D code 1812 2 1814 (.iload 17) := ⟨by decide +kernel, rfl⟩
set_option maxRecDepth 100000 in
theorem ii_la_law_1814 : sm_D code 1814 3 1817 (.invokevirtual 117) := ⟨by decide +kernel, rfl⟩
set_option maxRecDepth 100000 in
theorem ii_la_law_1817 : sm_D code 1817 1 1818 (.iconst 1) := ⟨by decide +kernel, rfl⟩
set_option maxRecDepth 100000 in
theorem ii_la_law_1818 : sm_D code 1818 3 1821 (.if_icmp .ne 55) := ⟨by decide +kernel, rfl⟩
set_option maxRecDepth 100000 in
theorem ii_la_law_1821 : sm_D code 1821 1 1822 (.aload_n 1) := ⟨by decide +kernel, rfl⟩
set_option maxRecDepth 100000 in
theorem ii_la_law_1822 : sm_D code 1822 1 1823 (.iconst 5) := ⟨by decide +kernel, rfl⟩
set_option maxRecDepth 100000 in
theorem ii_la_law_1823 : sm_D code 1823 1 1824 (.iconst 1) := ⟨by decide +kernel, rfl⟩
set_option maxRecDepth 100000 in
theorem ii_la_law_1824 : sm_D code 1824 2 1826 (.iload 36) := ⟨by decide +kernel, rfl⟩
set_option maxRecDepth 100000 in
theorem ii_la_law_1826 : sm_D code 1826 3 1829 (.invokevirtual 117) := ⟨by decide +kernel, rfl⟩
set_option maxRecDepth 100000 in
theorem ii_la_law_1829 : sm_D code 1829 1 1830 (.iconst 1) := ⟨by decide +kernel, rfl⟩
set_option maxRecDepth 100000 in
theorem ii_la_law_1830 : sm_D code 1830 3 1833 (.if_icmp .ne 43) := ⟨by decide +kernel, rfl⟩
set_option maxRecDepth 100000 in
theorem ii_la_law_1833 : sm_D code 1833 1 1834 (.aload_n 1) := ⟨by decide +kernel, rfl⟩
set_option maxRecDepth 100000 in
theorem ii_la_law_1834 : sm_D code 1834 1 1835 (.iconst 5) := ⟨by decide +kernel, rfl⟩
set_option maxRecDepth 100000 in
theorem ii_la_law_1835 : sm_D code 1835 1 1836 (.iconst 2) := ⟨by decide +kernel, rfl⟩
set_option maxRecDepth 100000 in
theorem ii_la_law_1836 : sm_D code 1836 1 1837 (.aload_n 2) := ⟨by decide +kernel, rfl⟩
set_option maxRecDepth 100000 in
theorem ii_la_law_1837 : sm_D code 1837 1 1838 (.iconst 1) := ⟨by decide +kernel, rfl⟩
set_option maxRecDepth 100000 in
theorem ii_la_law_1838 : sm_D code 1838 2 1840 (.iload 35) := ⟨by decide +kernel, rfl⟩
set_option maxRecDepth 100000 in
theorem ii_la_law_1840 : sm_D code 1840 1 1841 (.iadd) := ⟨by decide +kernel, rfl⟩
set_option maxRecDepth 100000 in
theorem ii_la_law_1841 : sm_D code 1841 1 1842 (.iaload) := ⟨by decide +kernel, rfl⟩
set_option maxRecDepth 100000 in
theorem ii_la_law_1842 : sm_D code 1842 1 1843 (.aload_n 2) := ⟨by decide +kernel, rfl⟩
set_option maxRecDepth 100000 in
theorem ii_la_law_1843 : sm_D code 1843 2 1845 (.bipush 7) := ⟨by decide +kernel, rfl⟩
set_option maxRecDepth 100000 in
theorem ii_la_law_1845 : sm_D code 1845 2 1847 (.iload 35) := ⟨by decide +kernel, rfl⟩
set_option maxRecDepth 100000 in
theorem ii_la_law_1847 : sm_D code 1847 1 1848 (.iadd) := ⟨by decide +kernel, rfl⟩
set_option maxRecDepth 100000 in
theorem ii_la_law_1848 : sm_D code 1848 1 1849 (.iaload) := ⟨by decide +kernel, rfl⟩
set_option maxRecDepth 100000 in
theorem ii_la_law_1849 : sm_D code 1849 2 1851 (.iload 17) := ⟨by decide +kernel, rfl⟩
set_option maxRecDepth 100000 in
theorem ii_la_law_1851 : sm_D code 1851 2 1853 (.iload 36) := ⟨by decide +kernel, rfl⟩
set_option maxRecDepth 100000 in
theorem ii_la_law_1853 : sm_D code 1853 2 1855 (.iload 12) := ⟨by decide +kernel, rfl⟩
set_option maxRecDepth 100000 in
theorem ii_la_law_1855 : sm_D code 1855 3 1858 (.invokestatic 42) := ⟨by decide +kernel, rfl⟩
set_option maxRecDepth 100000 in
theorem ii_la_law_1858 : sm_D code 1858 3 1861 (.ifCond .eq 7) := ⟨by decide +kernel, rfl⟩
set_option maxRecDepth 100000 in
theorem ii_la_law_1861 : sm_D code 1861 1 1862 (.iconst 1) := ⟨by decide +kernel, rfl⟩
set_option maxRecDepth 100000 in
theorem ii_la_law_1862 : sm_D code 1862 3 1865 (.goto 4) := ⟨by decide +kernel, rfl⟩
set_option maxRecDepth 100000 in
theorem ii_la_law_1865 : sm_D code 1865 1 1866 (.iconst 0) := ⟨by decide +kernel, rfl⟩
set_option maxRecDepth 100000 in
theorem ii_la_law_1866 : sm_D code 1866 3 1869 (.invokevirtual 117) := ⟨by decide +kernel, rfl⟩
set_option maxRecDepth 100000 in
theorem ii_la_law_1869 : sm_D code 1869 1 1870 (.iconst 1) := ⟨by decide +kernel, rfl⟩
set_option maxRecDepth 100000 in
theorem ii_la_law_1870 : sm_D code 1870 3 1873 (.if_icmp .eq 5) := ⟨by decide +kernel, rfl⟩
set_option maxRecDepth 100000 in
theorem ii_la_law_1873 : sm_D code 1873 1 1874 (.iconst 0) := ⟨by decide +kernel, rfl⟩
set_option maxRecDepth 100000 in
theorem ii_la_law_1874 : sm_D code 1874 1 1875 (.ireturn) := ⟨by decide +kernel, rfl⟩
set_option maxRecDepth 100000 in
theorem ii_la_law_1875 : sm_D code 1875 1 1876 (.aload_n 1) := ⟨by decide +kernel, rfl⟩
set_option maxRecDepth 100000 in
theorem ii_la_law_1876 : sm_D code 1876 2 1878 (.iload 35) := ⟨by decide +kernel, rfl⟩
set_option maxRecDepth 100000 in
theorem ii_la_law_1878 : sm_D code 1878 1 1879 (.iconst 5) := ⟨by decide +kernel, rfl⟩
set_option maxRecDepth 100000 in
theorem ii_la_law_1879 : sm_D code 1879 3 1882 (.invokevirtual 156) := ⟨by decide +kernel, rfl⟩
set_option maxRecDepth 100000 in
theorem ii_la_law_1882 : sm_D code 1882 2 1884 (.istore 37) := ⟨by decide +kernel, rfl⟩
set_option maxRecDepth 100000 in
theorem ii_la_law_1884 : sm_D code 1884 1 1885 (.aload_n 1) := ⟨by decide +kernel, rfl⟩
set_option maxRecDepth 100000 in
theorem ii_la_law_1885 : sm_D code 1885 2 1887 (.iload 35) := ⟨by decide +kernel, rfl⟩
set_option maxRecDepth 100000 in
theorem ii_la_law_1887 : sm_D code 1887 1 1888 (.iconst 5) := ⟨by decide +kernel, rfl⟩
set_option maxRecDepth 100000 in
theorem ii_la_law_1888 : sm_D code 1888 3 1891 (.invokevirtual 159) := ⟨by decide +kernel, rfl⟩
set_option maxRecDepth 100000 in
theorem ii_la_law_1891 : sm_D code 1891 2 1893 (.istore 38) := ⟨by decide +kernel, rfl⟩
set_option maxRecDepth 100000 in
theorem ii_la_law_1893 : sm_D code 1893 1 1894 (.aload_n 1) := ⟨by decide +kernel, rfl⟩
set_option maxRecDepth 100000 in
theorem ii_la_law_1894 : sm_D code 1894 3 1897 (.invokevirtual 78) := ⟨by decide +kernel, rfl⟩
set_option maxRecDepth 100000 in
theorem ii_la_law_1897 : sm_D code 1897 2 1899 (.istore 39) := ⟨by decide +kernel, rfl⟩
set_option maxRecDepth 100000 in
theorem ii_la_law_1899 : sm_D code 1899 2 1901 (.iload 37) := ⟨by decide +kernel, rfl⟩
set_option maxRecDepth 100000 in
theorem ii_la_law_1901 : sm_D code 1901 1 1902 (.aload_n 1) := ⟨by decide +kernel, rfl⟩
set_option maxRecDepth 100000 in
theorem ii_la_law_1902 : sm_D code 1902 2 1904 (.iload 35) := ⟨by decide +kernel, rfl⟩
set_option maxRecDepth 100000 in
theorem ii_la_law_1904 : sm_D code 1904 1 1905 (.iconst 0) := ⟨by decide +kernel, rfl⟩
set_option maxRecDepth 100000 in
theorem ii_la_law_1905 : sm_D code 1905 3 1908 (.invokestatic 102) := ⟨by decide +kernel, rfl⟩
set_option maxRecDepth 100000 in
theorem ii_la_law_1908 : sm_D code 1908 1 1909 (.ishr) := ⟨by decide +kernel, rfl⟩
set_option maxRecDepth 100000 in
theorem ii_la_law_1909 : sm_D code 1909 1 1910 (.iconst 1) := ⟨by decide +kernel, rfl⟩
set_option maxRecDepth 100000 in
theorem ii_la_law_1910 : sm_D code 1910 1 1911 (.iand) := ⟨by decide +kernel, rfl⟩
set_option maxRecDepth 100000 in
theorem ii_la_law_1911 : sm_D code 1911 1 1912 (.iconst 1) := ⟨by decide +kernel, rfl⟩
set_option maxRecDepth 100000 in
theorem ii_la_law_1912 : sm_D code 1912 3 1915 (.if_icmp .ne 55) := ⟨by decide +kernel, rfl⟩
set_option maxRecDepth 100000 in
theorem ii_la_law_1915 : sm_D code 1915 2 1917 (.iload 37) := ⟨by decide +kernel, rfl⟩
set_option maxRecDepth 100000 in
theorem ii_la_law_1917 : sm_D code 1917 2 1919 (.bipush 63) := ⟨by decide +kernel, rfl⟩
set_option maxRecDepth 100000 in
theorem ii_la_law_1919 : sm_D code 1919 3 1922 (.if_icmp .gt 48) := ⟨by decide +kernel, rfl⟩
set_option maxRecDepth 100000 in
theorem ii_la_law_1922 : sm_D code 1922 2 1924 (.iload 38) := ⟨by decide +kernel, rfl⟩
set_option maxRecDepth 100000 in
theorem ii_la_law_1924 : sm_D code 1924 3 1927 (.ifCond .lt 43) := ⟨by decide +kernel, rfl⟩
set_option maxRecDepth 100000 in
theorem ii_la_law_1927 : sm_D code 1927 2 1929 (.iload 38) := ⟨by decide +kernel, rfl⟩
set_option maxRecDepth 100000 in
theorem ii_la_law_1929 : sm_D code 1929 2 1931 (.bipush 65) := ⟨by decide +kernel, rfl⟩
set_option maxRecDepth 100000 in
theorem ii_la_law_1931 : sm_D code 1931 3 1934 (.if_icmp .gt 36) := ⟨by decide +kernel, rfl⟩
set_option maxRecDepth 100000 in
theorem ii_la_law_1934 : sm_D code 1934 2 1936 (.iload 38) := ⟨by decide +kernel, rfl⟩
set_option maxRecDepth 100000 in
theorem ii_la_law_1936 : sm_D code 1936 2 1938 (.bipush 10) := ⟨by decide +kernel, rfl⟩
set_option maxRecDepth 100000 in
theorem ii_la_law_1938 : sm_D code 1938 1 1939 (.irem) := ⟨by decide +kernel, rfl⟩
set_option maxRecDepth 100000 in
theorem ii_la_law_1939 : sm_D code 1939 1 1940 (.iconst 5) := ⟨by decide +kernel, rfl⟩
set_option maxRecDepth 100000 in
theorem ii_la_law_1940 : sm_D code 1940 3 1943 (.if_icmp .gt 27) := ⟨by decide +kernel, rfl⟩
set_option maxRecDepth 100000 in
theorem ii_la_law_1943 : sm_D code 1943 2 1945 (.iload 39) := ⟨by decide +kernel, rfl⟩
set_option maxRecDepth 100000 in
theorem ii_la_law_1945 : sm_D code 1945 2 1947 (.iload 37) := ⟨by decide +kernel, rfl⟩
set_option maxRecDepth 100000 in
theorem ii_la_law_1947 : sm_D code 1947 3 1950 (.invokestatic 134) := ⟨by decide +kernel, rfl⟩
set_option maxRecDepth 100000 in
theorem ii_la_law_1950 : sm_D code 1950 1 1951 (.iconst 1) := ⟨by decide +kernel, rfl⟩
set_option maxRecDepth 100000 in
theorem ii_la_law_1951 : sm_D code 1951 1 1952 (.iadd) := ⟨by decide +kernel, rfl⟩
set_option maxRecDepth 100000 in
theorem ii_la_law_1952 : sm_D code 1952 1 1953 (.iconst 2) := ⟨by decide +kernel, rfl⟩
set_option maxRecDepth 100000 in
theorem ii_la_law_1953 : sm_D code 1953 1 1954 (.idiv) := ⟨by decide +kernel, rfl⟩
set_option maxRecDepth 100000 in
theorem ii_la_law_1954 : sm_D code 1954 3 1957 (.if_icmp .lt 13) := ⟨by decide +kernel, rfl⟩
set_option maxRecDepth 100000 in
theorem ii_la_law_1957 : sm_D code 1957 2 1959 (.iload 39) := ⟨by decide +kernel, rfl⟩
set_option maxRecDepth 100000 in
theorem ii_la_law_1959 : sm_D code 1959 2 1961 (.iload 37) := ⟨by decide +kernel, rfl⟩
set_option maxRecDepth 100000 in
theorem ii_la_law_1961 : sm_D code 1961 3 1964 (.invokestatic 134) := ⟨by decide +kernel, rfl⟩
set_option maxRecDepth 100000 in
theorem ii_la_law_1964 : sm_D code 1964 3 1967 (.if_icmp .le 5) := ⟨by decide +kernel, rfl⟩
set_option maxRecDepth 100000 in
theorem ii_la_law_1967 : sm_D code 1967 1 1968 (.iconst 0) := ⟨by decide +kernel, rfl⟩
set_option maxRecDepth 100000 in
theorem ii_la_law_1968 : sm_D code 1968 1 1969 (.ireturn) := ⟨by decide +kernel, rfl⟩
set_option maxRecDepth 100000 in
theorem ii_la_law_1969 : sm_D code 1969 1 1970 (.aload_n 1) := ⟨by decide +kernel, rfl⟩
set_option maxRecDepth 100000 in
theorem ii_la_law_1970 : sm_D code 1970 2 1972 (.iload 35) := ⟨by decide +kernel, rfl⟩
set_option maxRecDepth 100000 in
theorem ii_la_law_1972 : sm_D code 1972 3 1975 (.invokevirtual 106) := ⟨by decide +kernel, rfl⟩
set_option maxRecDepth 100000 in
theorem ii_la_law_1975 : sm_D code 1975 2 1977 (.iload 36) := ⟨by decide +kernel, rfl⟩
set_option maxRecDepth 100000 in
theorem ii_la_law_1977 : sm_D code 1977 1 1978 (.ishr) := ⟨by decide +kernel, rfl⟩
set_option maxRecDepth 100000 in
theorem ii_la_law_1978 : sm_D code 1978 1 1979 (.iconst 1) := ⟨by decide +kernel, rfl⟩
set_option maxRecDepth 100000 in
theorem ii_la_law_1979 : sm_D code 1979 1 1980 (.iand) := ⟨by decide +kernel, rfl⟩
set_option maxRecDepth 100000 in
theorem ii_la_law_1980 : sm_D code 1980 1 1981 (.iconst 1) := ⟨by decide +kernel, rfl⟩
set_option maxRecDepth 100000 in
theorem ii_la_law_1981 : sm_D code 1981 3 1984 (.if_icmp .ne 23) := ⟨by decide +kernel, rfl⟩
set_option maxRecDepth 100000 in
theorem ii_la_law_1984 : sm_D code 1984 1 1985 (.aload_n 1) := ⟨by decide +kernel, rfl⟩
set_option maxRecDepth 100000 in
theorem ii_la_law_1985 : sm_D code 1985 1 1986 (.iconst 5) := ⟨by decide +kernel, rfl⟩
set_option maxRecDepth 100000 in
theorem ii_la_law_1986 : sm_D code 1986 1 1987 (.iconst 2) := ⟨by decide +kernel, rfl⟩
set_option maxRecDepth 100000 in
theorem ii_la_law_1987 : sm_D code 1987 3 1990 (.invokevirtual 137) := ⟨by decide +kernel, rfl⟩
set_option maxRecDepth 100000 in
theorem ii_la_law_1990 : sm_D code 1990 1 1991 (.iconst 1) := ⟨by decide +kernel, rfl⟩
set_option maxRecDepth 100000 in
theorem ii_la_law_1991 : sm_D code 1991 3 1994 (.if_icmp .ne 11) := ⟨by decide +kernel, rfl⟩
set_option maxRecDepth 100000 in
theorem ii_la_law_1994 : sm_D code 1994 1 1995 (.aload_n 1) := ⟨by decide +kernel, rfl⟩
set_option maxRecDepth 100000 in
theorem ii_la_law_1995 : sm_D code 1995 3 1998 (.invokevirtual 78) := ⟨by decide +kernel, rfl⟩
set_option maxRecDepth 100000 in
theorem ii_la_law_1998 : sm_D code 1998 1 1999 (.iconst 1) := ⟨by decide +kernel, rfl⟩
set_option maxRecDepth 100000 in
theorem ii_la_law_1999 : sm_D code 1999 3 2002 (.if_icmp .eq 5) := ⟨by decide +kernel, rfl⟩
set_option maxRecDepth 100000 in
theorem ii_la_law_2002 : sm_D code 2002 1 2003 (.iconst 0) := ⟨by decide +kernel, rfl⟩
set_option maxRecDepth 100000 in
theorem ii_la_law_2003 : sm_D code 2003 1 2004 (.ireturn) := ⟨by decide +kernel, rfl⟩
set_option maxRecDepth 100000 in
theorem ii_la_law_2004 : sm_D code 2004 1 2005 (.aload_n 1) := ⟨by decide +kernel, rfl⟩
set_option maxRecDepth 100000 in
theorem ii_la_law_2005 : sm_D code 2005 1 2006 (.iconst 0) := ⟨by decide +kernel, rfl⟩
set_option maxRecDepth 100000 in
theorem ii_la_law_2006 : sm_D code 2006 2 2008 (.iload 10) := ⟨by decide +kernel, rfl⟩
set_option maxRecDepth 100000 in
theorem ii_la_law_2008 : sm_D code 2008 2 2010 (.bipush 10) := ⟨by decide +kernel, rfl⟩
set_option maxRecDepth 100000 in
theorem ii_la_law_2010 : sm_D code 2010 1 2011 (.ishr) := ⟨by decide +kernel, rfl⟩
set_option maxRecDepth 100000 in
theorem ii_la_law_2011 : sm_D code 2011 2 2013 (.bipush 6) := ⟨by decide +kernel, rfl⟩
set_option maxRecDepth 100000 in
theorem ii_la_law_2013 : sm_D code 2013 3 2016 (.invokestatic 15) := ⟨by decide +kernel, rfl⟩
set_option maxRecDepth 100000 in
theorem ii_la_law_2016 : sm_D code 2016 3 2019 (.invokevirtual 162) := ⟨by decide +kernel, rfl⟩
set_option maxRecDepth 100000 in
theorem ii_la_law_2019 : sm_D code 2019 2 2021 (.istore 40) := ⟨by decide +kernel, rfl⟩
set_option maxRecDepth 100000 in
theorem ii_la_law_2021 : sm_D code 2021 1 2022 (.aload_n 1) := ⟨by decide +kernel, rfl⟩
set_option maxRecDepth 100000 in
theorem ii_la_law_2022 : sm_D code 2022 3 2025 (.invokevirtual 78) := ⟨by decide +kernel, rfl⟩
set_option maxRecDepth 100000 in
theorem ii_la_law_2025 : sm_D code 2025 2 2027 (.istore 41) := ⟨by decide +kernel, rfl⟩
set_option maxRecDepth 100000 in
theorem ii_la_law_2027 : sm_D code 2027 2 2029 (.iload 40) := ⟨by decide +kernel, rfl⟩
set_option maxRecDepth 100000 in
theorem ii_la_law_2029 : sm_D code 2029 2 2031 (.bipush (-9)) := ⟨by decide +kernel, rfl⟩
set_option maxRecDepth 100000 in
theorem ii_la_law_2031 : sm_D code 2031 3 2034 (.if_icmp .lt 85) := ⟨by decide +kernel, rfl⟩
set_option maxRecDepth 100000 in
theorem ii_la_law_2034 : sm_D code 2034 2 2036 (.iload 40) := ⟨by decide +kernel, rfl⟩
set_option maxRecDepth 100000 in
theorem ii_la_law_2036 : sm_D code 2036 2 2038 (.bipush 6) := ⟨by decide +kernel, rfl⟩
set_option maxRecDepth 100000 in
theorem ii_la_law_2038 : sm_D code 2038 3 2041 (.if_icmp .gt 78) := ⟨by decide +kernel, rfl⟩
set_option maxRecDepth 100000 in
theorem ii_la_law_2041 : sm_D code 2041 2 2043 (.iload 40) := ⟨by decide +kernel, rfl⟩
set_option maxRecDepth 100000 in
theorem ii_la_law_2043 : sm_D code 2043 2 2045 (.bipush (-9)) := ⟨by decide +kernel, rfl⟩
set_option maxRecDepth 100000 in
theorem ii_la_law_2045 : sm_D code 2045 3 2048 (.if_icmp .le 25) := ⟨by decide +kernel, rfl⟩
set_option maxRecDepth 100000 in
theorem ii_la_law_2048 : sm_D code 2048 2 2050 (.iload 40) := ⟨by decide +kernel, rfl⟩
set_option maxRecDepth 100000 in
theorem ii_la_law_2050 : sm_D code 2050 3 2053 (.ifCond .lt 66) := ⟨by decide +kernel, rfl⟩
set_option maxRecDepth 100000 in
theorem ii_la_law_2053 : sm_D code 2053 2 2055 (.iload 5) := ⟨by decide +kernel, rfl⟩
set_option maxRecDepth 100000 in
theorem ii_la_law_2055 : sm_D code 2055 2 2057 (.bipush 6) := ⟨by decide +kernel, rfl⟩
set_option maxRecDepth 100000 in
theorem ii_la_law_2057 : sm_D code 2057 3 2060 (.if_icmp .eq 59) := ⟨by decide +kernel, rfl⟩
set_option maxRecDepth 100000 in
theorem ii_la_law_2060 : sm_D code 2060 2 2062 (.iload 41) := ⟨by decide +kernel, rfl⟩
set_option maxRecDepth 100000 in
theorem ii_la_law_2062 : sm_D code 2062 3 2065 (.invokestatic 134) := ⟨by decide +kernel, rfl⟩
set_option maxRecDepth 100000 in
theorem ii_la_law_2065 : sm_D code 2065 2 2067 (.iload 40) := ⟨by decide +kernel, rfl⟩
set_option maxRecDepth 100000 in
theorem ii_la_law_2067 : sm_D code 2067 3 2070 (.if_icmp .ne 49) := ⟨by decide +kernel, rfl⟩
set_option maxRecDepth 100000 in
theorem ii_la_law_2070 : sm_D code 2070 2 2072 (.iload 5) := ⟨by decide +kernel, rfl⟩
set_option maxRecDepth 100000 in
theorem ii_la_law_2072 : sm_D code 2072 2 2074 (.bipush 6) := ⟨by decide +kernel, rfl⟩
set_option maxRecDepth 100000 in
theorem ii_la_law_2074 : sm_D code 2074 3 2077 (.if_icmp .ge 28) := ⟨by decide +kernel, rfl⟩
set_option maxRecDepth 100000 in
theorem ii_la_law_2077 : sm_D code 2077 2 2079 (.iload 40) := ⟨by decide +kernel, rfl⟩
set_option maxRecDepth 100000 in
theorem ii_la_law_2079 : sm_D code 2079 3 2082 (.ifCond .ne 7) := ⟨by decide +kernel, rfl⟩
set_option maxRecDepth 100000 in
theorem ii_la_law_2082 : sm_D code 2082 1 2083 (.iconst 1) := ⟨by decide +kernel, rfl⟩
set_option maxRecDepth 100000 in
theorem ii_la_law_2083 : sm_D code 2083 3 2086 (.goto 4) := ⟨by decide +kernel, rfl⟩
set_option maxRecDepth 100000 in
theorem ii_la_law_2086 : sm_D code 2086 1 2087 (.iconst 0) := ⟨by decide +kernel, rfl⟩
set_option maxRecDepth 100000 in
theorem ii_la_law_2087 : sm_D code 2087 2 2089 (.lload 21) := ⟨by decide +kernel, rfl⟩
set_option maxRecDepth 100000 in
theorem ii_la_law_2089 : sm_D code 2089 1 2090 (.lconst 0) := ⟨by decide +kernel, rfl⟩
set_option maxRecDepth 100000 in
theorem ii_la_law_2090 : sm_D code 2090 1 2091 (.lcmp) := ⟨by decide +kernel, rfl⟩
set_option maxRecDepth 100000 in
theorem ii_la_law_2091 : sm_D code 2091 3 2094 (.ifCond .le 7) := ⟨by decide +kernel, rfl⟩
set_option maxRecDepth 100000 in
theorem ii_la_law_2094 : sm_D code 2094 1 2095 (.iconst 1) := ⟨by decide +kernel, rfl⟩
set_option maxRecDepth 100000 in
theorem ii_la_law_2095 : sm_D code 2095 3 2098 (.goto 4) := ⟨by decide +kernel, rfl⟩
set_option maxRecDepth 100000 in
theorem ii_la_law_2098 : sm_D code 2098 1 2099 (.iconst 0) := ⟨by decide +kernel, rfl⟩
set_option maxRecDepth 100000 in
theorem ii_la_law_2099 : sm_D code 2099 3 2102 (.if_icmp .ne 17) := ⟨by decide +kernel, rfl⟩
set_option maxRecDepth 100000 in
theorem ii_la_law_2102 : sm_D code 2102 2 2104 (.iload 5) := ⟨by decide +kernel, rfl⟩
set_option maxRecDepth 100000 in
theorem ii_la_law_2104 : sm_D code 2104 2 2106 (.bipush 6) := ⟨by decide +kernel, rfl⟩
set_option maxRecDepth 100000 in
theorem ii_la_law_2106 : sm_D code 2106 3 2109 (.if_icmp .ne 12) := ⟨by decide +kernel, rfl⟩
set_option maxRecDepth 100000 in
theorem ii_la_law_2109 : sm_D code 2109 2 2111 (.iload 40) := ⟨by decide +kernel, rfl⟩
set_option maxRecDepth 100000 in
theorem ii_la_law_2111 : sm_D code 2111 2 2113 (.bipush (-9)) := ⟨by decide +kernel, rfl⟩
set_option maxRecDepth 100000 in
theorem ii_la_law_2113 : sm_D code 2113 3 2116 (.if_icmp .eq 5) := ⟨by decide +kernel, rfl⟩
set_option maxRecDepth 100000 in
theorem ii_la_law_2116 : sm_D code 2116 1 2117 (.iconst 0) := ⟨by decide +kernel, rfl⟩
set_option maxRecDepth 100000 in
theorem ii_la_law_2117 : sm_D code 2117 1 2118 (.ireturn) := ⟨by decide +kernel, rfl⟩
set_option maxRecDepth 100000 in
theorem ii_la_law_2118 : sm_D code 2118 1 2119 (.aload_n 1) := ⟨by decide +kernel, rfl⟩
set_option maxRecDepth 100000 in
theorem ii_la_law_2119 : sm_D code 2119 1 2120 (.iconst 1) := ⟨by decide +kernel, rfl⟩
set_option maxRecDepth 100000 in
theorem ii_la_law_2120 : sm_D code 2120 2 2122 (.iload 13) := ⟨by decide +kernel, rfl⟩
set_option maxRecDepth 100000 in
theorem ii_la_law_2122 : sm_D code 2122 3 2125 (.invokevirtual 114) := ⟨by decide +kernel, rfl⟩
set_option maxRecDepth 100000 in
theorem ii_la_law_2125 : sm_D code 2125 2 2127 (.iload 13) := ⟨by decide +kernel, rfl⟩
set_option maxRecDepth 100000 in
theorem ii_la_law_2127 : sm_D code 2127 3 2130 (.if_icmp .eq 5) := ⟨by decide +kernel, rfl⟩
set_option maxRecDepth 100000 in
theorem ii_la_law_2130 : sm_D code 2130 1 2131 (.iconst 0) := ⟨by decide +kernel, rfl⟩
set_option maxRecDepth 100000 in
theorem ii_la_law_2131 : sm_D code 2131 1 2132 (.ireturn) := ⟨by decide +kernel, rfl⟩
set_option maxRecDepth 100000 in
theorem ii_la_law_2132 : sm_D code 2132 1 2133 (.iconst 0) := ⟨by decide +kernel, rfl⟩
set_option maxRecDepth 100000 in
theorem ii_la_law_2133 : sm_D code 2133 2 2135 (.istore 42) := ⟨by decide +kernel, rfl⟩
set_option maxRecDepth 100000 in
theorem ii_la_law_2135 : sm_D code 2135 2 2137 (.iload 42) := ⟨by decide +kernel, rfl⟩
set_option maxRecDepth 100000 in
theorem ii_la_law_2137 : sm_D code 2137 2 2139 (.iload 13) := ⟨by decide +kernel, rfl⟩
set_option maxRecDepth 100000 in
theorem ii_la_law_2139 : sm_D code 2139 3 2142 (.if_icmp .ge 28) := ⟨by decide +kernel, rfl⟩
set_option maxRecDepth 100000 in
theorem ii_la_law_2142 : sm_D code 2142 1 2143 (.aload_n 1) := ⟨by decide +kernel, rfl⟩
set_option maxRecDepth 100000 in
theorem ii_la_law_2143 : sm_D code 2143 1 2144 (.iconst 1) := ⟨by decide +kernel, rfl⟩
set_option maxRecDepth 100000 in
theorem ii_la_law_2144 : sm_D code 2144 2 2146 (.iload 42) := ⟨by decide +kernel, rfl⟩
set_option maxRecDepth 100000 in
theorem ii_la_law_2146 : sm_D code 2146 1 2147 (.aload_n 1) := ⟨by decide +kernel, rfl⟩
set_option maxRecDepth 100000 in
theorem ii_la_law_2147 : sm_D code 2147 2 2149 (.iload 42) := ⟨by decide +kernel, rfl⟩
set_option maxRecDepth 100000 in
theorem ii_la_law_2149 : sm_D code 2149 3 2152 (.invokevirtual 99) := ⟨by decide +kernel, rfl⟩
set_option maxRecDepth 100000 in
theorem ii_la_law_2152 : sm_D code 2152 3 2155 (.invokevirtual 117) := ⟨by decide +kernel, rfl⟩
set_option maxRecDepth 100000 in
theorem ii_la_law_2155 : sm_D code 2155 1 2156 (.iconst 1) := ⟨by decide +kernel, rfl⟩
set_option maxRecDepth 100000 in
theorem ii_la_law_2156 : sm_D code 2156 3 2159 (.if_icmp .eq 5) := ⟨by decide +kernel, rfl⟩
set_option maxRecDepth 100000 in
theorem ii_la_law_2159 : sm_D code 2159 1 2160 (.iconst 0) := ⟨by decide +kernel, rfl⟩
set_option maxRecDepth 100000 in
theorem ii_la_law_2160 : sm_D code 2160 1 2161 (.ireturn) := ⟨by decide +kernel, rfl⟩
set_option maxRecDepth 100000 in
theorem ii_la_law_2161 : sm_D code 2161 3 2164 (.iinc 42 1) := ⟨by decide +kernel, rfl⟩
set_option maxRecDepth 100000 in
theorem ii_la_law_2164 : sm_D code 2164 3 2167 (.goto (-29)) := ⟨by decide +kernel, rfl⟩
set_option maxRecDepth 100000 in
theorem ii_la_law_2167 : sm_D code 2167 1 2168 (.aload_n 1) := ⟨by decide +kernel, rfl⟩
set_option maxRecDepth 100000 in
theorem ii_la_law_2168 : sm_D code 2168 1 2169 (.iconst 1) := ⟨by decide +kernel, rfl⟩
set_option maxRecDepth 100000 in
theorem ii_la_law_2169 : sm_D code 2169 3 2172 (.invokevirtual 165) := ⟨by decide +kernel, rfl⟩
set_option maxRecDepth 100000 in
theorem ii_la_law_2172 : sm_D code 2172 3 2175 (.ifCond .ne 53) := ⟨by decide +kernel, rfl⟩
set_option maxRecDepth 100000 in
theorem ii_la_law_2175 : sm_D code 2175 1 2176 (.aload_n 1) := ⟨by decide +kernel, rfl⟩
set_option maxRecDepth 100000 in
theorem ii_la_law_2176 : sm_D code 2176 1 2177 (.iconst 0) := ⟨by decide +kernel, rfl⟩
set_option maxRecDepth 100000 in
theorem ii_la_law_2177 : sm_D code 2177 3 2180 (.invokevirtual 165) := ⟨by decide +kernel, rfl⟩
set_option maxRecDepth 100000 in
theorem ii_la_law_2180 : sm_D code 2180 2 2182 (.iload 20) := ⟨by decide +kernel, rfl⟩
set_option maxRecDepth 100000 in
theorem ii_la_law_2182 : sm_D code 2182 2 2184 (.iload 13) := ⟨by decide +kernel, rfl⟩
set_option maxRecDepth 100000 in
theorem ii_la_law_2184 : sm_D code 2184 3 2187 (.if_icmp .le 11) := ⟨by decide +kernel, rfl⟩
set_option maxRecDepth 100000 in
theorem ii_la_law_2187 : sm_D code 2187 2 2189 (.iload 20) := ⟨by decide +kernel, rfl⟩
set_option maxRecDepth 100000 in
theorem ii_la_law_2189 : sm_D code 2189 2 2191 (.iload 13) := ⟨by decide +kernel, rfl⟩
set_option maxRecDepth 100000 in
theorem ii_la_law_2191 : sm_D code 2191 1 2192 (.isub) := ⟨by decide +kernel, rfl⟩
set_option maxRecDepth 100000 in
theorem ii_la_law_2192 : sm_D code 2192 3 2195 (.goto 8) := ⟨by decide +kernel, rfl⟩
set_option maxRecDepth 100000 in
theorem ii_la_law_2195 : sm_D code 2195 2 2197 (.iload 13) := ⟨by decide +kernel, rfl⟩
set_option maxRecDepth 100000 in
theorem ii_la_law_2197 : sm_D code 2197 2 2199 (.iload 20) := ⟨by decide +kernel, rfl⟩
set_option maxRecDepth 100000 in
theorem ii_la_law_2199 : sm_D code 2199 1 2200 (.isub) := ⟨by decide +kernel, rfl⟩
set_option maxRecDepth 100000 in
theorem ii_la_law_2200 : sm_D code 2200 3 2203 (.if_icmp .lt 25) := ⟨by decide +kernel, rfl⟩
set_option maxRecDepth 100000 in
theorem ii_la_law_2203 : sm_D code 2203 1 2204 (.aload_n 1) := ⟨by decide +kernel, rfl⟩
set_option maxRecDepth 100000 in
theorem ii_la_law_2204 : sm_D code 2204 1 2205 (.iconst 0) := ⟨by decide +kernel, rfl⟩
set_option maxRecDepth 100000 in
theorem ii_la_law_2205 : sm_D code 2205 3 2208 (.invokevirtual 165) := ⟨by decide +kernel, rfl⟩
set_option maxRecDepth 100000 in
theorem ii_la_law_2208 : sm_D code 2208 2 2210 (.iload 20) := ⟨by decide +kernel, rfl⟩
set_option maxRecDepth 100000 in
theorem ii_la_law_2210 : sm_D code 2210 2 2212 (.iload 13) := ⟨by decide +kernel, rfl⟩
set_option maxRecDepth 100000 in
theorem ii_la_law_2212 : sm_D code 2212 3 2215 (.if_icmp .le 8) := ⟨by decide +kernel, rfl⟩
set_option maxRecDepth 100000 in
theorem ii_la_law_2215 : sm_D code 2215 2 2217 (.iload 20) := ⟨by decide +kernel, rfl⟩
set_option maxRecDepth 100000 in
theorem ii_la_law_2217 : sm_D code 2217 3 2220 (.goto 5) := ⟨by decide +kernel, rfl⟩
set_option maxRecDepth 100000 in
theorem ii_la_law_2220 : sm_D code 2220 2 2222 (.iload 13) := ⟨by decide +kernel, rfl⟩
set_option maxRecDepth 100000 in
theorem ii_la_law_2222 : sm_D code 2222 3 2225 (.if_icmp .le 5) := ⟨by decide +kernel, rfl⟩
set_option maxRecDepth 100000 in
theorem ii_la_law_2225 : sm_D code 2225 1 2226 (.iconst 0) := ⟨by decide +kernel, rfl⟩
set_option maxRecDepth 100000 in
theorem ii_la_law_2226 : sm_D code 2226 1 2227 (.ireturn) := ⟨by decide +kernel, rfl⟩
set_option maxRecDepth 100000 in
theorem ii_la_law_2227 : sm_D code 2227 1 2228 (.aload_n 1) := ⟨by decide +kernel, rfl⟩
set_option maxRecDepth 100000 in
theorem ii_la_law_2228 : sm_D code 2228 1 2229 (.iconst 1) := ⟨by decide +kernel, rfl⟩
set_option maxRecDepth 100000 in
theorem ii_la_law_2229 : sm_D code 2229 3 2232 (.invokevirtual 168) := ⟨by decide +kernel, rfl⟩
set_option maxRecDepth 100000 in
theorem ii_la_law_2232 : sm_D code 2232 2 2234 (.istore 42) := ⟨by decide +kernel, rfl⟩
set_option maxRecDepth 100000 in
theorem ii_la_law_2234 : sm_D code 2234 2 2236 (.iload 42) := ⟨by decide +kernel, rfl⟩
set_option maxRecDepth 100000 in
theorem ii_la_law_2236 : sm_D code 2236 2 2238 (.iload 16) := ⟨by decide +kernel, rfl⟩
set_option maxRecDepth 100000 in
theorem ii_la_law_2238 : sm_D code 2238 3 2241 (.ifCond .ne 7) := ⟨by decide +kernel, rfl⟩
set_option maxRecDepth 100000 in
theorem ii_la_law_2241 : sm_D code 2241 1 2242 (.iconst 1) := ⟨by decide +kernel, rfl⟩
set_option maxRecDepth 100000 in
theorem ii_la_law_2242 : sm_D code 2242 3 2245 (.goto 5) := ⟨by decide +kernel, rfl⟩
set_option maxRecDepth 100000 in
theorem ii_la_law_2245 : sm_D code 2245 2 2247 (.bipush (-9)) := ⟨by decide +kernel, rfl⟩
set_option maxRecDepth 100000 in
theorem ii_la_law_2247 : sm_D code 2247 3 2250 (.if_icmp .ne 52) := ⟨by decide +kernel, rfl⟩
set_option maxRecDepth 100000 in
theorem ii_la_law_2250 : sm_D code 2250 2 2252 (.iload 16) := ⟨by decide +kernel, rfl⟩
set_option maxRecDepth 100000 in
theorem ii_la_law_2252 : sm_D code 2252 3 2255 (.ifCond .ne 21) := ⟨by decide +kernel, rfl⟩
set_option maxRecDepth 100000 in
theorem ii_la_law_2255 : sm_D code 2255 1 2256 (.aload_n 1) := ⟨by decide +kernel, rfl⟩
set_option maxRecDepth 100000 in
theorem ii_la_law_2256 : sm_D code 2256 1 2257 (.iconst 2) := ⟨by decide +kernel, rfl⟩
set_option maxRecDepth 100000 in
theorem ii_la_law_2257 : sm_D code 2257 3 2260 (.invokevirtual 168) := ⟨by decide +kernel, rfl⟩
set_option maxRecDepth 100000 in
theorem ii_la_law_2260 : sm_D code 2260 1 2261 (.iconst 1) := ⟨by decide +kernel, rfl⟩
set_option maxRecDepth 100000 in
theorem ii_la_law_2261 : sm_D code 2261 3 2264 (.if_icmp .ne 38) := ⟨by decide +kernel, rfl⟩
set_option maxRecDepth 100000 in
theorem ii_la_law_2264 : sm_D code 2264 1 2265 (.aload_n 1) := ⟨by decide +kernel, rfl⟩
set_option maxRecDepth 100000 in
theorem ii_la_law_2265 : sm_D code 2265 1 2266 (.iconst 3) := ⟨by decide +kernel, rfl⟩
set_option maxRecDepth 100000 in
theorem ii_la_law_2266 : sm_D code 2266 3 2269 (.invokevirtual 168) := ⟨by decide +kernel, rfl⟩
set_option maxRecDepth 100000 in
theorem ii_la_law_2269 : sm_D code 2269 1 2270 (.iconst 1) := ⟨by decide +kernel, rfl⟩
set_option maxRecDepth 100000 in
theorem ii_la_law_2270 : sm_D code 2270 3 2273 (.if_icmp .ne 29) := ⟨by decide +kernel, rfl⟩
set_option maxRecDepth 100000 in
theorem ii_la_law_2273 : sm_D code 2273 1 2274 (.aload_n 1) := ⟨by decide +kernel, rfl⟩
set_option maxRecDepth 100000 in
theorem ii_la_law_2274 : sm_D code 2274 1 2275 (.iconst 0) := ⟨by decide +kernel, rfl⟩
set_option maxRecDepth 100000 in
theorem ii_la_law_2275 : sm_D code 2275 3 2278 (.invokevirtual 168) := ⟨by decide +kernel, rfl⟩
set_option maxRecDepth 100000 in
theorem ii_la_law_2278 : sm_D code 2278 2 2280 (.bipush (-9)) := ⟨by decide +kernel, rfl⟩
set_option maxRecDepth 100000 in
theorem ii_la_law_2280 : sm_D code 2280 3 2283 (.if_icmp .ne 19) := ⟨by decide +kernel, rfl⟩
set_option maxRecDepth 100000 in
theorem ii_la_law_2283 : sm_D code 2283 1 2284 (.aload_n 1) := ⟨by decide +kernel, rfl⟩
set_option maxRecDepth 100000 in
theorem ii_la_law_2284 : sm_D code 2284 1 2285 (.iconst 2) := ⟨by decide +kernel, rfl⟩
set_option maxRecDepth 100000 in
theorem ii_la_law_2285 : sm_D code 2285 3 2288 (.invokevirtual 168) := ⟨by decide +kernel, rfl⟩
set_option maxRecDepth 100000 in
theorem ii_la_law_2288 : sm_D code 2288 3 2291 (.ifCond .ne 13) := ⟨by decide +kernel, rfl⟩
set_option maxRecDepth 100000 in
theorem ii_la_law_2291 : sm_D code 2291 1 2292 (.aload_n 1) := ⟨by decide +kernel, rfl⟩
set_option maxRecDepth 100000 in
theorem ii_la_law_2292 : sm_D code 2292 1 2293 (.iconst 3) := ⟨by decide +kernel, rfl⟩
set_option maxRecDepth 100000 in
theorem ii_la_law_2293 : sm_D code 2293 3 2296 (.invokevirtual 168) := ⟨by decide +kernel, rfl⟩
set_option maxRecDepth 100000 in
theorem ii_la_law_2296 : sm_D code 2296 3 2299 (.ifCond .eq 5) := ⟨by decide +kernel, rfl⟩
set_option maxRecDepth 100000 in
theorem ii_la_law_2299 : sm_D code 2299 1 2300 (.iconst 0) := ⟨by decide +kernel, rfl⟩
set_option maxRecDepth 100000 in
theorem ii_la_law_2300 : sm_D code 2300 1 2301 (.ireturn) := ⟨by decide +kernel, rfl⟩
set_option maxRecDepth 100000 in
theorem ii_la_law_2301 : sm_D code 2301 2 2303 (.iload 10) := ⟨by decide +kernel, rfl⟩
set_option maxRecDepth 100000 in
theorem ii_la_law_2303 : sm_D code 2303 2 2305 (.bipush 13) := ⟨by decide +kernel, rfl⟩
set_option maxRecDepth 100000 in
theorem ii_la_law_2305 : sm_D code 2305 1 2306 (.ishr) := ⟨by decide +kernel, rfl⟩
set_option maxRecDepth 100000 in
theorem ii_la_law_2306 : sm_D code 2306 2 2308 (.bipush 13) := ⟨by decide +kernel, rfl⟩
set_option maxRecDepth 100000 in
theorem ii_la_law_2308 : sm_D code 2308 3 2311 (.invokestatic 15) := ⟨by decide +kernel, rfl⟩
set_option maxRecDepth 100000 in
theorem ii_la_law_2311 : sm_D code 2311 2 2313 (.istore 43) := ⟨by decide +kernel, rfl⟩
set_option maxRecDepth 100000 in
theorem ii_la_law_2313 : sm_D code 2313 1 2314 (.aload_n 1) := ⟨by decide +kernel, rfl⟩
set_option maxRecDepth 100000 in
theorem ii_la_law_2314 : sm_D code 2314 1 2315 (.iconst 0) := ⟨by decide +kernel, rfl⟩
set_option maxRecDepth 100000 in
theorem ii_la_law_2315 : sm_D code 2315 1 2316 (.iconst 0) := ⟨by decide +kernel, rfl⟩
set_option maxRecDepth 100000 in
theorem ii_la_law_2316 : sm_D code 2316 3 2319 (.invokevirtual 171) := ⟨by decide +kernel, rfl⟩
set_option maxRecDepth 100000 in
theorem ii_la_law_2319 : sm_D code 2319 1 2320 (.iconst 1) := ⟨by decide +kernel, rfl⟩
set_option maxRecDepth 100000 in
theorem ii_la_law_2320 : sm_D code 2320 3 2323 (.if_icmp .ne 175) := ⟨by decide +kernel, rfl⟩
set_option maxRecDepth 100000 in
theorem ii_la_law_2323 : sm_D code 2323 1 2324 (.aload_n 1) := ⟨by decide +kernel, rfl⟩
set_option maxRecDepth 100000 in
theorem ii_la_law_2324 : sm_D code 2324 3 2327 (.invokevirtual 123) := ⟨by decide +kernel, rfl⟩
set_option maxRecDepth 100000 in
theorem ii_la_law_2327 : sm_D code 2327 2 2329 (.lload 21) := ⟨by decide +kernel, rfl⟩
set_option maxRecDepth 100000 in
theorem ii_la_law_2329 : sm_D code 2329 1 2330 (.lconst 0) := ⟨by decide +kernel, rfl⟩
set_option maxRecDepth 100000 in
theorem ii_la_law_2330 : sm_D code 2330 1 2331 (.lcmp) := ⟨by decide +kernel, rfl⟩
set_option maxRecDepth 100000 in
theorem ii_la_law_2331 : sm_D code 2331 3 2334 (.ifCond .le 7) := ⟨by decide +kernel, rfl⟩
set_option maxRecDepth 100000 in
theorem ii_la_law_2334 : sm_D code 2334 1 2335 (.lconst 1) := ⟨by decide +kernel, rfl⟩
set_option maxRecDepth 100000 in
theorem ii_la_law_2335 : sm_D code 2335 3 2338 (.goto 4) := ⟨by decide +kernel, rfl⟩
set_option maxRecDepth 100000 in
theorem ii_la_law_2338 : sm_D code 2338 1 2339 (.lconst 0) := ⟨by decide +kernel, rfl⟩
set_option maxRecDepth 100000 in
theorem ii_la_law_2339 : sm_D code 2339 1 2340 (.lcmp) := ⟨by decide +kernel, rfl⟩
set_option maxRecDepth 100000 in
theorem ii_la_law_2340 : sm_D code 2340 3 2343 (.ifCond .ne 155) := ⟨by decide +kernel, rfl⟩
set_option maxRecDepth 100000 in
theorem ii_la_law_2343 : sm_D code 2343 1 2344 (.aload_n 1) := ⟨by decide +kernel, rfl⟩
set_option maxRecDepth 100000 in
theorem ii_la_law_2344 : sm_D code 2344 3 2347 (.invokevirtual 174) := ⟨by decide +kernel, rfl⟩
set_option maxRecDepth 100000 in
theorem ii_la_law_2347 : sm_D code 2347 1 2348 (.lconst 1) := ⟨by decide +kernel, rfl⟩
set_option maxRecDepth 100000 in
theorem ii_la_law_2348 : sm_D code 2348 1 2349 (.lcmp) := ⟨by decide +kernel, rfl⟩
set_option maxRecDepth 100000 in
theorem ii_la_law_2349 : sm_D code 2349 3 2352 (.ifCond .ne 146) := ⟨by decide +kernel, rfl⟩
set_option maxRecDepth 100000 in
theorem ii_la_law_2352 : sm_D code 2352 1 2353 (.aload_n 1) := ⟨by decide +kernel, rfl⟩
set_option maxRecDepth 100000 in
theorem ii_la_law_2353 : sm_D code 2353 1 2354 (.iconst 0) := ⟨by decide +kernel, rfl⟩
set_option maxRecDepth 100000 in
theorem ii_la_law_2354 : sm_D code 2354 1 2355 (.iconst 0) := ⟨by decide +kernel, rfl⟩
set_option maxRecDepth 100000 in
theorem ii_la_law_2355 : sm_D code 2355 3 2358 (.invokevirtual 177) := ⟨by decide +kernel, rfl⟩
set_option maxRecDepth 100000 in
theorem ii_la_law_2358 : sm_D code 2358 1 2359 (.iconst 1) := ⟨by decide +kernel, rfl⟩
set_option maxRecDepth 100000 in
theorem ii_la_law_2359 : sm_D code 2359 3 2362 (.if_icmp .ne 136) := ⟨by decide +kernel, rfl⟩
set_option maxRecDepth 100000 in
theorem ii_la_law_2362 : sm_D code 2362 1 2363 (.aload_n 1) := ⟨by decide +kernel, rfl⟩
set_option maxRecDepth 100000 in
theorem ii_la_law_2363 : sm_D code 2363 3 2366 (.invokevirtual 123) := ⟨by decide +kernel, rfl⟩
set_option maxRecDepth 100000 in
theorem ii_la_law_2366 : sm_D code 2366 2 2368 (.iload 24) := ⟨by decide +kernel, rfl⟩
set_option maxRecDepth 100000 in
theorem ii_la_law_2368 : sm_D code 2368 1 2369 (.i2l) := ⟨by decide +kernel, rfl⟩
set_option maxRecDepth 100000 in
theorem ii_la_law_2369 : sm_D code 2369 1 2370 (.lcmp) := ⟨by decide +kernel, rfl⟩
set_option maxRecDepth 100000 in
theorem ii_la_law_2370 : sm_D code 2370 3 2373 (.ifCond .ne 125) := ⟨by decide +kernel, rfl⟩
set_option maxRecDepth 100000 in
theorem ii_la_law_2373 : sm_D code 2373 1 2374 (.aload_n 1) := ⟨by decide +kernel, rfl⟩
set_option maxRecDepth 100000 in
theorem ii_la_law_2374 : sm_D code 2374 3 2377 (.invokevirtual 174) := ⟨by decide +kernel, rfl⟩
set_option maxRecDepth 100000 in
theorem ii_la_law_2377 : sm_D code 2377 1 2378 (.lconst 1) := ⟨by decide +kernel, rfl⟩
set_option maxRecDepth 100000 in
theorem ii_la_law_2378 : sm_D code 2378 1 2379 (.lcmp) := ⟨by decide +kernel, rfl⟩
set_option maxRecDepth 100000 in
theorem ii_la_law_2379 : sm_D code 2379 3 2382 (.ifCond .ne 116) := ⟨by decide +kernel, rfl⟩
set_option maxRecDepth 100000 in
theorem ii_la_law_2382 : sm_D code 2382 1 2383 (.aload_n 1) := ⟨by decide +kernel, rfl⟩
set_option maxRecDepth 100000 in
theorem ii_la_law_2383 : sm_D code 2383 1 2384 (.iconst 0) := ⟨by decide +kernel, rfl⟩
set_option maxRecDepth 100000 in
theorem ii_la_law_2384 : sm_D code 2384 2 2386 (.bipush 12) := ⟨by decide +kernel, rfl⟩
set_option maxRecDepth 100000 in
theorem ii_la_law_2386 : sm_D code 2386 3 2389 (.invokevirtual 171) := ⟨by decide +kernel, rfl⟩
set_option maxRecDepth 100000 in
theorem ii_la_law_2389 : sm_D code 2389 1 2390 (.iconst 1) := ⟨by decide +kernel, rfl⟩
set_option maxRecDepth 100000 in
theorem ii_la_law_2390 : sm_D code 2390 3 2393 (.if_icmp .ne 105) := ⟨by decide +kernel, rfl⟩
set_option maxRecDepth 100000 in
theorem ii_la_law_2393 : sm_D code 2393 1 2394 (.aload_n 1) := ⟨by decide +kernel, rfl⟩
set_option maxRecDepth 100000 in
theorem ii_la_law_2394 : sm_D code 2394 3 2397 (.invokevirtual 123) := ⟨by decide +kernel, rfl⟩
set_option maxRecDepth 100000 in
theorem ii_la_law_2397 : sm_D code 2397 2 2399 (.iload 20) := ⟨by decide +kernel, rfl⟩
set_option maxRecDepth 100000 in
theorem ii_la_law_2399 : sm_D code 2399 3 2402 (.ifCond .ne 7) := ⟨by decide +kernel, rfl⟩
set_option maxRecDepth 100000 in
theorem ii_la_law_2402 : sm_D code 2402 1 2403 (.lconst 1) := ⟨by decide +kernel, rfl⟩
set_option maxRecDepth 100000 in
theorem ii_la_law_2403 : sm_D code 2403 3 2406 (.goto 4) := ⟨by decide +kernel, rfl⟩
set_option maxRecDepth 100000 in
theorem ii_la_law_2406 : sm_D code 2406 1 2407 (.lconst 0) := ⟨by decide +kernel, rfl⟩
set_option maxRecDepth 100000 in
theorem ii_la_law_2407 : sm_D code 2407 1 2408 (.lcmp) := ⟨by decide +kernel, rfl⟩
set_option maxRecDepth 100000 in
theorem ii_la_law_2408 : sm_D code 2408 3 2411 (.ifCond .ne 87) := ⟨by decide +kernel, rfl⟩
set_option maxRecDepth 100000 in
theorem ii_la_law_2411 : sm_D code 2411 1 2412 (.aload_n 1) := ⟨by decide +kernel, rfl⟩
set_option maxRecDepth 100000 in
theorem ii_la_law_2412 : sm_D code 2412 1 2413 (.iconst 0) := ⟨by decide +kernel, rfl⟩
set_option maxRecDepth 100000 in
theorem ii_la_law_2413 : sm_D code 2413 2 2415 (.iload 43) := ⟨by decide +kernel, rfl⟩
set_option maxRecDepth 100000 in
theorem ii_la_law_2415 : sm_D code 2415 3 2418 (.invokevirtual 171) := ⟨by decide +kernel, rfl⟩
set_option maxRecDepth 100000 in
theorem ii_la_law_2418 : sm_D code 2418 1 2419 (.iconst 1) := ⟨by decide +kernel, rfl⟩
set_option maxRecDepth 100000 in
theorem ii_la_law_2419 : sm_D code 2419 3 2422 (.if_icmp .ne 76) := ⟨by decide +kernel, rfl⟩
set_option maxRecDepth 100000 in
theorem ii_la_law_2422 : sm_D code 2422 1 2423 (.aload_n 1) := ⟨by decide +kernel, rfl⟩
set_option maxRecDepth 100000 in
theorem ii_la_law_2423 : sm_D code 2423 3 2426 (.invokevirtual 123) := ⟨by decide +kernel, rfl⟩
set_option maxRecDepth 100000 in
theorem ii_la_law_2426 : sm_D code 2426 1 2427 (.lconst 0) := ⟨by decide +kernel, rfl⟩
set_option maxRecDepth 100000 in
theorem ii_la_law_2427 : sm_D code 2427 1 2428 (.lcmp) := ⟨by decide +kernel, rfl⟩
set_option maxRecDepth 100000 in
theorem ii_la_law_2428 : sm_D code 2428 3 2431 (.ifCond .lt 67) := ⟨by decide +kernel, rfl⟩
set_option maxRecDepth 100000 in
theorem ii_la_law_2431 : sm_D code 2431 1 2432 (.aload_n 1) := ⟨by decide +kernel, rfl⟩
set_option maxRecDepth 100000 in
theorem ii_la_law_2432 : sm_D code 2432 3 2435 (.invokevirtual 123) := ⟨by decide +kernel, rfl⟩
set_option maxRecDepth 100000 in
theorem ii_la_law_2435 : sm_D code 2435 1 2436 (.aload_n 1) := ⟨by decide +kernel, rfl⟩
set_option maxRecDepth 100000 in
theorem ii_la_law_2436 : sm_D code 2436 3 2439 (.invokevirtual 174) := ⟨by decide +kernel, rfl⟩
set_option maxRecDepth 100000 in
theorem ii_la_law_2439 : sm_D code 2439 1 2440 (.lcmp) := ⟨by decide +kernel, rfl⟩
set_option maxRecDepth 100000 in
theorem ii_la_law_2440 : sm_D code 2440 3 2443 (.ifCond .gt 55) := ⟨by decide +kernel, rfl⟩
set_option maxRecDepth 100000 in
theorem ii_la_law_2443 : sm_D code 2443 2 2445 (.lload 21) := ⟨by decide +kernel, rfl⟩
set_option maxRecDepth 100000 in
theorem ii_la_law_2445 : sm_D code 2445 1 2446 (.lconst 0) := ⟨by decide +kernel, rfl⟩
set_option maxRecDepth 100000 in
theorem ii_la_law_2446 : sm_D code 2446 1 2447 (.lcmp) := ⟨by decide +kernel, rfl⟩
set_option maxRecDepth 100000 in
theorem ii_la_law_2447 : sm_D code 2447 3 2450 (.ifCond .ne 12) := ⟨by decide +kernel, rfl⟩
set_option maxRecDepth 100000 in
theorem ii_la_law_2450 : sm_D code 2450 1 2451 (.aload_n 1) := ⟨by decide +kernel, rfl⟩
set_option maxRecDepth 100000 in
theorem ii_la_law_2451 : sm_D code 2451 3 2454 (.invokevirtual 123) := ⟨by decide +kernel, rfl⟩
set_option maxRecDepth 100000 in
theorem ii_la_law_2454 : sm_D code 2454 1 2455 (.lconst 0) := ⟨by decide +kernel, rfl⟩
set_option maxRecDepth 100000 in
theorem ii_la_law_2455 : sm_D code 2455 1 2456 (.lcmp) := ⟨by decide +kernel, rfl⟩
set_option maxRecDepth 100000 in
theorem ii_la_law_2456 : sm_D code 2456 3 2459 (.ifCond .ne 39) := ⟨by decide +kernel, rfl⟩
set_option maxRecDepth 100000 in
theorem ii_la_law_2459 : sm_D code 2459 1 2460 (.aload_n 1) := ⟨by decide +kernel, rfl⟩
set_option maxRecDepth 100000 in
theorem ii_la_law_2460 : sm_D code 2460 1 2461 (.iconst 0) := ⟨by decide +kernel, rfl⟩
set_option maxRecDepth 100000 in
theorem ii_la_law_2461 : sm_D code 2461 2 2463 (.iload 43) := ⟨by decide +kernel, rfl⟩
set_option maxRecDepth 100000 in
theorem ii_la_law_2463 : sm_D code 2463 3 2466 (.invokevirtual 177) := ⟨by decide +kernel, rfl⟩
set_option maxRecDepth 100000 in
theorem ii_la_law_2466 : sm_D code 2466 1 2467 (.iconst 1) := ⟨by decide +kernel, rfl⟩
set_option maxRecDepth 100000 in
theorem ii_la_law_2467 : sm_D code 2467 3 2470 (.if_icmp .ne 28) := ⟨by decide +kernel, rfl⟩
set_option maxRecDepth 100000 in
theorem ii_la_law_2470 : sm_D code 2470 1 2471 (.aload_n 1) := ⟨by decide +kernel, rfl⟩
set_option maxRecDepth 100000 in
theorem ii_la_law_2471 : sm_D code 2471 3 2474 (.invokevirtual 123) := ⟨by decide +kernel, rfl⟩
set_option maxRecDepth 100000 in
theorem ii_la_law_2474 : sm_D code 2474 1 2475 (.lconst 0) := ⟨by decide +kernel, rfl⟩
set_option maxRecDepth 100000 in
theorem ii_la_law_2475 : sm_D code 2475 1 2476 (.lcmp) := ⟨by decide +kernel, rfl⟩
set_option maxRecDepth 100000 in
theorem ii_la_law_2476 : sm_D code 2476 3 2479 (.ifCond .lt 19) := ⟨by decide +kernel, rfl⟩
set_option maxRecDepth 100000 in
theorem ii_la_law_2479 : sm_D code 2479 1 2480 (.aload_n 1) := ⟨by decide +kernel, rfl⟩
set_option maxRecDepth 100000 in
theorem ii_la_law_2480 : sm_D code 2480 3 2483 (.invokevirtual 123) := ⟨by decide +kernel, rfl⟩
set_option maxRecDepth 100000 in
theorem ii_la_law_2483 : sm_D code 2483 2 2485 (.iload 24) := ⟨by decide +kernel, rfl⟩
set_option maxRecDepth 100000 in
theorem ii_la_law_2485 : sm_D code 2485 1 2486 (.i2l) := ⟨by decide +kernel, rfl⟩
set_option maxRecDepth 100000 in
theorem ii_la_law_2486 : sm_D code 2486 1 2487 (.aload_n 1) := ⟨by decide +kernel, rfl⟩
set_option maxRecDepth 100000 in
theorem ii_la_law_2487 : sm_D code 2487 3 2490 (.invokevirtual 174) := ⟨by decide +kernel, rfl⟩
set_option maxRecDepth 100000 in
theorem ii_la_law_2490 : sm_D code 2490 1 2491 (.lmul) := ⟨by decide +kernel, rfl⟩
set_option maxRecDepth 100000 in
theorem ii_la_law_2491 : sm_D code 2491 1 2492 (.lcmp) := ⟨by decide +kernel, rfl⟩
set_option maxRecDepth 100000 in
theorem ii_la_law_2492 : sm_D code 2492 3 2495 (.ifCond .le 5) := ⟨by decide +kernel, rfl⟩
set_option maxRecDepth 100000 in
theorem ii_la_law_2495 : sm_D code 2495 1 2496 (.iconst 0) := ⟨by decide +kernel, rfl⟩
set_option maxRecDepth 100000 in
theorem ii_la_law_2496 : sm_D code 2496 1 2497 (.ireturn) := ⟨by decide +kernel, rfl⟩
set_option maxRecDepth 100000 in
theorem ii_la_law_2497 : sm_D code 2497 1 2498 (.aload_n 1) := ⟨by decide +kernel, rfl⟩
set_option maxRecDepth 100000 in
theorem ii_la_law_2498 : sm_D code 2498 1 2499 (.iconst 3) := ⟨by decide +kernel, rfl⟩
set_option maxRecDepth 100000 in
theorem ii_la_law_2499 : sm_D code 2499 1 2500 (.iconst 1) := ⟨by decide +kernel, rfl⟩
set_option maxRecDepth 100000 in
theorem ii_la_law_2500 : sm_D code 2500 2 2502 (.iload 10) := ⟨by decide +kernel, rfl⟩
set_option maxRecDepth 100000 in
theorem ii_la_law_2502 : sm_D code 2502 2 2504 (.ldc 180) := ⟨by decide +kernel, rfl⟩
set_option maxRecDepth 100000 in
theorem ii_la_law_2504 : sm_D code 2504 1 2505 (.iand) := ⟨by decide +kernel, rfl⟩
set_option maxRecDepth 100000 in
theorem ii_la_law_2505 : sm_D code 2505 1 2506 (.iadd) := ⟨by decide +kernel, rfl⟩
set_option maxRecDepth 100000 in
theorem ii_la_law_2506 : sm_D code 2506 3 2509 (.invokevirtual 181) := ⟨by decide +kernel, rfl⟩
set_option maxRecDepth 100000 in
theorem ii_la_law_2509 : sm_D code 2509 2 2511 (.istore 44) := ⟨by decide +kernel, rfl⟩
set_option maxRecDepth 100000 in
theorem ii_la_law_2511 : sm_D code 2511 2 2513 (.iload 44) := ⟨by decide +kernel, rfl⟩
set_option maxRecDepth 100000 in
theorem ii_la_law_2513 : sm_D code 2513 3 2516 (.ifCond .lt 83) := ⟨by decide +kernel, rfl⟩
set_option maxRecDepth 100000 in
theorem ii_la_law_2516 : sm_D code 2516 2 2518 (.iload 44) := ⟨by decide +kernel, rfl⟩
set_option maxRecDepth 100000 in
theorem ii_la_law_2518 : sm_D code 2518 2 2520 (.bipush 8) := ⟨by decide +kernel, rfl⟩
set_option maxRecDepth 100000 in
theorem ii_la_law_2520 : sm_D code 2520 3 2523 (.if_icmp .gt 76) := ⟨by decide +kernel, rfl⟩
set_option maxRecDepth 100000 in
theorem ii_la_law_2523 : sm_D code 2523 1 2524 (.aload_n 1) := ⟨by decide +kernel, rfl⟩
set_option maxRecDepth 100000 in
theorem ii_la_law_2524 : sm_D code 2524 1 2525 (.iconst 2) := ⟨by decide +kernel, rfl⟩
set_option maxRecDepth 100000 in
theorem ii_la_law_2525 : sm_D code 2525 3 2528 (.invokevirtual 96) := ⟨by decide +kernel, rfl⟩
set_option maxRecDepth 100000 in
theorem ii_la_law_2528 : sm_D code 2528 2 2530 (.iload 11) := ⟨by decide +kernel, rfl⟩
set_option maxRecDepth 100000 in
theorem ii_la_law_2530 : sm_D code 2530 1 2531 (.iconst 3) := ⟨by decide +kernel, rfl⟩
set_option maxRecDepth 100000 in
theorem ii_la_law_2531 : sm_D code 2531 1 2532 (.iadd) := ⟨by decide +kernel, rfl⟩
set_option maxRecDepth 100000 in
theorem ii_la_law_2532 : sm_D code 2532 3 2535 (.if_icmp .ne 64) := ⟨by decide +kernel, rfl⟩
set_option maxRecDepth 100000 in
theorem ii_la_law_2535 : sm_D code 2535 1 2536 (.aload_n 1) := ⟨by decide +kernel, rfl⟩
set_option maxRecDepth 100000 in
theorem ii_la_law_2536 : sm_D code 2536 1 2537 (.iconst 3) := ⟨by decide +kernel, rfl⟩
set_option maxRecDepth 100000 in
theorem ii_la_law_2537 : sm_D code 2537 3 2540 (.invokevirtual 96) := ⟨by decide +kernel, rfl⟩
set_option maxRecDepth 100000 in
theorem ii_la_law_2540 : sm_D code 2540 2 2542 (.iload 44) := ⟨by decide +kernel, rfl⟩
set_option maxRecDepth 100000 in
theorem ii_la_law_2542 : sm_D code 2542 3 2545 (.if_icmp .ne 54) := ⟨by decide +kernel, rfl⟩
set_option maxRecDepth 100000 in
theorem ii_la_law_2545 : sm_D code 2545 1 2546 (.aload_n 1) := ⟨by decide +kernel, rfl⟩
set_option maxRecDepth 100000 in
theorem ii_la_law_2546 : sm_D code 2546 2 2548 (.iload 11) := ⟨by decide +kernel, rfl⟩
set_option maxRecDepth 100000 in
theorem ii_la_law_2548 : sm_D code 2548 3 2551 (.invokevirtual 111) := ⟨by decide +kernel, rfl⟩
set_option maxRecDepth 100000 in
theorem ii_la_law_2551 : sm_D code 2551 1 2552 (.iconst 3) := ⟨by decide +kernel, rfl⟩
set_option maxRecDepth 100000 in
theorem ii_la_law_2552 : sm_D code 2552 3 2555 (.if_icmp .ne 44) := ⟨by decide +kernel, rfl⟩
set_option maxRecDepth 100000 in
theorem ii_la_law_2555 : sm_D code 2555 1 2556 (.aload_n 1) := ⟨by decide +kernel, rfl⟩
set_option maxRecDepth 100000 in
theorem ii_la_law_2556 : sm_D code 2556 1 2557 (.iconst 3) := ⟨by decide +kernel, rfl⟩
set_option maxRecDepth 100000 in
theorem ii_la_law_2557 : sm_D code 2557 3 2560 (.invokevirtual 96) := ⟨by decide +kernel, rfl⟩
set_option maxRecDepth 100000 in
theorem ii_la_law_2560 : sm_D code 2560 2 2562 (.iload 13) := ⟨by decide +kernel, rfl⟩
set_option maxRecDepth 100000 in
theorem ii_la_law_2562 : sm_D code 2562 3 2565 (.if_icmp .ne 34) := ⟨by decide +kernel, rfl⟩
set_option maxRecDepth 100000 in
theorem ii_la_law_2565 : sm_D code 2565 1 2566 (.aload_n 1) := ⟨by decide +kernel, rfl⟩
set_option maxRecDepth 100000 in
theorem ii_la_law_2566 : sm_D code 2566 1 2567 (.iconst 5) := ⟨by decide +kernel, rfl⟩
set_option maxRecDepth 100000 in
theorem ii_la_law_2567 : sm_D code 2567 3 2570 (.invokevirtual 96) := ⟨by decide +kernel, rfl⟩
set_option maxRecDepth 100000 in
theorem ii_la_law_2570 : sm_D code 2570 2 2572 (.iload 15) := ⟨by decide +kernel, rfl⟩
set_option maxRecDepth 100000 in
theorem ii_la_law_2572 : sm_D code 2572 3 2575 (.if_icmp .ne 24) := ⟨by decide +kernel, rfl⟩
set_option maxRecDepth 100000 in
theorem ii_la_law_2575 : sm_D code 2575 1 2576 (.aload_n 1) := ⟨by decide +kernel, rfl⟩
set_option maxRecDepth 100000 in
theorem ii_la_law_2576 : sm_D code 2576 2 2578 (.bipush 6) := ⟨by decide +kernel, rfl⟩
set_option maxRecDepth 100000 in
theorem ii_la_law_2578 : sm_D code 2578 3 2581 (.invokevirtual 96) := ⟨by decide +kernel, rfl⟩
set_option maxRecDepth 100000 in
theorem ii_la_law_2581 : sm_D code 2581 2 2583 (.iload 16) := ⟨by decide +kernel, rfl⟩
set_option maxRecDepth 100000 in
theorem ii_la_law_2583 : sm_D code 2583 3 2586 (.if_icmp .ne 13) := ⟨by decide +kernel, rfl⟩
set_option maxRecDepth 100000 in
theorem ii_la_law_2586 : sm_D code 2586 1 2587 (.aload_n 1) := ⟨by decide +kernel, rfl⟩
set_option maxRecDepth 100000 in
theorem ii_la_law_2587 : sm_D code 2587 1 2588 (.iconst 1) := ⟨by decide +kernel, rfl⟩
set_option maxRecDepth 100000 in
theorem ii_la_law_2588 : sm_D code 2588 3 2591 (.invokevirtual 96) := ⟨by decide +kernel, rfl⟩
set_option maxRecDepth 100000 in
theorem ii_la_law_2591 : sm_D code 2591 2 2593 (.iload 12) := ⟨by decide +kernel, rfl⟩
set_option maxRecDepth 100000 in
theorem ii_la_law_2593 : sm_D code 2593 3 2596 (.if_icmp .eq 5) := ⟨by decide +kernel, rfl⟩
set_option maxRecDepth 100000 in
theorem ii_la_law_2596 : sm_D code 2596 1 2597 (.iconst 0) := ⟨by decide +kernel, rfl⟩
set_option maxRecDepth 100000 in
theorem ii_la_law_2597 : sm_D code 2597 1 2598 (.ireturn) := ⟨by decide +kernel, rfl⟩
set_option maxRecDepth 100000 in
theorem ii_la_law_2598 : sm_D code 2598 3 2601 (.iinc 9 1) := ⟨by decide +kernel, rfl⟩
set_option maxRecDepth 100000 in
theorem ii_la_law_2601 : sm_D code 2601 3 2604 (.goto (-2533)) := ⟨by decide +kernel, rfl⟩
set_option maxRecDepth 100000 in
theorem ii_la_law_2604 : sm_D code 2604 1 2605 (.aload_n 1) := ⟨by decide +kernel, rfl⟩
set_option maxRecDepth 100000 in
theorem ii_la_law_2605 : sm_D code 2605 1 2606 (.iconst 2) := ⟨by decide +kernel, rfl⟩
set_option maxRecDepth 100000 in
theorem ii_la_law_2606 : sm_D code 2606 3 2609 (.invokevirtual 96) := ⟨by decide +kernel, rfl⟩
set_option maxRecDepth 100000 in
theorem ii_la_law_2609 : sm_D code 2609 2 2611 (.istore 9) := ⟨by decide +kernel, rfl⟩
set_option maxRecDepth 100000 in
theorem ii_la_law_2611 : sm_D code 2611 1 2612 (.aload_n 1) := ⟨by decide +kernel, rfl⟩
set_option maxRecDepth 100000 in
theorem ii_la_law_2612 : sm_D code 2612 1 2613 (.iconst 1) := ⟨by decide +kernel, rfl⟩
set_option maxRecDepth 100000 in
theorem ii_la_law_2613 : sm_D code 2613 3 2616 (.invokevirtual 89) := ⟨by decide +kernel, rfl⟩
set_option maxRecDepth 100000 in
theorem ii_la_law_2616 : sm_D code 2616 2 2618 (.iload 9) := ⟨by decide +kernel, rfl⟩
set_option maxRecDepth 100000 in
theorem ii_la_law_2618 : sm_D code 2618 3 2621 (.if_icmp .ne 47) := ⟨by decide +kernel, rfl⟩
set_option maxRecDepth 100000 in
theorem ii_la_law_2621 : sm_D code 2621 1 2622 (.aload_n 1) := ⟨by decide +kernel, rfl⟩
set_option maxRecDepth 100000 in
theorem ii_la_law_2622 : sm_D code 2622 1 2623 (.iconst 0) := ⟨by decide +kernel, rfl⟩
set_option maxRecDepth 100000 in
theorem ii_la_law_2623 : sm_D code 2623 3 2626 (.invokevirtual 184) := ⟨by decide +kernel, rfl⟩
set_option maxRecDepth 100000 in
theorem ii_la_law_2626 : sm_D code 2626 3 2629 (.ifCond .ne 39) := ⟨by decide +kernel, rfl⟩
set_option maxRecDepth 100000 in
theorem ii_la_law_2629 : sm_D code 2629 1 2630 (.aload_n 1) := ⟨by decide +kernel, rfl⟩
set_option maxRecDepth 100000 in
theorem ii_la_law_2630 : sm_D code 2630 1 2631 (.iconst 3) := ⟨by decide +kernel, rfl⟩
set_option maxRecDepth 100000 in
theorem ii_la_law_2631 : sm_D code 2631 3 2634 (.invokevirtual 96) := ⟨by decide +kernel, rfl⟩
set_option maxRecDepth 100000 in
theorem ii_la_law_2634 : sm_D code 2634 3 2637 (.ifCond .ne 31) := ⟨by decide +kernel, rfl⟩
set_option maxRecDepth 100000 in
theorem ii_la_law_2637 : sm_D code 2637 1 2638 (.aload_n 1) := ⟨by decide +kernel, rfl⟩
set_option maxRecDepth 100000 in
theorem ii_la_law_2638 : sm_D code 2638 1 2639 (.iconst 1) := ⟨by decide +kernel, rfl⟩
set_option maxRecDepth 100000 in
theorem ii_la_law_2639 : sm_D code 2639 3 2642 (.invokevirtual 184) := ⟨by decide +kernel, rfl⟩
set_option maxRecDepth 100000 in
theorem ii_la_law_2642 : sm_D code 2642 2 2644 (.iload 9) := ⟨by decide +kernel, rfl⟩
set_option maxRecDepth 100000 in
theorem ii_la_law_2644 : sm_D code 2644 3 2647 (.if_icmp .ne 21) := ⟨by decide +kernel, rfl⟩
set_option maxRecDepth 100000 in
theorem ii_la_law_2647 : sm_D code 2647 1 2648 (.aload_n 1) := ⟨by decide +kernel, rfl⟩
set_option maxRecDepth 100000 in
theorem ii_la_law_2648 : sm_D code 2648 1 2649 (.iconst 0) := ⟨by decide +kernel, rfl⟩
set_option maxRecDepth 100000 in
theorem ii_la_law_2649 : sm_D code 2649 3 2652 (.invokevirtual 111) := ⟨by decide +kernel, rfl⟩
set_option maxRecDepth 100000 in
theorem ii_la_law_2652 : sm_D code 2652 2 2654 (.iload 9) := ⟨by decide +kernel, rfl⟩
set_option maxRecDepth 100000 in
theorem ii_la_law_2654 : sm_D code 2654 3 2657 (.if_icmp .ne 11) := ⟨by decide +kernel, rfl⟩
set_option maxRecDepth 100000 in
theorem ii_la_law_2657 : sm_D code 2657 1 2658 (.aload_n 1) := ⟨by decide +kernel, rfl⟩
set_option maxRecDepth 100000 in
theorem ii_la_law_2658 : sm_D code 2658 1 2659 (.iconst 1) := ⟨by decide +kernel, rfl⟩
set_option maxRecDepth 100000 in
theorem ii_la_law_2659 : sm_D code 2659 3 2662 (.invokevirtual 96) := ⟨by decide +kernel, rfl⟩
set_option maxRecDepth 100000 in
theorem ii_la_law_2662 : sm_D code 2662 3 2665 (.ifCond .eq 5) := ⟨by decide +kernel, rfl⟩
set_option maxRecDepth 100000 in
theorem ii_la_law_2665 : sm_D code 2665 1 2666 (.iconst 0) := ⟨by decide +kernel, rfl⟩
set_option maxRecDepth 100000 in
theorem ii_la_law_2666 : sm_D code 2666 1 2667 (.ireturn) := ⟨by decide +kernel, rfl⟩
set_option maxRecDepth 100000 in
theorem ii_la_law_2667 : sm_D code 2667 1 2668 (.iconst 0) := ⟨by decide +kernel, rfl⟩
set_option maxRecDepth 100000 in
theorem ii_la_law_2668 : sm_D code 2668 2 2670 (.istore 10) := ⟨by decide +kernel, rfl⟩
set_option maxRecDepth 100000 in
theorem ii_la_law_2670 : sm_D code 2670 2 2672 (.iload 10) := ⟨by decide +kernel, rfl⟩
set_option maxRecDepth 100000 in
theorem ii_la_law_2672 : sm_D code 2672 2 2674 (.bipush 6) := ⟨by decide +kernel, rfl⟩
set_option maxRecDepth 100000 in
theorem ii_la_law_2674 : sm_D code 2674 3 2677 (.if_icmp .ge 32) := ⟨by decide +kernel, rfl⟩
set_option maxRecDepth 100000 in
theorem ii_la_law_2677 : sm_D code 2677 1 2678 (.aload_n 1) := ⟨by decide +kernel, rfl⟩
set_option maxRecDepth 100000 in
theorem ii_la_law_2678 : sm_D code 2678 2 2680 (.iload 10) := ⟨by decide +kernel, rfl⟩
set_option maxRecDepth 100000 in
theorem ii_la_law_2680 : sm_D code 2680 3 2683 (.invokevirtual 187) := ⟨by decide +kernel, rfl⟩
set_option maxRecDepth 100000 in
theorem ii_la_law_2683 : sm_D code 2683 2 2685 (.istore 11) := ⟨by decide +kernel, rfl⟩
set_option maxRecDepth 100000 in
theorem ii_la_law_2685 : sm_D code 2685 2 2687 (.iload 11) := ⟨by decide +kernel, rfl⟩
set_option maxRecDepth 100000 in
theorem ii_la_law_2687 : sm_D code 2687 1 2688 (.iconst 1) := ⟨by decide +kernel, rfl⟩
set_option maxRecDepth 100000 in
theorem ii_la_law_2688 : sm_D code 2688 3 2691 (.if_icmp .eq 12) := ⟨by decide +kernel, rfl⟩
set_option maxRecDepth 100000 in
theorem ii_la_law_2691 : sm_D code 2691 2 2693 (.iload 11) := ⟨by decide +kernel, rfl⟩
set_option maxRecDepth 100000 in
theorem ii_la_law_2693 : sm_D code 2693 2 2695 (.bipush (-3)) := ⟨by decide +kernel, rfl⟩
set_option maxRecDepth 100000 in
theorem ii_la_law_2695 : sm_D code 2695 3 2698 (.if_icmp .eq 5) := ⟨by decide +kernel, rfl⟩
set_option maxRecDepth 100000 in
theorem ii_la_law_2698 : sm_D code 2698 1 2699 (.iconst 0) := ⟨by decide +kernel, rfl⟩
set_option maxRecDepth 100000 in
theorem ii_la_law_2699 : sm_D code 2699 1 2700 (.ireturn) := ⟨by decide +kernel, rfl⟩
set_option maxRecDepth 100000 in
theorem ii_la_law_2700 : sm_D code 2700 3 2703 (.iinc 10 1) := ⟨by decide +kernel, rfl⟩
set_option maxRecDepth 100000 in
theorem ii_la_law_2703 : sm_D code 2703 3 2706 (.goto (-33)) := ⟨by decide +kernel, rfl⟩
set_option maxRecDepth 100000 in
theorem ii_la_law_2706 : sm_D code 2706 1 2707 (.aload_n 1) := ⟨by decide +kernel, rfl⟩
set_option maxRecDepth 100000 in
theorem ii_la_law_2707 : sm_D code 2707 1 2708 (.iconst 0) := ⟨by decide +kernel, rfl⟩
set_option maxRecDepth 100000 in
theorem ii_la_law_2708 : sm_D code 2708 3 2711 (.invokevirtual 35) := ⟨by decide +kernel, rfl⟩
set_option maxRecDepth 100000 in
theorem ii_la_law_2711 : sm_D code 2711 2 2713 (.iload 5) := ⟨by decide +kernel, rfl⟩
set_option maxRecDepth 100000 in
theorem ii_la_law_2713 : sm_D code 2713 3 2716 (.if_icmp .ne 17) := ⟨by decide +kernel, rfl⟩
set_option maxRecDepth 100000 in
theorem ii_la_law_2716 : sm_D code 2716 1 2717 (.aload_n 1) := ⟨by decide +kernel, rfl⟩
set_option maxRecDepth 100000 in
theorem ii_la_law_2717 : sm_D code 2717 3 2720 (.invokevirtual 85) := ⟨by decide +kernel, rfl⟩
set_option maxRecDepth 100000 in
theorem ii_la_law_2720 : sm_D code 2720 2 2722 (.lload 7) := ⟨by decide +kernel, rfl⟩
set_option maxRecDepth 100000 in
theorem ii_la_law_2722 : sm_D code 2722 1 2723 (.lcmp) := ⟨by decide +kernel, rfl⟩
set_option maxRecDepth 100000 in
theorem ii_la_law_2723 : sm_D code 2723 3 2726 (.ifCond .ne 7) := ⟨by decide +kernel, rfl⟩
set_option maxRecDepth 100000 in
theorem ii_la_law_2726 : sm_D code 2726 1 2727 (.iconst 1) := ⟨by decide +kernel, rfl⟩
set_option maxRecDepth 100000 in
theorem ii_la_law_2727 : sm_D code 2727 3 2730 (.goto 4) := ⟨by decide +kernel, rfl⟩
set_option maxRecDepth 100000 in
theorem ii_la_law_2730 : sm_D code 2730 1 2731 (.iconst 0) := ⟨by decide +kernel, rfl⟩
set_option maxRecDepth 100000 in
theorem ii_la_law_2731 : sm_D code 2731 1 2732 (.ireturn) := ⟨by decide +kernel, rfl⟩
noncomputable def ff_la_law_2670_b (E : Nat × (Nat → Int32))  (self2670 : Int32 → Int64 → Int32 → sm_Mem → sm_R) (a5 : Int32) (a7 : Int64) (a10 : Int32) (w : sm_Mem) : sm_R := (if (6 : Int32) ≤ a10 then (sm_cI (ff_ho_house ((0 : Int32)) w) fun x1 w2 => (if x1 = a5 then (sm_cL (ff_ho_digest  w2) fun x3 w4 => (if (lg_cmp x3 a7) = (0 : Int32) then (some (.int (1 : Int32), w4)) else (some (.int (0 : Int32), w4)))) else (some (.int (0 : Int32), w2)))) else (sm_cI (ff_ho_tear (a10) w) fun x5 w6 => (if x5 = (1 : Int32) then self2670 (a5) (a7) ((a10 + (1 : Int32))) w6 else (if x5 = (-3 : Int32) then self2670 (a5) (a7) ((a10 + (1 : Int32))) w6 else (some (.int (0 : Int32), w6))))))
noncomputable def ff_la_law_2670_f (E : Nat × (Nat → Int32))  : Nat → Int32 → Int64 → Int32 → sm_Mem → sm_R
  | 0, _, _, _, _ => none
  | n + 1, a5, a7, a10, w => ff_la_law_2670_b E  (ff_la_law_2670_f E  n) a5 a7 a10 w
noncomputable def ff_la_law_2670 (E : Nat × (Nat → Int32))  (a5 : Int32) (a7 : Int64) (a10 : Int32) (w : sm_Mem) : sm_R := ff_la_law_2670_f E  sm_N a5 a7 a10 w
set_option maxHeartbeats 4000000 in
set_option maxRecDepth 100000 in
theorem ss_la_law_2670_b {E : Nat × (Nat → Int32)}  (self2670 : Int32 → Int64 → Int32 → sm_Mem → sm_R) (hself2670 : ∀ (a5 : Int32) (a7 : Int64) (a10 : Int32) (w : sm_Mem), sm_Sim E (mi_la_law) 2670 [none, some (.ref 0), none, none, none, some (.int a5), none, some (.long a7), none, none, some (.int a10), none, none, none, none, none, none, none, none, none, none, none, none, none, none, none, none, none, none, none, none, none, none, none, none, none, none, none, none, none, none, none, none, none, none] [] w (self2670 a5 a7 a10 w)) (a5 : Int32) (a7 : Int64) (a10 : Int32) (w : sm_Mem) : sm_Sim E (mi_la_law) 2670 [none, some (.ref 0), none, none, none, some (.int a5), none, some (.long a7), none, none, some (.int a10), none, none, none, none, none, none, none, none, none, none, none, none, none, none, none, none, none, none, none, none, none, none, none, none, none, none, none, none, none, none, none, none, none, none] [] w (ff_la_law_2670_b E  self2670 a5 a7 a10 w) := by
  unfold ff_la_law_2670_b
  refine sm_iload ii_la_law_2670 rfl ?_
  refine sm_bipush (6 : Int32) ii_la_law_2672 (by decide) ?_
  refine sm_icmp_ge 2706 ii_la_law_2674 (by decide) ?_ ?_
  · refine sm_aload_n ii_la_law_2706 rfl ?_
    refine sm_iconst (0 : Int32) ii_la_law_2707 (by decide) ?_
    refine sm_cvI [.int (0 : Int32)] [] rfl ii_la_law_2708 ml_la_35 (mf_ho_house) (mv_ho_house) (Nat.le_of_ble_eq_true rfl) rfl 6 rfl rfl rfl rfl (mc_ho_house ((0 : Int32)) w) (fun x1 w2 => ?_)
    refine sm_iload ii_la_law_2711 rfl ?_
    refine sm_icmp_ne 2730 ii_la_law_2713 (by decide) ?_ ?_
    · refine sm_aload_n ii_la_law_2716 rfl ?_
      refine sm_cvL [] [] rfl ii_la_law_2717 ml_la_85 (mf_ho_digest) (mv_ho_digest) (Nat.le_of_ble_eq_true rfl) rfl 6 rfl rfl rfl rfl (mc_ho_digest  w2) (fun x3 w4 => ?_)
      refine sm_lload ii_la_law_2720 rfl ?_
      refine sm_lcmp ii_la_law_2722 ?_
      refine sm_if_ne 2730 ii_la_law_2723 (by decide) ?_ ?_
      · refine sm_iconst (1 : Int32) ii_la_law_2726 (by decide) ?_
        refine sm_goto 2731 ii_la_law_2727 (by decide) ?_
        exact sm_zret1 ii_la_law_2731 rfl (by decide)
      · refine sm_iconst (0 : Int32) ii_la_law_2730 (by decide) ?_
        exact sm_zret1 ii_la_law_2731 rfl (by decide)
    · refine sm_iconst (0 : Int32) ii_la_law_2730 (by decide) ?_
      exact sm_zret1 ii_la_law_2731 rfl (by decide)
  · refine sm_aload_n ii_la_law_2677 rfl ?_
    refine sm_iload ii_la_law_2678 rfl ?_
    refine sm_cvI [.int a10] [] rfl ii_la_law_2680 ml_la_187 (mf_ho_tear) (mv_ho_tear) (Nat.le_of_ble_eq_true rfl) rfl 6 rfl rfl rfl rfl (mc_ho_tear (a10) w) (fun x5 w6 => ?_)
    refine sm_istore [none, some (.ref 0), none, none, none, some (.int a5), none, some (.long a7), none, none, some (.int a10), some (.int x5), none, none, none, none, none, none, none, none, none, none, none, none, none, none, none, none, none, none, none, none, none, none, none, none, none, none, none, none, none, none, none, none, none] ii_la_law_2683 rfl rfl ?_
    refine sm_iload ii_la_law_2685 rfl ?_
    refine sm_iconst (1 : Int32) ii_la_law_2687 (by decide) ?_
    refine sm_icmp_eq 2700 ii_la_law_2688 (by decide) ?_ ?_
    · refine sm_iinc (a10 + (1 : Int32)) [none, some (.ref 0), none, none, none, some (.int a5), none, some (.long a7), none, none, some (.int (a10 + (1 : Int32))), some (.int x5), none, none, none, none, none, none, none, none, none, none, none, none, none, none, none, none, none, none, none, none, none, none, none, none, none, none, none, none, none, none, none, none, none] ii_la_law_2700 rfl rfl rfl rfl ?_
      refine sm_goto 2670 ii_la_law_2703 (by decide) ?_
      refine sm_msk [false, true, false, false, false, true, false, true, false, false, true, false, false, false, false, false, false, false, false, false, false, false, false, false, false, false, false, false, false, false, false, false, false, false, false, false, false, false, false, false, false, false, false, false, false] [none, some (.ref 0), none, none, none, some (.int a5), none, some (.long a7), none, none, some (.int (a10 + (1 : Int32))), none, none, none, none, none, none, none, none, none, none, none, none, none, none, none, none, none, none, none, none, none, none, none, none, none, none, none, none, none, none, none, none, none, none] rfl ?_
      exact hself2670 (a5) (a7) ((a10 + (1 : Int32))) w6
    · refine sm_iload ii_la_law_2691 rfl ?_
      refine sm_bipush (-3 : Int32) ii_la_law_2693 (by decide) ?_
      refine sm_icmp_eq 2700 ii_la_law_2695 (by decide) ?_ ?_
      · refine sm_iinc (a10 + (1 : Int32)) [none, some (.ref 0), none, none, none, some (.int a5), none, some (.long a7), none, none, some (.int (a10 + (1 : Int32))), some (.int x5), none, none, none, none, none, none, none, none, none, none, none, none, none, none, none, none, none, none, none, none, none, none, none, none, none, none, none, none, none, none, none, none, none] ii_la_law_2700 rfl rfl rfl rfl ?_
        refine sm_goto 2670 ii_la_law_2703 (by decide) ?_
        refine sm_msk [false, true, false, false, false, true, false, true, false, false, true, false, false, false, false, false, false, false, false, false, false, false, false, false, false, false, false, false, false, false, false, false, false, false, false, false, false, false, false, false, false, false, false, false, false] [none, some (.ref 0), none, none, none, some (.int a5), none, some (.long a7), none, none, some (.int (a10 + (1 : Int32))), none, none, none, none, none, none, none, none, none, none, none, none, none, none, none, none, none, none, none, none, none, none, none, none, none, none, none, none, none, none, none, none, none, none] rfl ?_
        exact hself2670 (a5) (a7) ((a10 + (1 : Int32))) w6
      · refine sm_iconst (0 : Int32) ii_la_law_2698 (by decide) ?_
        exact sm_zret1 ii_la_law_2699 rfl (by decide)
set_option maxHeartbeats 4000000 in
set_option maxRecDepth 100000 in
theorem ss_la_law_2670_f {E : Nat × (Nat → Int32)}  : ∀ (n : Nat) (a5 : Int32) (a7 : Int64) (a10 : Int32) (w : sm_Mem), sm_Sim E (mi_la_law) 2670 [none, some (.ref 0), none, none, none, some (.int a5), none, some (.long a7), none, none, some (.int a10), none, none, none, none, none, none, none, none, none, none, none, none, none, none, none, none, none, none, none, none, none, none, none, none, none, none, none, none, none, none, none, none, none, none] [] w (ff_la_law_2670_f E  n a5 a7 a10 w)
  | 0, _, _, _, _ => fun _ _ h => by cases h
  | n + 1, a5, a7, a10, w => ss_la_law_2670_b  _ (ss_la_law_2670_f  n) a5 a7 a10 w
set_option maxHeartbeats 4000000 in
set_option maxRecDepth 100000 in
theorem ss_la_law_2670 {E : Nat × (Nat → Int32)}  (a5 : Int32) (a7 : Int64) (a10 : Int32) (w : sm_Mem) : sm_Sim E (mi_la_law) 2670 [none, some (.ref 0), none, none, none, some (.int a5), none, some (.long a7), none, none, some (.int a10), none, none, none, none, none, none, none, none, none, none, none, none, none, none, none, none, none, none, none, none, none, none, none, none, none, none, none, none, none, none, none, none, none, none] [] w (ff_la_law_2670 E  a5 a7 a10 w) := ss_la_law_2670_f  sm_N a5 a7 a10 w
noncomputable def ff_la_law_2459 (E : Nat × (Nat → Int32)) (self68 : Int32 → Int32 → Int64 → Int32 → sm_Mem → sm_R) (a5 : Int32) (a6 : Int32) (a7 : Int64) (a9 : Int32) (a10 : Int32) (a11 : Int32) (a12 : Int32) (a13 : Int32) (a15 : Int32) (a16 : Int32) (a24 : Int32) (a43 : Int32) (w : sm_Mem) : sm_R := (sm_cI (ff_ho_mid ((0 : Int32)) (a43) w) fun x7 w8 => (if x7 = (1 : Int32) then (sm_cL (ff_ho_upper  w8) fun x9 w10 => (if (lg_cmp x9 (0 : Int64)) < (0 : Int32) then (some (.int (0 : Int32), w10)) else (sm_cL (ff_ho_upper  w10) fun x11 w12 => (sm_cL (ff_ho_lower  w12) fun x13 w14 => (if (lg_cmp x11 ((Int32.toInt64 a24) * x13)) ≤ (0 : Int32) then (sm_cI (ff_ho_lots ((3 : Int32)) (((1 : Int32) + (a10 &&& (16777215 : Int32)))) w14) fun x15 w16 => (if x15 < (0 : Int32) then (some (.int (0 : Int32), w16)) else (if (8 : Int32) < x15 then (some (.int (0 : Int32), w16)) else (sm_cI (ff_ho_count ((2 : Int32)) w16) fun x17 w18 => (if x17 = (a11 + (3 : Int32)) then (sm_cI (ff_ho_count ((3 : Int32)) w18) fun x19 w20 => (if x19 = x15 then (sm_cI (ff_ho_undo (a11) w20) fun x21 w22 => (if x21 = (3 : Int32) then (sm_cI (ff_ho_count ((3 : Int32)) w22) fun x23 w24 => (if x23 = a13 then (sm_cI (ff_ho_count ((5 : Int32)) w24) fun x25 w26 => (if x25 = a15 then (sm_cI (ff_ho_count ((6 : Int32)) w26) fun x27 w28 => (if x27 = a16 then (sm_cI (ff_ho_count ((1 : Int32)) w28) fun x29 w30 => (if x29 = a12 then self68 (a5) (a6) (a7) ((a9 + (1 : Int32))) w30 else (some (.int (0 : Int32), w30)))) else (some (.int (0 : Int32), w28)))) else (some (.int (0 : Int32), w26)))) else (some (.int (0 : Int32), w24)))) else (some (.int (0 : Int32), w22)))) else (some (.int (0 : Int32), w20)))) else (some (.int (0 : Int32), w18))))))) else (some (.int (0 : Int32), w14))))))) else (some (.int (0 : Int32), w8))))
set_option maxHeartbeats 4000000 in
set_option maxRecDepth 100000 in
theorem ss_la_law_2459 {E : Nat × (Nat → Int32)} (self68 : Int32 → Int32 → Int64 → Int32 → sm_Mem → sm_R) (hself68 : ∀ (a5 : Int32) (a6 : Int32) (a7 : Int64) (a9 : Int32) (w : sm_Mem), sm_Sim E (mi_la_law) 68 [some (.ref 999), some (.ref 0), some (.ref 62), some (.ref 63), some (.ref 64), some (.int a5), some (.int a6), some (.long a7), none, some (.int a9), none, none, none, none, none, none, none, none, none, none, none, none, none, none, none, none, none, none, none, none, none, none, none, none, none, none, none, none, none, none, none, none, none, none, none] [] w (self68 a5 a6 a7 a9 w)) (a5 : Int32) (a6 : Int32) (a7 : Int64) (a9 : Int32) (a10 : Int32) (a11 : Int32) (a12 : Int32) (a13 : Int32) (a15 : Int32) (a16 : Int32) (a24 : Int32) (a43 : Int32) (w : sm_Mem) : sm_Sim E (mi_la_law) 2459 [some (.ref 999), some (.ref 0), some (.ref 62), some (.ref 63), some (.ref 64), some (.int a5), some (.int a6), some (.long a7), none, some (.int a9), some (.int a10), some (.int a11), some (.int a12), some (.int a13), none, some (.int a15), some (.int a16), none, none, none, none, none, none, none, some (.int a24), none, none, none, none, none, none, none, none, none, none, none, none, none, none, none, none, none, none, some (.int a43), none] [] w (ff_la_law_2459 E self68 a5 a6 a7 a9 a10 a11 a12 a13 a15 a16 a24 a43 w) := by
  unfold ff_la_law_2459
  refine sm_aload_n ii_la_law_2459 rfl ?_
  refine sm_iconst (0 : Int32) ii_la_law_2460 (by decide) ?_
  refine sm_iload ii_la_law_2461 rfl ?_
  refine sm_cvI [.int (0 : Int32), .int a43] [] rfl ii_la_law_2463 ml_la_177 (mf_ho_mid) (mv_ho_mid) (Nat.le_of_ble_eq_true rfl) rfl 6 rfl rfl rfl rfl (mc_ho_mid ((0 : Int32)) (a43) w) (fun x7 w8 => ?_)
  refine sm_iconst (1 : Int32) ii_la_law_2466 (by decide) ?_
  refine sm_icmp_ne 2495 ii_la_law_2467 (by decide) ?_ ?_
  · refine sm_aload_n ii_la_law_2470 rfl ?_
    refine sm_cvL [] [] rfl ii_la_law_2471 ml_la_123 (mf_ho_upper) (mv_ho_upper) (Nat.le_of_ble_eq_true rfl) rfl 6 rfl rfl rfl rfl (mc_ho_upper  w8) (fun x9 w10 => ?_)
    refine sm_lconst (0 : Int64) ii_la_law_2474 (by decide) ?_
    refine sm_lcmp ii_la_law_2475 ?_
    refine sm_if_lt 2495 ii_la_law_2476 (by decide) ?_ ?_
    · refine sm_iconst (0 : Int32) ii_la_law_2495 (by decide) ?_
      exact sm_zret1 ii_la_law_2496 rfl (by decide)
    · refine sm_aload_n ii_la_law_2479 rfl ?_
      refine sm_cvL [] [] rfl ii_la_law_2480 ml_la_123 (mf_ho_upper) (mv_ho_upper) (Nat.le_of_ble_eq_true rfl) rfl 6 rfl rfl rfl rfl (mc_ho_upper  w10) (fun x11 w12 => ?_)
      refine sm_iload ii_la_law_2483 rfl ?_
      refine sm_i2l ii_la_law_2485 ?_
      refine sm_aload_n ii_la_law_2486 rfl ?_
      refine sm_cvL [] [.long (Int32.toInt64 a24), .long x11] rfl ii_la_law_2487 ml_la_174 (mf_ho_lower) (mv_ho_lower) (Nat.le_of_ble_eq_true rfl) rfl 6 rfl rfl rfl rfl (mc_ho_lower  w12) (fun x13 w14 => ?_)
      refine sm_lmul ii_la_law_2490 ?_
      refine sm_lcmp ii_la_law_2491 ?_
      refine sm_if_le 2497 ii_la_law_2492 (by decide) ?_ ?_
      · refine sm_aload_n ii_la_law_2497 rfl ?_
        refine sm_iconst (3 : Int32) ii_la_law_2498 (by decide) ?_
        refine sm_iconst (1 : Int32) ii_la_law_2499 (by decide) ?_
        refine sm_iload ii_la_law_2500 rfl ?_
        refine sm_ldc (16777215 : Int32) ii_la_law_2502 (List.mem_of_getElem? (i := 876) (by decide +kernel)) ?_
        refine sm_iand ii_la_law_2504 ?_
        refine sm_iadd ii_la_law_2505 ?_
        refine sm_cvI [.int (3 : Int32), .int ((1 : Int32) + (a10 &&& (16777215 : Int32)))] [] rfl ii_la_law_2506 ml_la_181 (mf_ho_lots) (mv_ho_lots) (Nat.le_of_ble_eq_true rfl) rfl 6 rfl rfl rfl rfl (mc_ho_lots ((3 : Int32)) (((1 : Int32) + (a10 &&& (16777215 : Int32)))) w14) (fun x15 w16 => ?_)
        refine sm_istore [some (.ref 999), some (.ref 0), some (.ref 62), some (.ref 63), some (.ref 64), some (.int a5), some (.int a6), some (.long a7), none, some (.int a9), some (.int a10), some (.int a11), some (.int a12), some (.int a13), none, some (.int a15), some (.int a16), none, none, none, none, none, none, none, some (.int a24), none, none, none, none, none, none, none, none, none, none, none, none, none, none, none, none, none, none, some (.int a43), some (.int x15)] ii_la_law_2509 rfl rfl ?_
        refine sm_iload ii_la_law_2511 rfl ?_
        refine sm_if_lt 2596 ii_la_law_2513 (by decide) ?_ ?_
        · refine sm_iconst (0 : Int32) ii_la_law_2596 (by decide) ?_
          exact sm_zret1 ii_la_law_2597 rfl (by decide)
        · refine sm_iload ii_la_law_2516 rfl ?_
          refine sm_bipush (8 : Int32) ii_la_law_2518 (by decide) ?_
          refine sm_icmp_gt 2596 ii_la_law_2520 (by decide) ?_ ?_
          · refine sm_iconst (0 : Int32) ii_la_law_2596 (by decide) ?_
            exact sm_zret1 ii_la_law_2597 rfl (by decide)
          · refine sm_aload_n ii_la_law_2523 rfl ?_
            refine sm_iconst (2 : Int32) ii_la_law_2524 (by decide) ?_
            refine sm_cvI [.int (2 : Int32)] [] rfl ii_la_law_2525 ml_la_96 (mf_ho_count) (mv_ho_count) (Nat.le_of_ble_eq_true rfl) rfl 6 rfl rfl rfl rfl (mc_ho_count ((2 : Int32)) w16) (fun x17 w18 => ?_)
            refine sm_iload ii_la_law_2528 rfl ?_
            refine sm_iconst (3 : Int32) ii_la_law_2530 (by decide) ?_
            refine sm_iadd ii_la_law_2531 ?_
            refine sm_icmp_ne 2596 ii_la_law_2532 (by decide) ?_ ?_
            · refine sm_aload_n ii_la_law_2535 rfl ?_
              refine sm_iconst (3 : Int32) ii_la_law_2536 (by decide) ?_
              refine sm_cvI [.int (3 : Int32)] [] rfl ii_la_law_2537 ml_la_96 (mf_ho_count) (mv_ho_count) (Nat.le_of_ble_eq_true rfl) rfl 6 rfl rfl rfl rfl (mc_ho_count ((3 : Int32)) w18) (fun x19 w20 => ?_)
              refine sm_iload ii_la_law_2540 rfl ?_
              refine sm_icmp_ne 2596 ii_la_law_2542 (by decide) ?_ ?_
              · refine sm_aload_n ii_la_law_2545 rfl ?_
                refine sm_iload ii_la_law_2546 rfl ?_
                refine sm_cvI [.int a11] [] rfl ii_la_law_2548 ml_la_111 (mf_ho_undo) (mv_ho_undo) (Nat.le_of_ble_eq_true rfl) rfl 6 rfl rfl rfl rfl (mc_ho_undo (a11) w20) (fun x21 w22 => ?_)
                refine sm_iconst (3 : Int32) ii_la_law_2551 (by decide) ?_
                refine sm_icmp_ne 2596 ii_la_law_2552 (by decide) ?_ ?_
                · refine sm_aload_n ii_la_law_2555 rfl ?_
                  refine sm_iconst (3 : Int32) ii_la_law_2556 (by decide) ?_
                  refine sm_cvI [.int (3 : Int32)] [] rfl ii_la_law_2557 ml_la_96 (mf_ho_count) (mv_ho_count) (Nat.le_of_ble_eq_true rfl) rfl 6 rfl rfl rfl rfl (mc_ho_count ((3 : Int32)) w22) (fun x23 w24 => ?_)
                  refine sm_iload ii_la_law_2560 rfl ?_
                  refine sm_icmp_ne 2596 ii_la_law_2562 (by decide) ?_ ?_
                  · refine sm_aload_n ii_la_law_2565 rfl ?_
                    refine sm_iconst (5 : Int32) ii_la_law_2566 (by decide) ?_
                    refine sm_cvI [.int (5 : Int32)] [] rfl ii_la_law_2567 ml_la_96 (mf_ho_count) (mv_ho_count) (Nat.le_of_ble_eq_true rfl) rfl 6 rfl rfl rfl rfl (mc_ho_count ((5 : Int32)) w24) (fun x25 w26 => ?_)
                    refine sm_iload ii_la_law_2570 rfl ?_
                    refine sm_icmp_ne 2596 ii_la_law_2572 (by decide) ?_ ?_
                    · refine sm_aload_n ii_la_law_2575 rfl ?_
                      refine sm_bipush (6 : Int32) ii_la_law_2576 (by decide) ?_
                      refine sm_cvI [.int (6 : Int32)] [] rfl ii_la_law_2578 ml_la_96 (mf_ho_count) (mv_ho_count) (Nat.le_of_ble_eq_true rfl) rfl 6 rfl rfl rfl rfl (mc_ho_count ((6 : Int32)) w26) (fun x27 w28 => ?_)
                      refine sm_iload ii_la_law_2581 rfl ?_
                      refine sm_icmp_ne 2596 ii_la_law_2583 (by decide) ?_ ?_
                      · refine sm_aload_n ii_la_law_2586 rfl ?_
                        refine sm_iconst (1 : Int32) ii_la_law_2587 (by decide) ?_
                        refine sm_cvI [.int (1 : Int32)] [] rfl ii_la_law_2588 ml_la_96 (mf_ho_count) (mv_ho_count) (Nat.le_of_ble_eq_true rfl) rfl 6 rfl rfl rfl rfl (mc_ho_count ((1 : Int32)) w28) (fun x29 w30 => ?_)
                        refine sm_iload ii_la_law_2591 rfl ?_
                        refine sm_icmp_eq 2598 ii_la_law_2593 (by decide) ?_ ?_
                        · refine sm_iinc (a9 + (1 : Int32)) [some (.ref 999), some (.ref 0), some (.ref 62), some (.ref 63), some (.ref 64), some (.int a5), some (.int a6), some (.long a7), none, some (.int (a9 + (1 : Int32))), some (.int a10), some (.int a11), some (.int a12), some (.int a13), none, some (.int a15), some (.int a16), none, none, none, none, none, none, none, some (.int a24), none, none, none, none, none, none, none, none, none, none, none, none, none, none, none, none, none, none, some (.int a43), some (.int x15)] ii_la_law_2598 rfl rfl rfl rfl ?_
                          refine sm_goto 68 ii_la_law_2601 (by decide) ?_
                          refine sm_msk [true, true, true, true, true, true, true, true, false, true, false, false, false, false, false, false, false, false, false, false, false, false, false, false, false, false, false, false, false, false, false, false, false, false, false, false, false, false, false, false, false, false, false, false, false] [some (.ref 999), some (.ref 0), some (.ref 62), some (.ref 63), some (.ref 64), some (.int a5), some (.int a6), some (.long a7), none, some (.int (a9 + (1 : Int32))), none, none, none, none, none, none, none, none, none, none, none, none, none, none, none, none, none, none, none, none, none, none, none, none, none, none, none, none, none, none, none, none, none, none, none] rfl ?_
                          exact hself68 (a5) (a6) (a7) ((a9 + (1 : Int32))) w30
                        · refine sm_iconst (0 : Int32) ii_la_law_2596 (by decide) ?_
                          exact sm_zret1 ii_la_law_2597 rfl (by decide)
                      · refine sm_iconst (0 : Int32) ii_la_law_2596 (by decide) ?_
                        exact sm_zret1 ii_la_law_2597 rfl (by decide)
                    · refine sm_iconst (0 : Int32) ii_la_law_2596 (by decide) ?_
                      exact sm_zret1 ii_la_law_2597 rfl (by decide)
                  · refine sm_iconst (0 : Int32) ii_la_law_2596 (by decide) ?_
                    exact sm_zret1 ii_la_law_2597 rfl (by decide)
                · refine sm_iconst (0 : Int32) ii_la_law_2596 (by decide) ?_
                  exact sm_zret1 ii_la_law_2597 rfl (by decide)
              · refine sm_iconst (0 : Int32) ii_la_law_2596 (by decide) ?_
                exact sm_zret1 ii_la_law_2597 rfl (by decide)
            · refine sm_iconst (0 : Int32) ii_la_law_2596 (by decide) ?_
              exact sm_zret1 ii_la_law_2597 rfl (by decide)
      · refine sm_iconst (0 : Int32) ii_la_law_2495 (by decide) ?_
        exact sm_zret1 ii_la_law_2496 rfl (by decide)
  · refine sm_iconst (0 : Int32) ii_la_law_2495 (by decide) ?_
    exact sm_zret1 ii_la_law_2496 rfl (by decide)
noncomputable def ff_la_law_2407 (E : Nat × (Nat → Int32)) (self68 : Int32 → Int32 → Int64 → Int32 → sm_Mem → sm_R) (a5 : Int32) (a6 : Int32) (a7 : Int64) (a9 : Int32) (a10 : Int32) (a11 : Int32) (a12 : Int32) (a13 : Int32) (a15 : Int32) (a16 : Int32) (a21 : Int64) (a24 : Int32) (a43 : Int32) (b0 : Int64) (b1 : Int64) (w : sm_Mem) : sm_R := (if (lg_cmp b0 b1) = (0 : Int32) then (sm_cI (ff_ho_odds ((0 : Int32)) (a43) w) fun x31 w32 => (if x31 = (1 : Int32) then (sm_cL (ff_ho_upper  w32) fun x33 w34 => (if (lg_cmp x33 (0 : Int64)) < (0 : Int32) then (some (.int (0 : Int32), w34)) else (sm_cL (ff_ho_upper  w34) fun x35 w36 => (sm_cL (ff_ho_lower  w36) fun x37 w38 => (if (0 : Int32) < (lg_cmp x35 x37) then (some (.int (0 : Int32), w38)) else (if (lg_cmp a21 (0 : Int64)) = (0 : Int32) then (sm_cL (ff_ho_upper  w38) fun x39 w40 => (if (lg_cmp x39 (0 : Int64)) = (0 : Int32) then ff_la_law_2459 E self68 (a5) (a6) (a7) (a9) (a10) (a11) (a12) (a13) (a15) (a16) (a24) (a43) w40 else (some (.int (0 : Int32), w40)))) else ff_la_law_2459 E self68 (a5) (a6) (a7) (a9) (a10) (a11) (a12) (a13) (a15) (a16) (a24) (a43) w38)))))) else (some (.int (0 : Int32), w32)))) else (some (.int (0 : Int32), w)))
set_option maxHeartbeats 4000000 in
set_option maxRecDepth 100000 in
theorem ss_la_law_2407 {E : Nat × (Nat → Int32)} (self68 : Int32 → Int32 → Int64 → Int32 → sm_Mem → sm_R) (hself68 : ∀ (a5 : Int32) (a6 : Int32) (a7 : Int64) (a9 : Int32) (w : sm_Mem), sm_Sim E (mi_la_law) 68 [some (.ref 999), some (.ref 0), some (.ref 62), some (.ref 63), some (.ref 64), some (.int a5), some (.int a6), some (.long a7), none, some (.int a9), none, none, none, none, none, none, none, none, none, none, none, none, none, none, none, none, none, none, none, none, none, none, none, none, none, none, none, none, none, none, none, none, none, none, none] [] w (self68 a5 a6 a7 a9 w)) (a5 : Int32) (a6 : Int32) (a7 : Int64) (a9 : Int32) (a10 : Int32) (a11 : Int32) (a12 : Int32) (a13 : Int32) (a15 : Int32) (a16 : Int32) (a21 : Int64) (a24 : Int32) (a43 : Int32) (b0 : Int64) (b1 : Int64) (w : sm_Mem) : sm_Sim E (mi_la_law) 2407 [some (.ref 999), some (.ref 0), some (.ref 62), some (.ref 63), some (.ref 64), some (.int a5), some (.int a6), some (.long a7), none, some (.int a9), some (.int a10), some (.int a11), some (.int a12), some (.int a13), none, some (.int a15), some (.int a16), none, none, none, none, some (.long a21), none, none, some (.int a24), none, none, none, none, none, none, none, none, none, none, none, none, none, none, none, none, none, none, some (.int a43), none] [.long b1, .long b0] w (ff_la_law_2407 E self68 a5 a6 a7 a9 a10 a11 a12 a13 a15 a16 a21 a24 a43 b0 b1 w) := by
  unfold ff_la_law_2407
  refine sm_lcmp ii_la_law_2407 ?_
  refine sm_if_ne 2495 ii_la_law_2408 (by decide) ?_ ?_
  · refine sm_aload_n ii_la_law_2411 rfl ?_
    refine sm_iconst (0 : Int32) ii_la_law_2412 (by decide) ?_
    refine sm_iload ii_la_law_2413 rfl ?_
    refine sm_cvI [.int (0 : Int32), .int a43] [] rfl ii_la_law_2415 ml_la_171 (mf_ho_odds) (mv_ho_odds) (Nat.le_of_ble_eq_true rfl) rfl 6 rfl rfl rfl rfl (mc_ho_odds ((0 : Int32)) (a43) w) (fun x31 w32 => ?_)
    refine sm_iconst (1 : Int32) ii_la_law_2418 (by decide) ?_
    refine sm_icmp_ne 2495 ii_la_law_2419 (by decide) ?_ ?_
    · refine sm_aload_n ii_la_law_2422 rfl ?_
      refine sm_cvL [] [] rfl ii_la_law_2423 ml_la_123 (mf_ho_upper) (mv_ho_upper) (Nat.le_of_ble_eq_true rfl) rfl 6 rfl rfl rfl rfl (mc_ho_upper  w32) (fun x33 w34 => ?_)
      refine sm_lconst (0 : Int64) ii_la_law_2426 (by decide) ?_
      refine sm_lcmp ii_la_law_2427 ?_
      refine sm_if_lt 2495 ii_la_law_2428 (by decide) ?_ ?_
      · refine sm_iconst (0 : Int32) ii_la_law_2495 (by decide) ?_
        exact sm_zret1 ii_la_law_2496 rfl (by decide)
      · refine sm_aload_n ii_la_law_2431 rfl ?_
        refine sm_cvL [] [] rfl ii_la_law_2432 ml_la_123 (mf_ho_upper) (mv_ho_upper) (Nat.le_of_ble_eq_true rfl) rfl 6 rfl rfl rfl rfl (mc_ho_upper  w34) (fun x35 w36 => ?_)
        refine sm_aload_n ii_la_law_2435 rfl ?_
        refine sm_cvL [] [.long x35] rfl ii_la_law_2436 ml_la_174 (mf_ho_lower) (mv_ho_lower) (Nat.le_of_ble_eq_true rfl) rfl 6 rfl rfl rfl rfl (mc_ho_lower  w36) (fun x37 w38 => ?_)
        refine sm_lcmp ii_la_law_2439 ?_
        refine sm_if_gt 2495 ii_la_law_2440 (by decide) ?_ ?_
        · refine sm_iconst (0 : Int32) ii_la_law_2495 (by decide) ?_
          exact sm_zret1 ii_la_law_2496 rfl (by decide)
        · refine sm_lload ii_la_law_2443 rfl ?_
          refine sm_lconst (0 : Int64) ii_la_law_2445 (by decide) ?_
          refine sm_lcmp ii_la_law_2446 ?_
          refine sm_if_ne 2459 ii_la_law_2447 (by decide) ?_ ?_
          · refine sm_aload_n ii_la_law_2450 rfl ?_
            refine sm_cvL [] [] rfl ii_la_law_2451 ml_la_123 (mf_ho_upper) (mv_ho_upper) (Nat.le_of_ble_eq_true rfl) rfl 6 rfl rfl rfl rfl (mc_ho_upper  w38) (fun x39 w40 => ?_)
            refine sm_lconst (0 : Int64) ii_la_law_2454 (by decide) ?_
            refine sm_lcmp ii_la_law_2455 ?_
            refine sm_if_ne 2495 ii_la_law_2456 (by decide) ?_ ?_
            · refine sm_msk [true, true, true, true, true, true, true, true, false, true, true, true, true, true, false, true, true, false, false, false, false, false, false, false, true, false, false, false, false, false, false, false, false, false, false, false, false, false, false, false, false, false, false, true, false] [some (.ref 999), some (.ref 0), some (.ref 62), some (.ref 63), some (.ref 64), some (.int a5), some (.int a6), some (.long a7), none, some (.int a9), some (.int a10), some (.int a11), some (.int a12), some (.int a13), none, some (.int a15), some (.int a16), none, none, none, none, none, none, none, some (.int a24), none, none, none, none, none, none, none, none, none, none, none, none, none, none, none, none, none, none, some (.int a43), none] rfl ?_
              exact ss_la_law_2459 self68 hself68 (a5) (a6) (a7) (a9) (a10) (a11) (a12) (a13) (a15) (a16) (a24) (a43) w40
            · refine sm_iconst (0 : Int32) ii_la_law_2495 (by decide) ?_
              exact sm_zret1 ii_la_law_2496 rfl (by decide)
          · refine sm_msk [true, true, true, true, true, true, true, true, false, true, true, true, true, true, false, true, true, false, false, false, false, false, false, false, true, false, false, false, false, false, false, false, false, false, false, false, false, false, false, false, false, false, false, true, false] [some (.ref 999), some (.ref 0), some (.ref 62), some (.ref 63), some (.ref 64), some (.int a5), some (.int a6), some (.long a7), none, some (.int a9), some (.int a10), some (.int a11), some (.int a12), some (.int a13), none, some (.int a15), some (.int a16), none, none, none, none, none, none, none, some (.int a24), none, none, none, none, none, none, none, none, none, none, none, none, none, none, none, none, none, none, some (.int a43), none] rfl ?_
            exact ss_la_law_2459 self68 hself68 (a5) (a6) (a7) (a9) (a10) (a11) (a12) (a13) (a15) (a16) (a24) (a43) w38
    · refine sm_iconst (0 : Int32) ii_la_law_2495 (by decide) ?_
      exact sm_zret1 ii_la_law_2496 rfl (by decide)
  · refine sm_iconst (0 : Int32) ii_la_law_2495 (by decide) ?_
    exact sm_zret1 ii_la_law_2496 rfl (by decide)
noncomputable def ff_la_law_2339 (E : Nat × (Nat → Int32)) (self68 : Int32 → Int32 → Int64 → Int32 → sm_Mem → sm_R) (a5 : Int32) (a6 : Int32) (a7 : Int64) (a9 : Int32) (a10 : Int32) (a11 : Int32) (a12 : Int32) (a13 : Int32) (a15 : Int32) (a16 : Int32) (a20 : Int32) (a21 : Int64) (a24 : Int32) (a43 : Int32) (b0 : Int64) (b1 : Int64) (w : sm_Mem) : sm_R := (if (lg_cmp b0 b1) = (0 : Int32) then (sm_cL (ff_ho_lower  w) fun x41 w42 => (if (lg_cmp x41 (1 : Int64)) = (0 : Int32) then (sm_cI (ff_ho_mid ((0 : Int32)) ((0 : Int32)) w42) fun x43 w44 => (if x43 = (1 : Int32) then (sm_cL (ff_ho_upper  w44) fun x45 w46 => (if (lg_cmp x45 (Int32.toInt64 a24)) = (0 : Int32) then (sm_cL (ff_ho_lower  w46) fun x47 w48 => (if (lg_cmp x47 (1 : Int64)) = (0 : Int32) then (sm_cI (ff_ho_odds ((0 : Int32)) ((12 : Int32)) w48) fun x49 w50 => (if x49 = (1 : Int32) then (sm_cL (ff_ho_upper  w50) fun x51 w52 => (if a20 = (0 : Int32) then ff_la_law_2407 E self68 (a5) (a6) (a7) (a9) (a10) (a11) (a12) (a13) (a15) (a16) (a21) (a24) (a43) (x51) ((1 : Int64)) w52 else ff_la_law_2407 E self68 (a5) (a6) (a7) (a9) (a10) (a11) (a12) (a13) (a15) (a16) (a21) (a24) (a43) (x51) ((0 : Int64)) w52)) else (some (.int (0 : Int32), w50)))) else (some (.int (0 : Int32), w48)))) else (some (.int (0 : Int32), w46)))) else (some (.int (0 : Int32), w44)))) else (some (.int (0 : Int32), w42)))) else (some (.int (0 : Int32), w)))
set_option maxHeartbeats 4000000 in
set_option maxRecDepth 100000 in
theorem ss_la_law_2339 {E : Nat × (Nat → Int32)} (self68 : Int32 → Int32 → Int64 → Int32 → sm_Mem → sm_R) (hself68 : ∀ (a5 : Int32) (a6 : Int32) (a7 : Int64) (a9 : Int32) (w : sm_Mem), sm_Sim E (mi_la_law) 68 [some (.ref 999), some (.ref 0), some (.ref 62), some (.ref 63), some (.ref 64), some (.int a5), some (.int a6), some (.long a7), none, some (.int a9), none, none, none, none, none, none, none, none, none, none, none, none, none, none, none, none, none, none, none, none, none, none, none, none, none, none, none, none, none, none, none, none, none, none, none] [] w (self68 a5 a6 a7 a9 w)) (a5 : Int32) (a6 : Int32) (a7 : Int64) (a9 : Int32) (a10 : Int32) (a11 : Int32) (a12 : Int32) (a13 : Int32) (a15 : Int32) (a16 : Int32) (a20 : Int32) (a21 : Int64) (a24 : Int32) (a43 : Int32) (b0 : Int64) (b1 : Int64) (w : sm_Mem) : sm_Sim E (mi_la_law) 2339 [some (.ref 999), some (.ref 0), some (.ref 62), some (.ref 63), some (.ref 64), some (.int a5), some (.int a6), some (.long a7), none, some (.int a9), some (.int a10), some (.int a11), some (.int a12), some (.int a13), none, some (.int a15), some (.int a16), none, none, none, some (.int a20), some (.long a21), none, none, some (.int a24), none, none, none, none, none, none, none, none, none, none, none, none, none, none, none, none, none, none, some (.int a43), none] [.long b1, .long b0] w (ff_la_law_2339 E self68 a5 a6 a7 a9 a10 a11 a12 a13 a15 a16 a20 a21 a24 a43 b0 b1 w) := by
  unfold ff_la_law_2339
  refine sm_lcmp ii_la_law_2339 ?_
  refine sm_if_ne 2495 ii_la_law_2340 (by decide) ?_ ?_
  · refine sm_aload_n ii_la_law_2343 rfl ?_
    refine sm_cvL [] [] rfl ii_la_law_2344 ml_la_174 (mf_ho_lower) (mv_ho_lower) (Nat.le_of_ble_eq_true rfl) rfl 6 rfl rfl rfl rfl (mc_ho_lower  w) (fun x41 w42 => ?_)
    refine sm_lconst (1 : Int64) ii_la_law_2347 (by decide) ?_
    refine sm_lcmp ii_la_law_2348 ?_
    refine sm_if_ne 2495 ii_la_law_2349 (by decide) ?_ ?_
    · refine sm_aload_n ii_la_law_2352 rfl ?_
      refine sm_iconst (0 : Int32) ii_la_law_2353 (by decide) ?_
      refine sm_iconst (0 : Int32) ii_la_law_2354 (by decide) ?_
      refine sm_cvI [.int (0 : Int32), .int (0 : Int32)] [] rfl ii_la_law_2355 ml_la_177 (mf_ho_mid) (mv_ho_mid) (Nat.le_of_ble_eq_true rfl) rfl 6 rfl rfl rfl rfl (mc_ho_mid ((0 : Int32)) ((0 : Int32)) w42) (fun x43 w44 => ?_)
      refine sm_iconst (1 : Int32) ii_la_law_2358 (by decide) ?_
      refine sm_icmp_ne 2495 ii_la_law_2359 (by decide) ?_ ?_
      · refine sm_aload_n ii_la_law_2362 rfl ?_
        refine sm_cvL [] [] rfl ii_la_law_2363 ml_la_123 (mf_ho_upper) (mv_ho_upper) (Nat.le_of_ble_eq_true rfl) rfl 6 rfl rfl rfl rfl (mc_ho_upper  w44) (fun x45 w46 => ?_)
        refine sm_iload ii_la_law_2366 rfl ?_
        refine sm_i2l ii_la_law_2368 ?_
        refine sm_lcmp ii_la_law_2369 ?_
        refine sm_if_ne 2495 ii_la_law_2370 (by decide) ?_ ?_
        · refine sm_aload_n ii_la_law_2373 rfl ?_
          refine sm_cvL [] [] rfl ii_la_law_2374 ml_la_174 (mf_ho_lower) (mv_ho_lower) (Nat.le_of_ble_eq_true rfl) rfl 6 rfl rfl rfl rfl (mc_ho_lower  w46) (fun x47 w48 => ?_)
          refine sm_lconst (1 : Int64) ii_la_law_2377 (by decide) ?_
          refine sm_lcmp ii_la_law_2378 ?_
          refine sm_if_ne 2495 ii_la_law_2379 (by decide) ?_ ?_
          · refine sm_aload_n ii_la_law_2382 rfl ?_
            refine sm_iconst (0 : Int32) ii_la_law_2383 (by decide) ?_
            refine sm_bipush (12 : Int32) ii_la_law_2384 (by decide) ?_
            refine sm_cvI [.int (0 : Int32), .int (12 : Int32)] [] rfl ii_la_law_2386 ml_la_171 (mf_ho_odds) (mv_ho_odds) (Nat.le_of_ble_eq_true rfl) rfl 6 rfl rfl rfl rfl (mc_ho_odds ((0 : Int32)) ((12 : Int32)) w48) (fun x49 w50 => ?_)
            refine sm_iconst (1 : Int32) ii_la_law_2389 (by decide) ?_
            refine sm_icmp_ne 2495 ii_la_law_2390 (by decide) ?_ ?_
            · refine sm_aload_n ii_la_law_2393 rfl ?_
              refine sm_cvL [] [] rfl ii_la_law_2394 ml_la_123 (mf_ho_upper) (mv_ho_upper) (Nat.le_of_ble_eq_true rfl) rfl 6 rfl rfl rfl rfl (mc_ho_upper  w50) (fun x51 w52 => ?_)
              refine sm_iload ii_la_law_2397 rfl ?_
              refine sm_if_ne 2406 ii_la_law_2399 (by decide) ?_ ?_
              · refine sm_lconst (1 : Int64) ii_la_law_2402 (by decide) ?_
                refine sm_goto 2407 ii_la_law_2403 (by decide) ?_
                refine sm_msk [true, true, true, true, true, true, true, true, false, true, true, true, true, true, false, true, true, false, false, false, false, true, false, false, true, false, false, false, false, false, false, false, false, false, false, false, false, false, false, false, false, false, false, true, false] [some (.ref 999), some (.ref 0), some (.ref 62), some (.ref 63), some (.ref 64), some (.int a5), some (.int a6), some (.long a7), none, some (.int a9), some (.int a10), some (.int a11), some (.int a12), some (.int a13), none, some (.int a15), some (.int a16), none, none, none, none, some (.long a21), none, none, some (.int a24), none, none, none, none, none, none, none, none, none, none, none, none, none, none, none, none, none, none, some (.int a43), none] rfl ?_
                exact ss_la_law_2407 self68 hself68 (a5) (a6) (a7) (a9) (a10) (a11) (a12) (a13) (a15) (a16) (a21) (a24) (a43) (x51) ((1 : Int64)) w52
              · refine sm_lconst (0 : Int64) ii_la_law_2406 (by decide) ?_
                refine sm_msk [true, true, true, true, true, true, true, true, false, true, true, true, true, true, false, true, true, false, false, false, false, true, false, false, true, false, false, false, false, false, false, false, false, false, false, false, false, false, false, false, false, false, false, true, false] [some (.ref 999), some (.ref 0), some (.ref 62), some (.ref 63), some (.ref 64), some (.int a5), some (.int a6), some (.long a7), none, some (.int a9), some (.int a10), some (.int a11), some (.int a12), some (.int a13), none, some (.int a15), some (.int a16), none, none, none, none, some (.long a21), none, none, some (.int a24), none, none, none, none, none, none, none, none, none, none, none, none, none, none, none, none, none, none, some (.int a43), none] rfl ?_
                exact ss_la_law_2407 self68 hself68 (a5) (a6) (a7) (a9) (a10) (a11) (a12) (a13) (a15) (a16) (a21) (a24) (a43) (x51) ((0 : Int64)) w52
            · refine sm_iconst (0 : Int32) ii_la_law_2495 (by decide) ?_
              exact sm_zret1 ii_la_law_2496 rfl (by decide)
          · refine sm_iconst (0 : Int32) ii_la_law_2495 (by decide) ?_
            exact sm_zret1 ii_la_law_2496 rfl (by decide)
        · refine sm_iconst (0 : Int32) ii_la_law_2495 (by decide) ?_
          exact sm_zret1 ii_la_law_2496 rfl (by decide)
      · refine sm_iconst (0 : Int32) ii_la_law_2495 (by decide) ?_
        exact sm_zret1 ii_la_law_2496 rfl (by decide)
    · refine sm_iconst (0 : Int32) ii_la_law_2495 (by decide) ?_
      exact sm_zret1 ii_la_law_2496 rfl (by decide)
  · refine sm_iconst (0 : Int32) ii_la_law_2495 (by decide) ?_
    exact sm_zret1 ii_la_law_2496 rfl (by decide)
noncomputable def ff_la_law_2301 (E : Nat × (Nat → Int32)) (self68 : Int32 → Int32 → Int64 → Int32 → sm_Mem → sm_R) (a5 : Int32) (a6 : Int32) (a7 : Int64) (a9 : Int32) (a10 : Int32) (a11 : Int32) (a12 : Int32) (a13 : Int32) (a15 : Int32) (a16 : Int32) (a20 : Int32) (a21 : Int64) (a24 : Int32) (w : sm_Mem) : sm_R := (sm_cI (ff_la_low ((a10 >>> ((13 : Int32) &&& (31 : Int32)))) ((13 : Int32)) w) fun x53 w54 => (sm_cI (ff_ho_odds ((0 : Int32)) ((0 : Int32)) w54) fun x55 w56 => (if x55 = (1 : Int32) then (sm_cL (ff_ho_upper  w56) fun x57 w58 => (if (lg_cmp a21 (0 : Int64)) ≤ (0 : Int32) then ff_la_law_2339 E self68 (a5) (a6) (a7) (a9) (a10) (a11) (a12) (a13) (a15) (a16) (a20) (a21) (a24) (x53) (x57) ((0 : Int64)) w58 else ff_la_law_2339 E self68 (a5) (a6) (a7) (a9) (a10) (a11) (a12) (a13) (a15) (a16) (a20) (a21) (a24) (x53) (x57) ((1 : Int64)) w58)) else (some (.int (0 : Int32), w56)))))
set_option maxHeartbeats 4000000 in
set_option maxRecDepth 100000 in
theorem ss_la_law_2301 {E : Nat × (Nat → Int32)} (self68 : Int32 → Int32 → Int64 → Int32 → sm_Mem → sm_R) (hself68 : ∀ (a5 : Int32) (a6 : Int32) (a7 : Int64) (a9 : Int32) (w : sm_Mem), sm_Sim E (mi_la_law) 68 [some (.ref 999), some (.ref 0), some (.ref 62), some (.ref 63), some (.ref 64), some (.int a5), some (.int a6), some (.long a7), none, some (.int a9), none, none, none, none, none, none, none, none, none, none, none, none, none, none, none, none, none, none, none, none, none, none, none, none, none, none, none, none, none, none, none, none, none, none, none] [] w (self68 a5 a6 a7 a9 w)) (a5 : Int32) (a6 : Int32) (a7 : Int64) (a9 : Int32) (a10 : Int32) (a11 : Int32) (a12 : Int32) (a13 : Int32) (a15 : Int32) (a16 : Int32) (a20 : Int32) (a21 : Int64) (a24 : Int32) (w : sm_Mem) : sm_Sim E (mi_la_law) 2301 [some (.ref 999), some (.ref 0), some (.ref 62), some (.ref 63), some (.ref 64), some (.int a5), some (.int a6), some (.long a7), none, some (.int a9), some (.int a10), some (.int a11), some (.int a12), some (.int a13), none, some (.int a15), some (.int a16), none, none, none, some (.int a20), some (.long a21), none, none, some (.int a24), none, none, none, none, none, none, none, none, none, none, none, none, none, none, none, none, none, none, none, none] [] w (ff_la_law_2301 E self68 a5 a6 a7 a9 a10 a11 a12 a13 a15 a16 a20 a21 a24 w) := by
  unfold ff_la_law_2301
  refine sm_iload ii_la_law_2301 rfl ?_
  refine sm_bipush (13 : Int32) ii_la_law_2303 (by decide) ?_
  refine sm_ishr ii_la_law_2305 ?_
  refine sm_bipush (13 : Int32) ii_la_law_2306 (by decide) ?_
  refine sm_csI [.int (a10 >>> ((13 : Int32) &&& (31 : Int32))), .int (13 : Int32)] [] rfl ii_la_law_2308 ml_la_15 (mf_la_low) (mv_la_low) (Nat.le_of_ble_eq_true rfl) rfl rfl rfl (mc_la_low ((a10 >>> ((13 : Int32) &&& (31 : Int32)))) ((13 : Int32)) w) (fun x53 w54 => ?_)
  refine sm_istore [some (.ref 999), some (.ref 0), some (.ref 62), some (.ref 63), some (.ref 64), some (.int a5), some (.int a6), some (.long a7), none, some (.int a9), some (.int a10), some (.int a11), some (.int a12), some (.int a13), none, some (.int a15), some (.int a16), none, none, none, some (.int a20), some (.long a21), none, none, some (.int a24), none, none, none, none, none, none, none, none, none, none, none, none, none, none, none, none, none, none, some (.int x53), none] ii_la_law_2311 rfl rfl ?_
  refine sm_aload_n ii_la_law_2313 rfl ?_
  refine sm_iconst (0 : Int32) ii_la_law_2314 (by decide) ?_
  refine sm_iconst (0 : Int32) ii_la_law_2315 (by decide) ?_
  refine sm_cvI [.int (0 : Int32), .int (0 : Int32)] [] rfl ii_la_law_2316 ml_la_171 (mf_ho_odds) (mv_ho_odds) (Nat.le_of_ble_eq_true rfl) rfl 6 rfl rfl rfl rfl (mc_ho_odds ((0 : Int32)) ((0 : Int32)) w54) (fun x55 w56 => ?_)
  refine sm_iconst (1 : Int32) ii_la_law_2319 (by decide) ?_
  refine sm_icmp_ne 2495 ii_la_law_2320 (by decide) ?_ ?_
  · refine sm_aload_n ii_la_law_2323 rfl ?_
    refine sm_cvL [] [] rfl ii_la_law_2324 ml_la_123 (mf_ho_upper) (mv_ho_upper) (Nat.le_of_ble_eq_true rfl) rfl 6 rfl rfl rfl rfl (mc_ho_upper  w56) (fun x57 w58 => ?_)
    refine sm_lload ii_la_law_2327 rfl ?_
    refine sm_lconst (0 : Int64) ii_la_law_2329 (by decide) ?_
    refine sm_lcmp ii_la_law_2330 ?_
    refine sm_if_le 2338 ii_la_law_2331 (by decide) ?_ ?_
    · refine sm_lconst (0 : Int64) ii_la_law_2338 (by decide) ?_
      exact ss_la_law_2339 self68 hself68 (a5) (a6) (a7) (a9) (a10) (a11) (a12) (a13) (a15) (a16) (a20) (a21) (a24) (x53) (x57) ((0 : Int64)) w58
    · refine sm_lconst (1 : Int64) ii_la_law_2334 (by decide) ?_
      refine sm_goto 2339 ii_la_law_2335 (by decide) ?_
      exact ss_la_law_2339 self68 hself68 (a5) (a6) (a7) (a9) (a10) (a11) (a12) (a13) (a15) (a16) (a20) (a21) (a24) (x53) (x57) ((1 : Int64)) w58
  · refine sm_iconst (0 : Int32) ii_la_law_2495 (by decide) ?_
    exact sm_zret1 ii_la_law_2496 rfl (by decide)
noncomputable def ff_la_law_2273 (E : Nat × (Nat → Int32)) (self68 : Int32 → Int32 → Int64 → Int32 → sm_Mem → sm_R) (a5 : Int32) (a6 : Int32) (a7 : Int64) (a9 : Int32) (a10 : Int32) (a11 : Int32) (a12 : Int32) (a13 : Int32) (a15 : Int32) (a16 : Int32) (a20 : Int32) (a21 : Int64) (a24 : Int32) (w : sm_Mem) : sm_R := (sm_cI (ff_ho_struck ((0 : Int32)) w) fun x59 w60 => (if x59 = (-9 : Int32) then (sm_cI (ff_ho_struck ((2 : Int32)) w60) fun x61 w62 => (if x61 = (0 : Int32) then (sm_cI (ff_ho_struck ((3 : Int32)) w62) fun x63 w64 => (if x63 = (0 : Int32) then ff_la_law_2301 E self68 (a5) (a6) (a7) (a9) (a10) (a11) (a12) (a13) (a15) (a16) (a20) (a21) (a24) w64 else (some (.int (0 : Int32), w64)))) else ff_la_law_2301 E self68 (a5) (a6) (a7) (a9) (a10) (a11) (a12) (a13) (a15) (a16) (a20) (a21) (a24) w62)) else (some (.int (0 : Int32), w60))))
set_option maxHeartbeats 4000000 in
set_option maxRecDepth 100000 in
theorem ss_la_law_2273 {E : Nat × (Nat → Int32)} (self68 : Int32 → Int32 → Int64 → Int32 → sm_Mem → sm_R) (hself68 : ∀ (a5 : Int32) (a6 : Int32) (a7 : Int64) (a9 : Int32) (w : sm_Mem), sm_Sim E (mi_la_law) 68 [some (.ref 999), some (.ref 0), some (.ref 62), some (.ref 63), some (.ref 64), some (.int a5), some (.int a6), some (.long a7), none, some (.int a9), none, none, none, none, none, none, none, none, none, none, none, none, none, none, none, none, none, none, none, none, none, none, none, none, none, none, none, none, none, none, none, none, none, none, none] [] w (self68 a5 a6 a7 a9 w)) (a5 : Int32) (a6 : Int32) (a7 : Int64) (a9 : Int32) (a10 : Int32) (a11 : Int32) (a12 : Int32) (a13 : Int32) (a15 : Int32) (a16 : Int32) (a20 : Int32) (a21 : Int64) (a24 : Int32) (w : sm_Mem) : sm_Sim E (mi_la_law) 2273 [some (.ref 999), some (.ref 0), some (.ref 62), some (.ref 63), some (.ref 64), some (.int a5), some (.int a6), some (.long a7), none, some (.int a9), some (.int a10), some (.int a11), some (.int a12), some (.int a13), none, some (.int a15), some (.int a16), none, none, none, some (.int a20), some (.long a21), none, none, some (.int a24), none, none, none, none, none, none, none, none, none, none, none, none, none, none, none, none, none, none, none, none] [] w (ff_la_law_2273 E self68 a5 a6 a7 a9 a10 a11 a12 a13 a15 a16 a20 a21 a24 w) := by
  unfold ff_la_law_2273
  refine sm_aload_n ii_la_law_2273 rfl ?_
  refine sm_iconst (0 : Int32) ii_la_law_2274 (by decide) ?_
  refine sm_cvI [.int (0 : Int32)] [] rfl ii_la_law_2275 ml_la_168 (mf_ho_struck) (mv_ho_struck) (Nat.le_of_ble_eq_true rfl) rfl 6 rfl rfl rfl rfl (mc_ho_struck ((0 : Int32)) w) (fun x59 w60 => ?_)
  refine sm_bipush (-9 : Int32) ii_la_law_2278 (by decide) ?_
  refine sm_icmp_ne 2299 ii_la_law_2280 (by decide) ?_ ?_
  · refine sm_aload_n ii_la_law_2283 rfl ?_
    refine sm_iconst (2 : Int32) ii_la_law_2284 (by decide) ?_
    refine sm_cvI [.int (2 : Int32)] [] rfl ii_la_law_2285 ml_la_168 (mf_ho_struck) (mv_ho_struck) (Nat.le_of_ble_eq_true rfl) rfl 6 rfl rfl rfl rfl (mc_ho_struck ((2 : Int32)) w60) (fun x61 w62 => ?_)
    refine sm_if_ne 2301 ii_la_law_2288 (by decide) ?_ ?_
    · refine sm_aload_n ii_la_law_2291 rfl ?_
      refine sm_iconst (3 : Int32) ii_la_law_2292 (by decide) ?_
      refine sm_cvI [.int (3 : Int32)] [] rfl ii_la_law_2293 ml_la_168 (mf_ho_struck) (mv_ho_struck) (Nat.le_of_ble_eq_true rfl) rfl 6 rfl rfl rfl rfl (mc_ho_struck ((3 : Int32)) w62) (fun x63 w64 => ?_)
      refine sm_if_eq 2301 ii_la_law_2296 (by decide) ?_ ?_
      · exact ss_la_law_2301 self68 hself68 (a5) (a6) (a7) (a9) (a10) (a11) (a12) (a13) (a15) (a16) (a20) (a21) (a24) w64
      · refine sm_iconst (0 : Int32) ii_la_law_2299 (by decide) ?_
        exact sm_zret1 ii_la_law_2300 rfl (by decide)
    · exact ss_la_law_2301 self68 hself68 (a5) (a6) (a7) (a9) (a10) (a11) (a12) (a13) (a15) (a16) (a20) (a21) (a24) w62
  · refine sm_iconst (0 : Int32) ii_la_law_2299 (by decide) ?_
    exact sm_zret1 ii_la_law_2300 rfl (by decide)
noncomputable def ff_la_law_2247 (E : Nat × (Nat → Int32)) (self68 : Int32 → Int32 → Int64 → Int32 → sm_Mem → sm_R) (a5 : Int32) (a6 : Int32) (a7 : Int64) (a9 : Int32) (a10 : Int32) (a11 : Int32) (a12 : Int32) (a13 : Int32) (a15 : Int32) (a16 : Int32) (a20 : Int32) (a21 : Int64) (a24 : Int32) (b0 : Int32) (b1 : Int32) (w : sm_Mem) : sm_R := (if b0 = b1 then (if a16 = (0 : Int32) then (sm_cI (ff_ho_struck ((2 : Int32)) w) fun x65 w66 => (if x65 = (1 : Int32) then (sm_cI (ff_ho_struck ((3 : Int32)) w66) fun x67 w68 => (if x67 = (1 : Int32) then ff_la_law_2273 E self68 (a5) (a6) (a7) (a9) (a10) (a11) (a12) (a13) (a15) (a16) (a20) (a21) (a24) w68 else (some (.int (0 : Int32), w68)))) else (some (.int (0 : Int32), w66)))) else ff_la_law_2273 E self68 (a5) (a6) (a7) (a9) (a10) (a11) (a12) (a13) (a15) (a16) (a20) (a21) (a24) w) else (some (.int (0 : Int32), w)))
set_option maxHeartbeats 4000000 in
set_option maxRecDepth 100000 in
theorem ss_la_law_2247 {E : Nat × (Nat → Int32)} (self68 : Int32 → Int32 → Int64 → Int32 → sm_Mem → sm_R) (hself68 : ∀ (a5 : Int32) (a6 : Int32) (a7 : Int64) (a9 : Int32) (w : sm_Mem), sm_Sim E (mi_la_law) 68 [some (.ref 999), some (.ref 0), some (.ref 62), some (.ref 63), some (.ref 64), some (.int a5), some (.int a6), some (.long a7), none, some (.int a9), none, none, none, none, none, none, none, none, none, none, none, none, none, none, none, none, none, none, none, none, none, none, none, none, none, none, none, none, none, none, none, none, none, none, none] [] w (self68 a5 a6 a7 a9 w)) (a5 : Int32) (a6 : Int32) (a7 : Int64) (a9 : Int32) (a10 : Int32) (a11 : Int32) (a12 : Int32) (a13 : Int32) (a15 : Int32) (a16 : Int32) (a20 : Int32) (a21 : Int64) (a24 : Int32) (b0 : Int32) (b1 : Int32) (w : sm_Mem) : sm_Sim E (mi_la_law) 2247 [some (.ref 999), some (.ref 0), some (.ref 62), some (.ref 63), some (.ref 64), some (.int a5), some (.int a6), some (.long a7), none, some (.int a9), some (.int a10), some (.int a11), some (.int a12), some (.int a13), none, some (.int a15), some (.int a16), none, none, none, some (.int a20), some (.long a21), none, none, some (.int a24), none, none, none, none, none, none, none, none, none, none, none, none, none, none, none, none, none, none, none, none] [.int b1, .int b0] w (ff_la_law_2247 E self68 a5 a6 a7 a9 a10 a11 a12 a13 a15 a16 a20 a21 a24 b0 b1 w) := by
  unfold ff_la_law_2247
  refine sm_icmp_ne 2299 ii_la_law_2247 (by decide) ?_ ?_
  · refine sm_iload ii_la_law_2250 rfl ?_
    refine sm_if_ne 2273 ii_la_law_2252 (by decide) ?_ ?_
    · refine sm_aload_n ii_la_law_2255 rfl ?_
      refine sm_iconst (2 : Int32) ii_la_law_2256 (by decide) ?_
      refine sm_cvI [.int (2 : Int32)] [] rfl ii_la_law_2257 ml_la_168 (mf_ho_struck) (mv_ho_struck) (Nat.le_of_ble_eq_true rfl) rfl 6 rfl rfl rfl rfl (mc_ho_struck ((2 : Int32)) w) (fun x65 w66 => ?_)
      refine sm_iconst (1 : Int32) ii_la_law_2260 (by decide) ?_
      refine sm_icmp_ne 2299 ii_la_law_2261 (by decide) ?_ ?_
      · refine sm_aload_n ii_la_law_2264 rfl ?_
        refine sm_iconst (3 : Int32) ii_la_law_2265 (by decide) ?_
        refine sm_cvI [.int (3 : Int32)] [] rfl ii_la_law_2266 ml_la_168 (mf_ho_struck) (mv_ho_struck) (Nat.le_of_ble_eq_true rfl) rfl 6 rfl rfl rfl rfl (mc_ho_struck ((3 : Int32)) w66) (fun x67 w68 => ?_)
        refine sm_iconst (1 : Int32) ii_la_law_2269 (by decide) ?_
        refine sm_icmp_ne 2299 ii_la_law_2270 (by decide) ?_ ?_
        · exact ss_la_law_2273 self68 hself68 (a5) (a6) (a7) (a9) (a10) (a11) (a12) (a13) (a15) (a16) (a20) (a21) (a24) w68
        · refine sm_iconst (0 : Int32) ii_la_law_2299 (by decide) ?_
          exact sm_zret1 ii_la_law_2300 rfl (by decide)
      · refine sm_iconst (0 : Int32) ii_la_law_2299 (by decide) ?_
        exact sm_zret1 ii_la_law_2300 rfl (by decide)
    · exact ss_la_law_2273 self68 hself68 (a5) (a6) (a7) (a9) (a10) (a11) (a12) (a13) (a15) (a16) (a20) (a21) (a24) w
  · refine sm_iconst (0 : Int32) ii_la_law_2299 (by decide) ?_
    exact sm_zret1 ii_la_law_2300 rfl (by decide)
noncomputable def ff_la_law_2222 (E : Nat × (Nat → Int32)) (self68 : Int32 → Int32 → Int64 → Int32 → sm_Mem → sm_R) (a5 : Int32) (a6 : Int32) (a7 : Int64) (a9 : Int32) (a10 : Int32) (a11 : Int32) (a12 : Int32) (a13 : Int32) (a15 : Int32) (a16 : Int32) (a20 : Int32) (a21 : Int64) (a24 : Int32) (b0 : Int32) (b1 : Int32) (w : sm_Mem) : sm_R := (if b0 ≤ b1 then (sm_cI (ff_ho_struck ((1 : Int32)) w) fun x69 w70 => (if a16 = (0 : Int32) then ff_la_law_2247 E self68 (a5) (a6) (a7) (a9) (a10) (a11) (a12) (a13) (a15) (a16) (a20) (a21) (a24) (x69) ((1 : Int32)) w70 else ff_la_law_2247 E self68 (a5) (a6) (a7) (a9) (a10) (a11) (a12) (a13) (a15) (a16) (a20) (a21) (a24) (x69) ((-9 : Int32)) w70)) else (some (.int (0 : Int32), w)))
set_option maxHeartbeats 4000000 in
set_option maxRecDepth 100000 in
theorem ss_la_law_2222 {E : Nat × (Nat → Int32)} (self68 : Int32 → Int32 → Int64 → Int32 → sm_Mem → sm_R) (hself68 : ∀ (a5 : Int32) (a6 : Int32) (a7 : Int64) (a9 : Int32) (w : sm_Mem), sm_Sim E (mi_la_law) 68 [some (.ref 999), some (.ref 0), some (.ref 62), some (.ref 63), some (.ref 64), some (.int a5), some (.int a6), some (.long a7), none, some (.int a9), none, none, none, none, none, none, none, none, none, none, none, none, none, none, none, none, none, none, none, none, none, none, none, none, none, none, none, none, none, none, none, none, none, none, none] [] w (self68 a5 a6 a7 a9 w)) (a5 : Int32) (a6 : Int32) (a7 : Int64) (a9 : Int32) (a10 : Int32) (a11 : Int32) (a12 : Int32) (a13 : Int32) (a15 : Int32) (a16 : Int32) (a20 : Int32) (a21 : Int64) (a24 : Int32) (b0 : Int32) (b1 : Int32) (w : sm_Mem) : sm_Sim E (mi_la_law) 2222 [some (.ref 999), some (.ref 0), some (.ref 62), some (.ref 63), some (.ref 64), some (.int a5), some (.int a6), some (.long a7), none, some (.int a9), some (.int a10), some (.int a11), some (.int a12), some (.int a13), none, some (.int a15), some (.int a16), none, none, none, some (.int a20), some (.long a21), none, none, some (.int a24), none, none, none, none, none, none, none, none, none, none, none, none, none, none, none, none, none, none, none, none] [.int b1, .int b0] w (ff_la_law_2222 E self68 a5 a6 a7 a9 a10 a11 a12 a13 a15 a16 a20 a21 a24 b0 b1 w) := by
  unfold ff_la_law_2222
  refine sm_icmp_le 2227 ii_la_law_2222 (by decide) ?_ ?_
  · refine sm_aload_n ii_la_law_2227 rfl ?_
    refine sm_iconst (1 : Int32) ii_la_law_2228 (by decide) ?_
    refine sm_cvI [.int (1 : Int32)] [] rfl ii_la_law_2229 ml_la_168 (mf_ho_struck) (mv_ho_struck) (Nat.le_of_ble_eq_true rfl) rfl 6 rfl rfl rfl rfl (mc_ho_struck ((1 : Int32)) w) (fun x69 w70 => ?_)
    refine sm_istore [some (.ref 999), some (.ref 0), some (.ref 62), some (.ref 63), some (.ref 64), some (.int a5), some (.int a6), some (.long a7), none, some (.int a9), some (.int a10), some (.int a11), some (.int a12), some (.int a13), none, some (.int a15), some (.int a16), none, none, none, some (.int a20), some (.long a21), none, none, some (.int a24), none, none, none, none, none, none, none, none, none, none, none, none, none, none, none, none, none, some (.int x69), none, none] ii_la_law_2232 rfl rfl ?_
    refine sm_iload ii_la_law_2234 rfl ?_
    refine sm_iload ii_la_law_2236 rfl ?_
    refine sm_if_ne 2245 ii_la_law_2238 (by decide) ?_ ?_
    · refine sm_iconst (1 : Int32) ii_la_law_2241 (by decide) ?_
      refine sm_goto 2247 ii_la_law_2242 (by decide) ?_
      refine sm_msk [true, true, true, true, true, true, true, true, false, true, true, true, true, true, false, true, true, false, false, false, true, true, false, false, true, false, false, false, false, false, false, false, false, false, false, false, false, false, false, false, false, false, false, false, false] [some (.ref 999), some (.ref 0), some (.ref 62), some (.ref 63), some (.ref 64), some (.int a5), some (.int a6), some (.long a7), none, some (.int a9), some (.int a10), some (.int a11), some (.int a12), some (.int a13), none, some (.int a15), some (.int a16), none, none, none, some (.int a20), some (.long a21), none, none, some (.int a24), none, none, none, none, none, none, none, none, none, none, none, none, none, none, none, none, none, none, none, none] rfl ?_
      exact ss_la_law_2247 self68 hself68 (a5) (a6) (a7) (a9) (a10) (a11) (a12) (a13) (a15) (a16) (a20) (a21) (a24) (x69) ((1 : Int32)) w70
    · refine sm_bipush (-9 : Int32) ii_la_law_2245 (by decide) ?_
      refine sm_msk [true, true, true, true, true, true, true, true, false, true, true, true, true, true, false, true, true, false, false, false, true, true, false, false, true, false, false, false, false, false, false, false, false, false, false, false, false, false, false, false, false, false, false, false, false] [some (.ref 999), some (.ref 0), some (.ref 62), some (.ref 63), some (.ref 64), some (.int a5), some (.int a6), some (.long a7), none, some (.int a9), some (.int a10), some (.int a11), some (.int a12), some (.int a13), none, some (.int a15), some (.int a16), none, none, none, some (.int a20), some (.long a21), none, none, some (.int a24), none, none, none, none, none, none, none, none, none, none, none, none, none, none, none, none, none, none, none, none] rfl ?_
      exact ss_la_law_2247 self68 hself68 (a5) (a6) (a7) (a9) (a10) (a11) (a12) (a13) (a15) (a16) (a20) (a21) (a24) (x69) ((-9 : Int32)) w70
  · refine sm_iconst (0 : Int32) ii_la_law_2225 (by decide) ?_
    exact sm_zret1 ii_la_law_2226 rfl (by decide)
noncomputable def ff_la_law_2200 (E : Nat × (Nat → Int32)) (self68 : Int32 → Int32 → Int64 → Int32 → sm_Mem → sm_R) (a5 : Int32) (a6 : Int32) (a7 : Int64) (a9 : Int32) (a10 : Int32) (a11 : Int32) (a12 : Int32) (a13 : Int32) (a15 : Int32) (a16 : Int32) (a20 : Int32) (a21 : Int64) (a24 : Int32) (b0 : Int32) (b1 : Int32) (w : sm_Mem) : sm_R := (if b0 < b1 then (some (.int (0 : Int32), w)) else (sm_cI (ff_ho_off ((0 : Int32)) w) fun x71 w72 => (if a20 ≤ a13 then ff_la_law_2222 E self68 (a5) (a6) (a7) (a9) (a10) (a11) (a12) (a13) (a15) (a16) (a20) (a21) (a24) (x71) (a13) w72 else ff_la_law_2222 E self68 (a5) (a6) (a7) (a9) (a10) (a11) (a12) (a13) (a15) (a16) (a20) (a21) (a24) (x71) (a20) w72)))
set_option maxHeartbeats 4000000 in
set_option maxRecDepth 100000 in
theorem ss_la_law_2200 {E : Nat × (Nat → Int32)} (self68 : Int32 → Int32 → Int64 → Int32 → sm_Mem → sm_R) (hself68 : ∀ (a5 : Int32) (a6 : Int32) (a7 : Int64) (a9 : Int32) (w : sm_Mem), sm_Sim E (mi_la_law) 68 [some (.ref 999), some (.ref 0), some (.ref 62), some (.ref 63), some (.ref 64), some (.int a5), some (.int a6), some (.long a7), none, some (.int a9), none, none, none, none, none, none, none, none, none, none, none, none, none, none, none, none, none, none, none, none, none, none, none, none, none, none, none, none, none, none, none, none, none, none, none] [] w (self68 a5 a6 a7 a9 w)) (a5 : Int32) (a6 : Int32) (a7 : Int64) (a9 : Int32) (a10 : Int32) (a11 : Int32) (a12 : Int32) (a13 : Int32) (a15 : Int32) (a16 : Int32) (a20 : Int32) (a21 : Int64) (a24 : Int32) (b0 : Int32) (b1 : Int32) (w : sm_Mem) : sm_Sim E (mi_la_law) 2200 [some (.ref 999), some (.ref 0), some (.ref 62), some (.ref 63), some (.ref 64), some (.int a5), some (.int a6), some (.long a7), none, some (.int a9), some (.int a10), some (.int a11), some (.int a12), some (.int a13), none, some (.int a15), some (.int a16), none, none, none, some (.int a20), some (.long a21), none, none, some (.int a24), none, none, none, none, none, none, none, none, none, none, none, none, none, none, none, none, none, none, none, none] [.int b1, .int b0] w (ff_la_law_2200 E self68 a5 a6 a7 a9 a10 a11 a12 a13 a15 a16 a20 a21 a24 b0 b1 w) := by
  unfold ff_la_law_2200
  refine sm_icmp_lt 2225 ii_la_law_2200 (by decide) ?_ ?_
  · refine sm_iconst (0 : Int32) ii_la_law_2225 (by decide) ?_
    exact sm_zret1 ii_la_law_2226 rfl (by decide)
  · refine sm_aload_n ii_la_law_2203 rfl ?_
    refine sm_iconst (0 : Int32) ii_la_law_2204 (by decide) ?_
    refine sm_cvI [.int (0 : Int32)] [] rfl ii_la_law_2205 ml_la_165 (mf_ho_off) (mv_ho_off) (Nat.le_of_ble_eq_true rfl) rfl 6 rfl rfl rfl rfl (mc_ho_off ((0 : Int32)) w) (fun x71 w72 => ?_)
    refine sm_iload ii_la_law_2208 rfl ?_
    refine sm_iload ii_la_law_2210 rfl ?_
    refine sm_icmp_le 2220 ii_la_law_2212 (by decide) ?_ ?_
    · refine sm_iload ii_la_law_2220 rfl ?_
      exact ss_la_law_2222 self68 hself68 (a5) (a6) (a7) (a9) (a10) (a11) (a12) (a13) (a15) (a16) (a20) (a21) (a24) (x71) (a13) w72
    · refine sm_iload ii_la_law_2215 rfl ?_
      refine sm_goto 2222 ii_la_law_2217 (by decide) ?_
      exact ss_la_law_2222 self68 hself68 (a5) (a6) (a7) (a9) (a10) (a11) (a12) (a13) (a15) (a16) (a20) (a21) (a24) (x71) (a20) w72
noncomputable def ff_la_law_2135_b (E : Nat × (Nat → Int32)) (self68 : Int32 → Int32 → Int64 → Int32 → sm_Mem → sm_R) (self2135 : Int32 → Int32 → Int64 → Int32 → Int32 → Int32 → Int32 → Int32 → Int32 → Int32 → Int32 → Int64 → Int32 → Int32 → sm_Mem → sm_R) (a5 : Int32) (a6 : Int32) (a7 : Int64) (a9 : Int32) (a10 : Int32) (a11 : Int32) (a12 : Int32) (a13 : Int32) (a15 : Int32) (a16 : Int32) (a20 : Int32) (a21 : Int64) (a24 : Int32) (a42 : Int32) (w : sm_Mem) : sm_R := (if a13 ≤ a42 then (sm_cI (ff_ho_off ((1 : Int32)) w) fun x73 w74 => (if x73 = (0 : Int32) then (sm_cI (ff_ho_off ((0 : Int32)) w74) fun x75 w76 => (if a20 ≤ a13 then ff_la_law_2200 E self68 (a5) (a6) (a7) (a9) (a10) (a11) (a12) (a13) (a15) (a16) (a20) (a21) (a24) (x75) ((a13 - a20)) w76 else ff_la_law_2200 E self68 (a5) (a6) (a7) (a9) (a10) (a11) (a12) (a13) (a15) (a16) (a20) (a21) (a24) (x75) ((a20 - a13)) w76)) else (some (.int (0 : Int32), w74)))) else (sm_cI (ff_ho_said (a42) w) fun x77 w78 => (sm_cI (ff_ho_lay ((1 : Int32)) (a42) (x77) w78) fun x79 w80 => (if x79 = (1 : Int32) then self2135 (a5) (a6) (a7) (a9) (a10) (a11) (a12) (a13) (a15) (a16) (a20) (a21) (a24) ((a42 + (1 : Int32))) w80 else (some (.int (0 : Int32), w80))))))
noncomputable def ff_la_law_2135_f (E : Nat × (Nat → Int32)) (self68 : Int32 → Int32 → Int64 → Int32 → sm_Mem → sm_R) : Nat → Int32 → Int32 → Int64 → Int32 → Int32 → Int32 → Int32 → Int32 → Int32 → Int32 → Int32 → Int64 → Int32 → Int32 → sm_Mem → sm_R
  | 0, _, _, _, _, _, _, _, _, _, _, _, _, _, _, _ => none
  | n + 1, a5, a6, a7, a9, a10, a11, a12, a13, a15, a16, a20, a21, a24, a42, w => ff_la_law_2135_b E self68 (ff_la_law_2135_f E self68 n) a5 a6 a7 a9 a10 a11 a12 a13 a15 a16 a20 a21 a24 a42 w
noncomputable def ff_la_law_2135 (E : Nat × (Nat → Int32)) (self68 : Int32 → Int32 → Int64 → Int32 → sm_Mem → sm_R) (a5 : Int32) (a6 : Int32) (a7 : Int64) (a9 : Int32) (a10 : Int32) (a11 : Int32) (a12 : Int32) (a13 : Int32) (a15 : Int32) (a16 : Int32) (a20 : Int32) (a21 : Int64) (a24 : Int32) (a42 : Int32) (w : sm_Mem) : sm_R := ff_la_law_2135_f E self68 sm_N a5 a6 a7 a9 a10 a11 a12 a13 a15 a16 a20 a21 a24 a42 w
set_option maxHeartbeats 4000000 in
set_option maxRecDepth 100000 in
theorem ss_la_law_2135_b {E : Nat × (Nat → Int32)} (self68 : Int32 → Int32 → Int64 → Int32 → sm_Mem → sm_R) (hself68 : ∀ (a5 : Int32) (a6 : Int32) (a7 : Int64) (a9 : Int32) (w : sm_Mem), sm_Sim E (mi_la_law) 68 [some (.ref 999), some (.ref 0), some (.ref 62), some (.ref 63), some (.ref 64), some (.int a5), some (.int a6), some (.long a7), none, some (.int a9), none, none, none, none, none, none, none, none, none, none, none, none, none, none, none, none, none, none, none, none, none, none, none, none, none, none, none, none, none, none, none, none, none, none, none] [] w (self68 a5 a6 a7 a9 w)) (self2135 : Int32 → Int32 → Int64 → Int32 → Int32 → Int32 → Int32 → Int32 → Int32 → Int32 → Int32 → Int64 → Int32 → Int32 → sm_Mem → sm_R) (hself2135 : ∀ (a5 : Int32) (a6 : Int32) (a7 : Int64) (a9 : Int32) (a10 : Int32) (a11 : Int32) (a12 : Int32) (a13 : Int32) (a15 : Int32) (a16 : Int32) (a20 : Int32) (a21 : Int64) (a24 : Int32) (a42 : Int32) (w : sm_Mem), sm_Sim E (mi_la_law) 2135 [some (.ref 999), some (.ref 0), some (.ref 62), some (.ref 63), some (.ref 64), some (.int a5), some (.int a6), some (.long a7), none, some (.int a9), some (.int a10), some (.int a11), some (.int a12), some (.int a13), none, some (.int a15), some (.int a16), none, none, none, some (.int a20), some (.long a21), none, none, some (.int a24), none, none, none, none, none, none, none, none, none, none, none, none, none, none, none, none, none, some (.int a42), none, none] [] w (self2135 a5 a6 a7 a9 a10 a11 a12 a13 a15 a16 a20 a21 a24 a42 w)) (a5 : Int32) (a6 : Int32) (a7 : Int64) (a9 : Int32) (a10 : Int32) (a11 : Int32) (a12 : Int32) (a13 : Int32) (a15 : Int32) (a16 : Int32) (a20 : Int32) (a21 : Int64) (a24 : Int32) (a42 : Int32) (w : sm_Mem) : sm_Sim E (mi_la_law) 2135 [some (.ref 999), some (.ref 0), some (.ref 62), some (.ref 63), some (.ref 64), some (.int a5), some (.int a6), some (.long a7), none, some (.int a9), some (.int a10), some (.int a11), some (.int a12), some (.int a13), none, some (.int a15), some (.int a16), none, none, none, some (.int a20), some (.long a21), none, none, some (.int a24), none, none, none, none, none, none, none, none, none, none, none, none, none, none, none, none, none, some (.int a42), none, none] [] w (ff_la_law_2135_b E self68 self2135 a5 a6 a7 a9 a10 a11 a12 a13 a15 a16 a20 a21 a24 a42 w) := by
  unfold ff_la_law_2135_b
  refine sm_iload ii_la_law_2135 rfl ?_
  refine sm_iload ii_la_law_2137 rfl ?_
  refine sm_icmp_ge 2167 ii_la_law_2139 (by decide) ?_ ?_
  · refine sm_aload_n ii_la_law_2167 rfl ?_
    refine sm_iconst (1 : Int32) ii_la_law_2168 (by decide) ?_
    refine sm_cvI [.int (1 : Int32)] [] rfl ii_la_law_2169 ml_la_165 (mf_ho_off) (mv_ho_off) (Nat.le_of_ble_eq_true rfl) rfl 6 rfl rfl rfl rfl (mc_ho_off ((1 : Int32)) w) (fun x73 w74 => ?_)
    refine sm_if_ne 2225 ii_la_law_2172 (by decide) ?_ ?_
    · refine sm_aload_n ii_la_law_2175 rfl ?_
      refine sm_iconst (0 : Int32) ii_la_law_2176 (by decide) ?_
      refine sm_cvI [.int (0 : Int32)] [] rfl ii_la_law_2177 ml_la_165 (mf_ho_off) (mv_ho_off) (Nat.le_of_ble_eq_true rfl) rfl 6 rfl rfl rfl rfl (mc_ho_off ((0 : Int32)) w74) (fun x75 w76 => ?_)
      refine sm_iload ii_la_law_2180 rfl ?_
      refine sm_iload ii_la_law_2182 rfl ?_
      refine sm_icmp_le 2195 ii_la_law_2184 (by decide) ?_ ?_
      · refine sm_iload ii_la_law_2195 rfl ?_
        refine sm_iload ii_la_law_2197 rfl ?_
        refine sm_isub ii_la_law_2199 ?_
        refine sm_msk [true, true, true, true, true, true, true, true, false, true, true, true, true, true, false, true, true, false, false, false, true, true, false, false, true, false, false, false, false, false, false, false, false, false, false, false, false, false, false, false, false, false, false, false, false] [some (.ref 999), some (.ref 0), some (.ref 62), some (.ref 63), some (.ref 64), some (.int a5), some (.int a6), some (.long a7), none, some (.int a9), some (.int a10), some (.int a11), some (.int a12), some (.int a13), none, some (.int a15), some (.int a16), none, none, none, some (.int a20), some (.long a21), none, none, some (.int a24), none, none, none, none, none, none, none, none, none, none, none, none, none, none, none, none, none, none, none, none] rfl ?_
        exact ss_la_law_2200 self68 hself68 (a5) (a6) (a7) (a9) (a10) (a11) (a12) (a13) (a15) (a16) (a20) (a21) (a24) (x75) ((a13 - a20)) w76
      · refine sm_iload ii_la_law_2187 rfl ?_
        refine sm_iload ii_la_law_2189 rfl ?_
        refine sm_isub ii_la_law_2191 ?_
        refine sm_goto 2200 ii_la_law_2192 (by decide) ?_
        refine sm_msk [true, true, true, true, true, true, true, true, false, true, true, true, true, true, false, true, true, false, false, false, true, true, false, false, true, false, false, false, false, false, false, false, false, false, false, false, false, false, false, false, false, false, false, false, false] [some (.ref 999), some (.ref 0), some (.ref 62), some (.ref 63), some (.ref 64), some (.int a5), some (.int a6), some (.long a7), none, some (.int a9), some (.int a10), some (.int a11), some (.int a12), some (.int a13), none, some (.int a15), some (.int a16), none, none, none, some (.int a20), some (.long a21), none, none, some (.int a24), none, none, none, none, none, none, none, none, none, none, none, none, none, none, none, none, none, none, none, none] rfl ?_
        exact ss_la_law_2200 self68 hself68 (a5) (a6) (a7) (a9) (a10) (a11) (a12) (a13) (a15) (a16) (a20) (a21) (a24) (x75) ((a20 - a13)) w76
    · refine sm_iconst (0 : Int32) ii_la_law_2225 (by decide) ?_
      exact sm_zret1 ii_la_law_2226 rfl (by decide)
  · refine sm_aload_n ii_la_law_2142 rfl ?_
    refine sm_iconst (1 : Int32) ii_la_law_2143 (by decide) ?_
    refine sm_iload ii_la_law_2144 rfl ?_
    refine sm_aload_n ii_la_law_2146 rfl ?_
    refine sm_iload ii_la_law_2147 rfl ?_
    refine sm_cvI [.int a42] [.int a42, .int (1 : Int32), .ref 0] rfl ii_la_law_2149 ml_la_99 (mf_ho_said) (mv_ho_said) (Nat.le_of_ble_eq_true rfl) rfl 6 rfl rfl rfl rfl (mc_ho_said (a42) w) (fun x77 w78 => ?_)
    refine sm_cvI [.int (1 : Int32), .int a42, .int x77] [] rfl ii_la_law_2152 ml_la_117 (mf_ho_lay) (mv_ho_lay) (Nat.le_of_ble_eq_true rfl) rfl 6 rfl rfl rfl rfl (mc_ho_lay ((1 : Int32)) (a42) (x77) w78) (fun x79 w80 => ?_)
    refine sm_iconst (1 : Int32) ii_la_law_2155 (by decide) ?_
    refine sm_icmp_eq 2161 ii_la_law_2156 (by decide) ?_ ?_
    · refine sm_iinc (a42 + (1 : Int32)) [some (.ref 999), some (.ref 0), some (.ref 62), some (.ref 63), some (.ref 64), some (.int a5), some (.int a6), some (.long a7), none, some (.int a9), some (.int a10), some (.int a11), some (.int a12), some (.int a13), none, some (.int a15), some (.int a16), none, none, none, some (.int a20), some (.long a21), none, none, some (.int a24), none, none, none, none, none, none, none, none, none, none, none, none, none, none, none, none, none, some (.int (a42 + (1 : Int32))), none, none] ii_la_law_2161 rfl rfl rfl rfl ?_
      refine sm_goto 2135 ii_la_law_2164 (by decide) ?_
      exact hself2135 (a5) (a6) (a7) (a9) (a10) (a11) (a12) (a13) (a15) (a16) (a20) (a21) (a24) ((a42 + (1 : Int32))) w80
    · refine sm_iconst (0 : Int32) ii_la_law_2159 (by decide) ?_
      exact sm_zret1 ii_la_law_2160 rfl (by decide)
set_option maxHeartbeats 4000000 in
set_option maxRecDepth 100000 in
theorem ss_la_law_2135_f {E : Nat × (Nat → Int32)} (self68 : Int32 → Int32 → Int64 → Int32 → sm_Mem → sm_R) (hself68 : ∀ (a5 : Int32) (a6 : Int32) (a7 : Int64) (a9 : Int32) (w : sm_Mem), sm_Sim E (mi_la_law) 68 [some (.ref 999), some (.ref 0), some (.ref 62), some (.ref 63), some (.ref 64), some (.int a5), some (.int a6), some (.long a7), none, some (.int a9), none, none, none, none, none, none, none, none, none, none, none, none, none, none, none, none, none, none, none, none, none, none, none, none, none, none, none, none, none, none, none, none, none, none, none] [] w (self68 a5 a6 a7 a9 w)) : ∀ (n : Nat) (a5 : Int32) (a6 : Int32) (a7 : Int64) (a9 : Int32) (a10 : Int32) (a11 : Int32) (a12 : Int32) (a13 : Int32) (a15 : Int32) (a16 : Int32) (a20 : Int32) (a21 : Int64) (a24 : Int32) (a42 : Int32) (w : sm_Mem), sm_Sim E (mi_la_law) 2135 [some (.ref 999), some (.ref 0), some (.ref 62), some (.ref 63), some (.ref 64), some (.int a5), some (.int a6), some (.long a7), none, some (.int a9), some (.int a10), some (.int a11), some (.int a12), some (.int a13), none, some (.int a15), some (.int a16), none, none, none, some (.int a20), some (.long a21), none, none, some (.int a24), none, none, none, none, none, none, none, none, none, none, none, none, none, none, none, none, none, some (.int a42), none, none] [] w (ff_la_law_2135_f E self68 n a5 a6 a7 a9 a10 a11 a12 a13 a15 a16 a20 a21 a24 a42 w)
  | 0, _, _, _, _, _, _, _, _, _, _, _, _, _, _, _ => fun _ _ h => by cases h
  | n + 1, a5, a6, a7, a9, a10, a11, a12, a13, a15, a16, a20, a21, a24, a42, w => ss_la_law_2135_b self68 hself68 _ (ss_la_law_2135_f self68 hself68 n) a5 a6 a7 a9 a10 a11 a12 a13 a15 a16 a20 a21 a24 a42 w
set_option maxHeartbeats 4000000 in
set_option maxRecDepth 100000 in
theorem ss_la_law_2135 {E : Nat × (Nat → Int32)} (self68 : Int32 → Int32 → Int64 → Int32 → sm_Mem → sm_R) (hself68 : ∀ (a5 : Int32) (a6 : Int32) (a7 : Int64) (a9 : Int32) (w : sm_Mem), sm_Sim E (mi_la_law) 68 [some (.ref 999), some (.ref 0), some (.ref 62), some (.ref 63), some (.ref 64), some (.int a5), some (.int a6), some (.long a7), none, some (.int a9), none, none, none, none, none, none, none, none, none, none, none, none, none, none, none, none, none, none, none, none, none, none, none, none, none, none, none, none, none, none, none, none, none, none, none] [] w (self68 a5 a6 a7 a9 w)) (a5 : Int32) (a6 : Int32) (a7 : Int64) (a9 : Int32) (a10 : Int32) (a11 : Int32) (a12 : Int32) (a13 : Int32) (a15 : Int32) (a16 : Int32) (a20 : Int32) (a21 : Int64) (a24 : Int32) (a42 : Int32) (w : sm_Mem) : sm_Sim E (mi_la_law) 2135 [some (.ref 999), some (.ref 0), some (.ref 62), some (.ref 63), some (.ref 64), some (.int a5), some (.int a6), some (.long a7), none, some (.int a9), some (.int a10), some (.int a11), some (.int a12), some (.int a13), none, some (.int a15), some (.int a16), none, none, none, some (.int a20), some (.long a21), none, none, some (.int a24), none, none, none, none, none, none, none, none, none, none, none, none, none, none, none, none, none, some (.int a42), none, none] [] w (ff_la_law_2135 E self68 a5 a6 a7 a9 a10 a11 a12 a13 a15 a16 a20 a21 a24 a42 w) := ss_la_law_2135_f self68 hself68 sm_N a5 a6 a7 a9 a10 a11 a12 a13 a15 a16 a20 a21 a24 a42 w
noncomputable def ff_la_law_2118 (E : Nat × (Nat → Int32)) (self68 : Int32 → Int32 → Int64 → Int32 → sm_Mem → sm_R) (a5 : Int32) (a6 : Int32) (a7 : Int64) (a9 : Int32) (a10 : Int32) (a11 : Int32) (a12 : Int32) (a13 : Int32) (a15 : Int32) (a16 : Int32) (a20 : Int32) (a21 : Int64) (a24 : Int32) (w : sm_Mem) : sm_R := (sm_cI (ff_ho_row ((1 : Int32)) (a13) w) fun x81 w82 => (if x81 = a13 then ff_la_law_2135 E self68 (a5) (a6) (a7) (a9) (a10) (a11) (a12) (a13) (a15) (a16) (a20) (a21) (a24) ((0 : Int32)) w82 else (some (.int (0 : Int32), w82))))
set_option maxHeartbeats 4000000 in
set_option maxRecDepth 100000 in
theorem ss_la_law_2118 {E : Nat × (Nat → Int32)} (self68 : Int32 → Int32 → Int64 → Int32 → sm_Mem → sm_R) (hself68 : ∀ (a5 : Int32) (a6 : Int32) (a7 : Int64) (a9 : Int32) (w : sm_Mem), sm_Sim E (mi_la_law) 68 [some (.ref 999), some (.ref 0), some (.ref 62), some (.ref 63), some (.ref 64), some (.int a5), some (.int a6), some (.long a7), none, some (.int a9), none, none, none, none, none, none, none, none, none, none, none, none, none, none, none, none, none, none, none, none, none, none, none, none, none, none, none, none, none, none, none, none, none, none, none] [] w (self68 a5 a6 a7 a9 w)) (a5 : Int32) (a6 : Int32) (a7 : Int64) (a9 : Int32) (a10 : Int32) (a11 : Int32) (a12 : Int32) (a13 : Int32) (a15 : Int32) (a16 : Int32) (a20 : Int32) (a21 : Int64) (a24 : Int32) (w : sm_Mem) : sm_Sim E (mi_la_law) 2118 [some (.ref 999), some (.ref 0), some (.ref 62), some (.ref 63), some (.ref 64), some (.int a5), some (.int a6), some (.long a7), none, some (.int a9), some (.int a10), some (.int a11), some (.int a12), some (.int a13), none, some (.int a15), some (.int a16), none, none, none, some (.int a20), some (.long a21), none, none, some (.int a24), none, none, none, none, none, none, none, none, none, none, none, none, none, none, none, none, none, none, none, none] [] w (ff_la_law_2118 E self68 a5 a6 a7 a9 a10 a11 a12 a13 a15 a16 a20 a21 a24 w) := by
  unfold ff_la_law_2118
  refine sm_aload_n ii_la_law_2118 rfl ?_
  refine sm_iconst (1 : Int32) ii_la_law_2119 (by decide) ?_
  refine sm_iload ii_la_law_2120 rfl ?_
  refine sm_cvI [.int (1 : Int32), .int a13] [] rfl ii_la_law_2122 ml_la_114 (mf_ho_row) (mv_ho_row) (Nat.le_of_ble_eq_true rfl) rfl 6 rfl rfl rfl rfl (mc_ho_row ((1 : Int32)) (a13) w) (fun x81 w82 => ?_)
  refine sm_iload ii_la_law_2125 rfl ?_
  refine sm_icmp_eq 2132 ii_la_law_2127 (by decide) ?_ ?_
  · refine sm_iconst (0 : Int32) ii_la_law_2132 (by decide) ?_
    refine sm_istore [some (.ref 999), some (.ref 0), some (.ref 62), some (.ref 63), some (.ref 64), some (.int a5), some (.int a6), some (.long a7), none, some (.int a9), some (.int a10), some (.int a11), some (.int a12), some (.int a13), none, some (.int a15), some (.int a16), none, none, none, some (.int a20), some (.long a21), none, none, some (.int a24), none, none, none, none, none, none, none, none, none, none, none, none, none, none, none, none, none, some (.int (0 : Int32)), none, none] ii_la_law_2133 rfl rfl ?_
    exact ss_la_law_2135 self68 hself68 (a5) (a6) (a7) (a9) (a10) (a11) (a12) (a13) (a15) (a16) (a20) (a21) (a24) ((0 : Int32)) w82
  · refine sm_iconst (0 : Int32) ii_la_law_2130 (by decide) ?_
    exact sm_zret1 ii_la_law_2131 rfl (by decide)
noncomputable def ff_la_law_2102 (E : Nat × (Nat → Int32)) (self68 : Int32 → Int32 → Int64 → Int32 → sm_Mem → sm_R) (a5 : Int32) (a6 : Int32) (a7 : Int64) (a9 : Int32) (a10 : Int32) (a11 : Int32) (a12 : Int32) (a13 : Int32) (a15 : Int32) (a16 : Int32) (a20 : Int32) (a21 : Int64) (a24 : Int32) (a40 : Int32) (w : sm_Mem) : sm_R := (if a5 = (6 : Int32) then (if a40 = (-9 : Int32) then ff_la_law_2118 E self68 (a5) (a6) (a7) (a9) (a10) (a11) (a12) (a13) (a15) (a16) (a20) (a21) (a24) w else (some (.int (0 : Int32), w))) else ff_la_law_2118 E self68 (a5) (a6) (a7) (a9) (a10) (a11) (a12) (a13) (a15) (a16) (a20) (a21) (a24) w)
set_option maxHeartbeats 4000000 in
set_option maxRecDepth 100000 in
theorem ss_la_law_2102 {E : Nat × (Nat → Int32)} (self68 : Int32 → Int32 → Int64 → Int32 → sm_Mem → sm_R) (hself68 : ∀ (a5 : Int32) (a6 : Int32) (a7 : Int64) (a9 : Int32) (w : sm_Mem), sm_Sim E (mi_la_law) 68 [some (.ref 999), some (.ref 0), some (.ref 62), some (.ref 63), some (.ref 64), some (.int a5), some (.int a6), some (.long a7), none, some (.int a9), none, none, none, none, none, none, none, none, none, none, none, none, none, none, none, none, none, none, none, none, none, none, none, none, none, none, none, none, none, none, none, none, none, none, none] [] w (self68 a5 a6 a7 a9 w)) (a5 : Int32) (a6 : Int32) (a7 : Int64) (a9 : Int32) (a10 : Int32) (a11 : Int32) (a12 : Int32) (a13 : Int32) (a15 : Int32) (a16 : Int32) (a20 : Int32) (a21 : Int64) (a24 : Int32) (a40 : Int32) (w : sm_Mem) : sm_Sim E (mi_la_law) 2102 [some (.ref 999), some (.ref 0), some (.ref 62), some (.ref 63), some (.ref 64), some (.int a5), some (.int a6), some (.long a7), none, some (.int a9), some (.int a10), some (.int a11), some (.int a12), some (.int a13), none, some (.int a15), some (.int a16), none, none, none, some (.int a20), some (.long a21), none, none, some (.int a24), none, none, none, none, none, none, none, none, none, none, none, none, none, none, none, some (.int a40), none, none, none, none] [] w (ff_la_law_2102 E self68 a5 a6 a7 a9 a10 a11 a12 a13 a15 a16 a20 a21 a24 a40 w) := by
  unfold ff_la_law_2102
  refine sm_iload ii_la_law_2102 rfl ?_
  refine sm_bipush (6 : Int32) ii_la_law_2104 (by decide) ?_
  refine sm_icmp_ne 2118 ii_la_law_2106 (by decide) ?_ ?_
  · refine sm_iload ii_la_law_2109 rfl ?_
    refine sm_bipush (-9 : Int32) ii_la_law_2111 (by decide) ?_
    refine sm_icmp_eq 2118 ii_la_law_2113 (by decide) ?_ ?_
    · refine sm_msk [true, true, true, true, true, true, true, true, false, true, true, true, true, true, false, true, true, false, false, false, true, true, false, false, true, false, false, false, false, false, false, false, false, false, false, false, false, false, false, false, false, false, false, false, false] [some (.ref 999), some (.ref 0), some (.ref 62), some (.ref 63), some (.ref 64), some (.int a5), some (.int a6), some (.long a7), none, some (.int a9), some (.int a10), some (.int a11), some (.int a12), some (.int a13), none, some (.int a15), some (.int a16), none, none, none, some (.int a20), some (.long a21), none, none, some (.int a24), none, none, none, none, none, none, none, none, none, none, none, none, none, none, none, none, none, none, none, none] rfl ?_
      exact ss_la_law_2118 self68 hself68 (a5) (a6) (a7) (a9) (a10) (a11) (a12) (a13) (a15) (a16) (a20) (a21) (a24) w
    · refine sm_iconst (0 : Int32) ii_la_law_2116 (by decide) ?_
      exact sm_zret1 ii_la_law_2117 rfl (by decide)
  · refine sm_msk [true, true, true, true, true, true, true, true, false, true, true, true, true, true, false, true, true, false, false, false, true, true, false, false, true, false, false, false, false, false, false, false, false, false, false, false, false, false, false, false, false, false, false, false, false] [some (.ref 999), some (.ref 0), some (.ref 62), some (.ref 63), some (.ref 64), some (.int a5), some (.int a6), some (.long a7), none, some (.int a9), some (.int a10), some (.int a11), some (.int a12), some (.int a13), none, some (.int a15), some (.int a16), none, none, none, some (.int a20), some (.long a21), none, none, some (.int a24), none, none, none, none, none, none, none, none, none, none, none, none, none, none, none, none, none, none, none, none] rfl ?_
    exact ss_la_law_2118 self68 hself68 (a5) (a6) (a7) (a9) (a10) (a11) (a12) (a13) (a15) (a16) (a20) (a21) (a24) w
noncomputable def ff_la_law_2099 (E : Nat × (Nat → Int32)) (self68 : Int32 → Int32 → Int64 → Int32 → sm_Mem → sm_R) (a5 : Int32) (a6 : Int32) (a7 : Int64) (a9 : Int32) (a10 : Int32) (a11 : Int32) (a12 : Int32) (a13 : Int32) (a15 : Int32) (a16 : Int32) (a20 : Int32) (a21 : Int64) (a24 : Int32) (a40 : Int32) (b0 : Int32) (b1 : Int32) (w : sm_Mem) : sm_R := (if b0 = b1 then ff_la_law_2102 E self68 (a5) (a6) (a7) (a9) (a10) (a11) (a12) (a13) (a15) (a16) (a20) (a21) (a24) (a40) w else (some (.int (0 : Int32), w)))
set_option maxHeartbeats 4000000 in
set_option maxRecDepth 100000 in
theorem ss_la_law_2099 {E : Nat × (Nat → Int32)} (self68 : Int32 → Int32 → Int64 → Int32 → sm_Mem → sm_R) (hself68 : ∀ (a5 : Int32) (a6 : Int32) (a7 : Int64) (a9 : Int32) (w : sm_Mem), sm_Sim E (mi_la_law) 68 [some (.ref 999), some (.ref 0), some (.ref 62), some (.ref 63), some (.ref 64), some (.int a5), some (.int a6), some (.long a7), none, some (.int a9), none, none, none, none, none, none, none, none, none, none, none, none, none, none, none, none, none, none, none, none, none, none, none, none, none, none, none, none, none, none, none, none, none, none, none] [] w (self68 a5 a6 a7 a9 w)) (a5 : Int32) (a6 : Int32) (a7 : Int64) (a9 : Int32) (a10 : Int32) (a11 : Int32) (a12 : Int32) (a13 : Int32) (a15 : Int32) (a16 : Int32) (a20 : Int32) (a21 : Int64) (a24 : Int32) (a40 : Int32) (b0 : Int32) (b1 : Int32) (w : sm_Mem) : sm_Sim E (mi_la_law) 2099 [some (.ref 999), some (.ref 0), some (.ref 62), some (.ref 63), some (.ref 64), some (.int a5), some (.int a6), some (.long a7), none, some (.int a9), some (.int a10), some (.int a11), some (.int a12), some (.int a13), none, some (.int a15), some (.int a16), none, none, none, some (.int a20), some (.long a21), none, none, some (.int a24), none, none, none, none, none, none, none, none, none, none, none, none, none, none, none, some (.int a40), none, none, none, none] [.int b1, .int b0] w (ff_la_law_2099 E self68 a5 a6 a7 a9 a10 a11 a12 a13 a15 a16 a20 a21 a24 a40 b0 b1 w) := by
  unfold ff_la_law_2099
  refine sm_icmp_ne 2116 ii_la_law_2099 (by decide) ?_ ?_
  · exact ss_la_law_2102 self68 hself68 (a5) (a6) (a7) (a9) (a10) (a11) (a12) (a13) (a15) (a16) (a20) (a21) (a24) (a40) w
  · refine sm_iconst (0 : Int32) ii_la_law_2116 (by decide) ?_
    exact sm_zret1 ii_la_law_2117 rfl (by decide)
noncomputable def ff_la_law_2087 (E : Nat × (Nat → Int32)) (self68 : Int32 → Int32 → Int64 → Int32 → sm_Mem → sm_R) (a5 : Int32) (a6 : Int32) (a7 : Int64) (a9 : Int32) (a10 : Int32) (a11 : Int32) (a12 : Int32) (a13 : Int32) (a15 : Int32) (a16 : Int32) (a20 : Int32) (a21 : Int64) (a24 : Int32) (a40 : Int32) (b0 : Int32) (w : sm_Mem) : sm_R := (if (lg_cmp a21 (0 : Int64)) ≤ (0 : Int32) then ff_la_law_2099 E self68 (a5) (a6) (a7) (a9) (a10) (a11) (a12) (a13) (a15) (a16) (a20) (a21) (a24) (a40) (b0) ((0 : Int32)) w else ff_la_law_2099 E self68 (a5) (a6) (a7) (a9) (a10) (a11) (a12) (a13) (a15) (a16) (a20) (a21) (a24) (a40) (b0) ((1 : Int32)) w)
set_option maxHeartbeats 4000000 in
set_option maxRecDepth 100000 in
theorem ss_la_law_2087 {E : Nat × (Nat → Int32)} (self68 : Int32 → Int32 → Int64 → Int32 → sm_Mem → sm_R) (hself68 : ∀ (a5 : Int32) (a6 : Int32) (a7 : Int64) (a9 : Int32) (w : sm_Mem), sm_Sim E (mi_la_law) 68 [some (.ref 999), some (.ref 0), some (.ref 62), some (.ref 63), some (.ref 64), some (.int a5), some (.int a6), some (.long a7), none, some (.int a9), none, none, none, none, none, none, none, none, none, none, none, none, none, none, none, none, none, none, none, none, none, none, none, none, none, none, none, none, none, none, none, none, none, none, none] [] w (self68 a5 a6 a7 a9 w)) (a5 : Int32) (a6 : Int32) (a7 : Int64) (a9 : Int32) (a10 : Int32) (a11 : Int32) (a12 : Int32) (a13 : Int32) (a15 : Int32) (a16 : Int32) (a20 : Int32) (a21 : Int64) (a24 : Int32) (a40 : Int32) (b0 : Int32) (w : sm_Mem) : sm_Sim E (mi_la_law) 2087 [some (.ref 999), some (.ref 0), some (.ref 62), some (.ref 63), some (.ref 64), some (.int a5), some (.int a6), some (.long a7), none, some (.int a9), some (.int a10), some (.int a11), some (.int a12), some (.int a13), none, some (.int a15), some (.int a16), none, none, none, some (.int a20), some (.long a21), none, none, some (.int a24), none, none, none, none, none, none, none, none, none, none, none, none, none, none, none, some (.int a40), none, none, none, none] [.int b0] w (ff_la_law_2087 E self68 a5 a6 a7 a9 a10 a11 a12 a13 a15 a16 a20 a21 a24 a40 b0 w) := by
  unfold ff_la_law_2087
  refine sm_lload ii_la_law_2087 rfl ?_
  refine sm_lconst (0 : Int64) ii_la_law_2089 (by decide) ?_
  refine sm_lcmp ii_la_law_2090 ?_
  refine sm_if_le 2098 ii_la_law_2091 (by decide) ?_ ?_
  · refine sm_iconst (0 : Int32) ii_la_law_2098 (by decide) ?_
    exact ss_la_law_2099 self68 hself68 (a5) (a6) (a7) (a9) (a10) (a11) (a12) (a13) (a15) (a16) (a20) (a21) (a24) (a40) (b0) ((0 : Int32)) w
  · refine sm_iconst (1 : Int32) ii_la_law_2094 (by decide) ?_
    refine sm_goto 2099 ii_la_law_2095 (by decide) ?_
    exact ss_la_law_2099 self68 hself68 (a5) (a6) (a7) (a9) (a10) (a11) (a12) (a13) (a15) (a16) (a20) (a21) (a24) (a40) (b0) ((1 : Int32)) w
noncomputable def ff_la_law_2070 (E : Nat × (Nat → Int32)) (self68 : Int32 → Int32 → Int64 → Int32 → sm_Mem → sm_R) (a5 : Int32) (a6 : Int32) (a7 : Int64) (a9 : Int32) (a10 : Int32) (a11 : Int32) (a12 : Int32) (a13 : Int32) (a15 : Int32) (a16 : Int32) (a20 : Int32) (a21 : Int64) (a24 : Int32) (a40 : Int32) (w : sm_Mem) : sm_R := (if (6 : Int32) ≤ a5 then ff_la_law_2102 E self68 (a5) (a6) (a7) (a9) (a10) (a11) (a12) (a13) (a15) (a16) (a20) (a21) (a24) (a40) w else (if a40 = (0 : Int32) then ff_la_law_2087 E self68 (a5) (a6) (a7) (a9) (a10) (a11) (a12) (a13) (a15) (a16) (a20) (a21) (a24) (a40) ((1 : Int32)) w else ff_la_law_2087 E self68 (a5) (a6) (a7) (a9) (a10) (a11) (a12) (a13) (a15) (a16) (a20) (a21) (a24) (a40) ((0 : Int32)) w))
set_option maxHeartbeats 4000000 in
set_option maxRecDepth 100000 in
theorem ss_la_law_2070 {E : Nat × (Nat → Int32)} (self68 : Int32 → Int32 → Int64 → Int32 → sm_Mem → sm_R) (hself68 : ∀ (a5 : Int32) (a6 : Int32) (a7 : Int64) (a9 : Int32) (w : sm_Mem), sm_Sim E (mi_la_law) 68 [some (.ref 999), some (.ref 0), some (.ref 62), some (.ref 63), some (.ref 64), some (.int a5), some (.int a6), some (.long a7), none, some (.int a9), none, none, none, none, none, none, none, none, none, none, none, none, none, none, none, none, none, none, none, none, none, none, none, none, none, none, none, none, none, none, none, none, none, none, none] [] w (self68 a5 a6 a7 a9 w)) (a5 : Int32) (a6 : Int32) (a7 : Int64) (a9 : Int32) (a10 : Int32) (a11 : Int32) (a12 : Int32) (a13 : Int32) (a15 : Int32) (a16 : Int32) (a20 : Int32) (a21 : Int64) (a24 : Int32) (a40 : Int32) (w : sm_Mem) : sm_Sim E (mi_la_law) 2070 [some (.ref 999), some (.ref 0), some (.ref 62), some (.ref 63), some (.ref 64), some (.int a5), some (.int a6), some (.long a7), none, some (.int a9), some (.int a10), some (.int a11), some (.int a12), some (.int a13), none, some (.int a15), some (.int a16), none, none, none, some (.int a20), some (.long a21), none, none, some (.int a24), none, none, none, none, none, none, none, none, none, none, none, none, none, none, none, some (.int a40), none, none, none, none] [] w (ff_la_law_2070 E self68 a5 a6 a7 a9 a10 a11 a12 a13 a15 a16 a20 a21 a24 a40 w) := by
  unfold ff_la_law_2070
  refine sm_iload ii_la_law_2070 rfl ?_
  refine sm_bipush (6 : Int32) ii_la_law_2072 (by decide) ?_
  refine sm_icmp_ge 2102 ii_la_law_2074 (by decide) ?_ ?_
  · exact ss_la_law_2102 self68 hself68 (a5) (a6) (a7) (a9) (a10) (a11) (a12) (a13) (a15) (a16) (a20) (a21) (a24) (a40) w
  · refine sm_iload ii_la_law_2077 rfl ?_
    refine sm_if_ne 2086 ii_la_law_2079 (by decide) ?_ ?_
    · refine sm_iconst (1 : Int32) ii_la_law_2082 (by decide) ?_
      refine sm_goto 2087 ii_la_law_2083 (by decide) ?_
      exact ss_la_law_2087 self68 hself68 (a5) (a6) (a7) (a9) (a10) (a11) (a12) (a13) (a15) (a16) (a20) (a21) (a24) (a40) ((1 : Int32)) w
    · refine sm_iconst (0 : Int32) ii_la_law_2086 (by decide) ?_
      exact ss_la_law_2087 self68 hself68 (a5) (a6) (a7) (a9) (a10) (a11) (a12) (a13) (a15) (a16) (a20) (a21) (a24) (a40) ((0 : Int32)) w
noncomputable def ff_la_law_2004 (E : Nat × (Nat → Int32)) (self68 : Int32 → Int32 → Int64 → Int32 → sm_Mem → sm_R) (a5 : Int32) (a6 : Int32) (a7 : Int64) (a9 : Int32) (a10 : Int32) (a11 : Int32) (a12 : Int32) (a13 : Int32) (a15 : Int32) (a16 : Int32) (a20 : Int32) (a21 : Int64) (a24 : Int32) (w : sm_Mem) : sm_R := (sm_cI (ff_la_low ((a10 >>> ((10 : Int32) &&& (31 : Int32)))) ((6 : Int32)) w) fun x83 w84 => (sm_cI (ff_ho_fourth ((0 : Int32)) (x83) w84) fun x85 w86 => (sm_cI (ff_ho_asked  w86) fun x87 w88 => (if x85 < (-9 : Int32) then (some (.int (0 : Int32), w88)) else (if (6 : Int32) < x85 then (some (.int (0 : Int32), w88)) else (if x85 ≤ (-9 : Int32) then ff_la_law_2070 E self68 (a5) (a6) (a7) (a9) (a10) (a11) (a12) (a13) (a15) (a16) (a20) (a21) (a24) (x85) w88 else (if x85 < (0 : Int32) then (some (.int (0 : Int32), w88)) else (if a5 = (6 : Int32) then (some (.int (0 : Int32), w88)) else (sm_cI (ff_la_bits (x87) w88) fun x89 w90 => (if x89 = x85 then ff_la_law_2070 E self68 (a5) (a6) (a7) (a9) (a10) (a11) (a12) (a13) (a15) (a16) (a20) (a21) (a24) (x85) w90 else (some (.int (0 : Int32), w90))))))))))))
set_option maxHeartbeats 4000000 in
set_option maxRecDepth 100000 in
theorem ss_la_law_2004 {E : Nat × (Nat → Int32)} (self68 : Int32 → Int32 → Int64 → Int32 → sm_Mem → sm_R) (hself68 : ∀ (a5 : Int32) (a6 : Int32) (a7 : Int64) (a9 : Int32) (w : sm_Mem), sm_Sim E (mi_la_law) 68 [some (.ref 999), some (.ref 0), some (.ref 62), some (.ref 63), some (.ref 64), some (.int a5), some (.int a6), some (.long a7), none, some (.int a9), none, none, none, none, none, none, none, none, none, none, none, none, none, none, none, none, none, none, none, none, none, none, none, none, none, none, none, none, none, none, none, none, none, none, none] [] w (self68 a5 a6 a7 a9 w)) (a5 : Int32) (a6 : Int32) (a7 : Int64) (a9 : Int32) (a10 : Int32) (a11 : Int32) (a12 : Int32) (a13 : Int32) (a15 : Int32) (a16 : Int32) (a20 : Int32) (a21 : Int64) (a24 : Int32) (w : sm_Mem) : sm_Sim E (mi_la_law) 2004 [some (.ref 999), some (.ref 0), some (.ref 62), some (.ref 63), some (.ref 64), some (.int a5), some (.int a6), some (.long a7), none, some (.int a9), some (.int a10), some (.int a11), some (.int a12), some (.int a13), none, some (.int a15), some (.int a16), none, none, none, some (.int a20), some (.long a21), none, none, some (.int a24), none, none, none, none, none, none, none, none, none, none, none, none, none, none, none, none, none, none, none, none] [] w (ff_la_law_2004 E self68 a5 a6 a7 a9 a10 a11 a12 a13 a15 a16 a20 a21 a24 w) := by
  unfold ff_la_law_2004
  refine sm_aload_n ii_la_law_2004 rfl ?_
  refine sm_iconst (0 : Int32) ii_la_law_2005 (by decide) ?_
  refine sm_iload ii_la_law_2006 rfl ?_
  refine sm_bipush (10 : Int32) ii_la_law_2008 (by decide) ?_
  refine sm_ishr ii_la_law_2010 ?_
  refine sm_bipush (6 : Int32) ii_la_law_2011 (by decide) ?_
  refine sm_csI [.int (a10 >>> ((10 : Int32) &&& (31 : Int32))), .int (6 : Int32)] [.int (0 : Int32), .ref 0] rfl ii_la_law_2013 ml_la_15 (mf_la_low) (mv_la_low) (Nat.le_of_ble_eq_true rfl) rfl rfl rfl (mc_la_low ((a10 >>> ((10 : Int32) &&& (31 : Int32)))) ((6 : Int32)) w) (fun x83 w84 => ?_)
  refine sm_cvI [.int (0 : Int32), .int x83] [] rfl ii_la_law_2016 ml_la_162 (mf_ho_fourth) (mv_ho_fourth) (Nat.le_of_ble_eq_true rfl) rfl 6 rfl rfl rfl rfl (mc_ho_fourth ((0 : Int32)) (x83) w84) (fun x85 w86 => ?_)
  refine sm_istore [some (.ref 999), some (.ref 0), some (.ref 62), some (.ref 63), some (.ref 64), some (.int a5), some (.int a6), some (.long a7), none, some (.int a9), some (.int a10), some (.int a11), some (.int a12), some (.int a13), none, some (.int a15), some (.int a16), none, none, none, some (.int a20), some (.long a21), none, none, some (.int a24), none, none, none, none, none, none, none, none, none, none, none, none, none, none, none, some (.int x85), none, none, none, none] ii_la_law_2019 rfl rfl ?_
  refine sm_aload_n ii_la_law_2021 rfl ?_
  refine sm_cvI [] [] rfl ii_la_law_2022 ml_la_78 (mf_ho_asked) (mv_ho_asked) (Nat.le_of_ble_eq_true rfl) rfl 6 rfl rfl rfl rfl (mc_ho_asked  w86) (fun x87 w88 => ?_)
  refine sm_istore [some (.ref 999), some (.ref 0), some (.ref 62), some (.ref 63), some (.ref 64), some (.int a5), some (.int a6), some (.long a7), none, some (.int a9), some (.int a10), some (.int a11), some (.int a12), some (.int a13), none, some (.int a15), some (.int a16), none, none, none, some (.int a20), some (.long a21), none, none, some (.int a24), none, none, none, none, none, none, none, none, none, none, none, none, none, none, none, some (.int x85), some (.int x87), none, none, none] ii_la_law_2025 rfl rfl ?_
  refine sm_iload ii_la_law_2027 rfl ?_
  refine sm_bipush (-9 : Int32) ii_la_law_2029 (by decide) ?_
  refine sm_icmp_lt 2116 ii_la_law_2031 (by decide) ?_ ?_
  · refine sm_iconst (0 : Int32) ii_la_law_2116 (by decide) ?_
    exact sm_zret1 ii_la_law_2117 rfl (by decide)
  · refine sm_iload ii_la_law_2034 rfl ?_
    refine sm_bipush (6 : Int32) ii_la_law_2036 (by decide) ?_
    refine sm_icmp_gt 2116 ii_la_law_2038 (by decide) ?_ ?_
    · refine sm_iconst (0 : Int32) ii_la_law_2116 (by decide) ?_
      exact sm_zret1 ii_la_law_2117 rfl (by decide)
    · refine sm_iload ii_la_law_2041 rfl ?_
      refine sm_bipush (-9 : Int32) ii_la_law_2043 (by decide) ?_
      refine sm_icmp_le 2070 ii_la_law_2045 (by decide) ?_ ?_
      · refine sm_msk [true, true, true, true, true, true, true, true, false, true, true, true, true, true, false, true, true, false, false, false, true, true, false, false, true, false, false, false, false, false, false, false, false, false, false, false, false, false, false, false, true, false, false, false, false] [some (.ref 999), some (.ref 0), some (.ref 62), some (.ref 63), some (.ref 64), some (.int a5), some (.int a6), some (.long a7), none, some (.int a9), some (.int a10), some (.int a11), some (.int a12), some (.int a13), none, some (.int a15), some (.int a16), none, none, none, some (.int a20), some (.long a21), none, none, some (.int a24), none, none, none, none, none, none, none, none, none, none, none, none, none, none, none, some (.int x85), none, none, none, none] rfl ?_
        exact ss_la_law_2070 self68 hself68 (a5) (a6) (a7) (a9) (a10) (a11) (a12) (a13) (a15) (a16) (a20) (a21) (a24) (x85) w88
      · refine sm_iload ii_la_law_2048 rfl ?_
        refine sm_if_lt 2116 ii_la_law_2050 (by decide) ?_ ?_
        · refine sm_iconst (0 : Int32) ii_la_law_2116 (by decide) ?_
          exact sm_zret1 ii_la_law_2117 rfl (by decide)
        · refine sm_iload ii_la_law_2053 rfl ?_
          refine sm_bipush (6 : Int32) ii_la_law_2055 (by decide) ?_
          refine sm_icmp_eq 2116 ii_la_law_2057 (by decide) ?_ ?_
          · refine sm_iconst (0 : Int32) ii_la_law_2116 (by decide) ?_
            exact sm_zret1 ii_la_law_2117 rfl (by decide)
          · refine sm_iload ii_la_law_2060 rfl ?_
            refine sm_csI [.int x87] [] rfl ii_la_law_2062 ml_la_134 (mf_la_bits) (mv_la_bits) (Nat.le_of_ble_eq_true rfl) rfl rfl rfl (mc_la_bits (x87) w88) (fun x89 w90 => ?_)
            refine sm_iload ii_la_law_2065 rfl ?_
            refine sm_icmp_ne 2116 ii_la_law_2067 (by decide) ?_ ?_
            · refine sm_msk [true, true, true, true, true, true, true, true, false, true, true, true, true, true, false, true, true, false, false, false, true, true, false, false, true, false, false, false, false, false, false, false, false, false, false, false, false, false, false, false, true, false, false, false, false] [some (.ref 999), some (.ref 0), some (.ref 62), some (.ref 63), some (.ref 64), some (.int a5), some (.int a6), some (.long a7), none, some (.int a9), some (.int a10), some (.int a11), some (.int a12), some (.int a13), none, some (.int a15), some (.int a16), none, none, none, some (.int a20), some (.long a21), none, none, some (.int a24), none, none, none, none, none, none, none, none, none, none, none, none, none, none, none, some (.int x85), none, none, none, none] rfl ?_
              exact ss_la_law_2070 self68 hself68 (a5) (a6) (a7) (a9) (a10) (a11) (a12) (a13) (a15) (a16) (a20) (a21) (a24) (x85) w90
            · refine sm_iconst (0 : Int32) ii_la_law_2116 (by decide) ?_
              exact sm_zret1 ii_la_law_2117 rfl (by decide)
noncomputable def ff_la_law_1866 (E : Nat × (Nat → Int32)) (self68 : Int32 → Int32 → Int64 → Int32 → sm_Mem → sm_R) (a5 : Int32) (a6 : Int32) (a7 : Int64) (a9 : Int32) (a10 : Int32) (a11 : Int32) (a12 : Int32) (a13 : Int32) (a15 : Int32) (a16 : Int32) (a20 : Int32) (a21 : Int64) (a24 : Int32) (a35 : Int32) (a36 : Int32) (b1 : Int32) (b2 : Int32) (b3 : Int32) (w : sm_Mem) : sm_R := (sm_cI (ff_ho_lay (b1) (b2) (b3) w) fun x91 w92 => (if x91 = (1 : Int32) then (sm_cI (ff_ho_kinds (a35) ((5 : Int32)) w92) fun x93 w94 => (sm_cI (ff_ho_test (a35) ((5 : Int32)) w94) fun x95 w96 => (sm_cI (ff_ho_asked  w96) fun x97 w98 => (sm_cI (ff_la_told (a35) ((0 : Int32)) w98) fun x99 w100 => (if ((x93 >>> (x99 &&& (31 : Int32))) &&& (1 : Int32)) = (1 : Int32) then (if (63 : Int32) < x93 then (some (.int (0 : Int32), w100)) else (if x95 < (0 : Int32) then (some (.int (0 : Int32), w100)) else (if (65 : Int32) < x95 then (some (.int (0 : Int32), w100)) else (if (10 : Int32) = (0 : Int32) then none else (if (5 : Int32) < (x95 - x95 / (10 : Int32) * (10 : Int32)) then (some (.int (0 : Int32), w100)) else (sm_cI (ff_la_bits (x93) w100) fun x102 w103 => (if (2 : Int32) = (0 : Int32) then none else (if x97 < ((x102 + (1 : Int32)) / (2 : Int32)) then (some (.int (0 : Int32), w103)) else (sm_cI (ff_la_bits (x93) w103) fun x105 w106 => (if x97 ≤ x105 then (sm_cI (ff_ho_what (a35) w106) fun x107 w108 => (if ((x107 >>> (a36 &&& (31 : Int32))) &&& (1 : Int32)) = (1 : Int32) then (sm_cI (ff_ho_at ((5 : Int32)) ((2 : Int32)) w108) fun x109 w110 => (if x109 = (1 : Int32) then (sm_cI (ff_ho_asked  w110) fun x111 w112 => (if x111 = (1 : Int32) then ff_la_law_2004 E self68 (a5) (a6) (a7) (a9) (a10) (a11) (a12) (a13) (a15) (a16) (a20) (a21) (a24) w112 else (some (.int (0 : Int32), w112)))) else (some (.int (0 : Int32), w110)))) else ff_la_law_2004 E self68 (a5) (a6) (a7) (a9) (a10) (a11) (a12) (a13) (a15) (a16) (a20) (a21) (a24) w108)) else (some (.int (0 : Int32), w106)))))))))))) else (some (.int (0 : Int32), w100))))))) else (some (.int (0 : Int32), w92))))
set_option maxHeartbeats 4000000 in
set_option maxRecDepth 100000 in
theorem ss_la_law_1866 {E : Nat × (Nat → Int32)} (self68 : Int32 → Int32 → Int64 → Int32 → sm_Mem → sm_R) (hself68 : ∀ (a5 : Int32) (a6 : Int32) (a7 : Int64) (a9 : Int32) (w : sm_Mem), sm_Sim E (mi_la_law) 68 [some (.ref 999), some (.ref 0), some (.ref 62), some (.ref 63), some (.ref 64), some (.int a5), some (.int a6), some (.long a7), none, some (.int a9), none, none, none, none, none, none, none, none, none, none, none, none, none, none, none, none, none, none, none, none, none, none, none, none, none, none, none, none, none, none, none, none, none, none, none] [] w (self68 a5 a6 a7 a9 w)) (a5 : Int32) (a6 : Int32) (a7 : Int64) (a9 : Int32) (a10 : Int32) (a11 : Int32) (a12 : Int32) (a13 : Int32) (a15 : Int32) (a16 : Int32) (a20 : Int32) (a21 : Int64) (a24 : Int32) (a35 : Int32) (a36 : Int32) (b1 : Int32) (b2 : Int32) (b3 : Int32) (w : sm_Mem) : sm_Sim E (mi_la_law) 1866 [some (.ref 999), some (.ref 0), some (.ref 62), some (.ref 63), some (.ref 64), some (.int a5), some (.int a6), some (.long a7), none, some (.int a9), some (.int a10), some (.int a11), some (.int a12), some (.int a13), none, some (.int a15), some (.int a16), none, none, none, some (.int a20), some (.long a21), none, none, some (.int a24), none, none, none, none, none, none, none, none, none, none, some (.int a35), some (.int a36), none, none, none, none, none, none, none, none] [.int b3, .int b2, .int b1, .ref 0] w (ff_la_law_1866 E self68 a5 a6 a7 a9 a10 a11 a12 a13 a15 a16 a20 a21 a24 a35 a36 b1 b2 b3 w) := by
  unfold ff_la_law_1866
  refine sm_cvI [.int b1, .int b2, .int b3] [] rfl ii_la_law_1866 ml_la_117 (mf_ho_lay) (mv_ho_lay) (Nat.le_of_ble_eq_true rfl) rfl 6 rfl rfl rfl rfl (mc_ho_lay (b1) (b2) (b3) w) (fun x91 w92 => ?_)
  refine sm_iconst (1 : Int32) ii_la_law_1869 (by decide) ?_
  refine sm_icmp_eq 1875 ii_la_law_1870 (by decide) ?_ ?_
  · refine sm_aload_n ii_la_law_1875 rfl ?_
    refine sm_iload ii_la_law_1876 rfl ?_
    refine sm_iconst (5 : Int32) ii_la_law_1878 (by decide) ?_
    refine sm_cvI [.int a35, .int (5 : Int32)] [] rfl ii_la_law_1879 ml_la_156 (mf_ho_kinds) (mv_ho_kinds) (Nat.le_of_ble_eq_true rfl) rfl 6 rfl rfl rfl rfl (mc_ho_kinds (a35) ((5 : Int32)) w92) (fun x93 w94 => ?_)
    refine sm_istore [some (.ref 999), some (.ref 0), some (.ref 62), some (.ref 63), some (.ref 64), some (.int a5), some (.int a6), some (.long a7), none, some (.int a9), some (.int a10), some (.int a11), some (.int a12), some (.int a13), none, some (.int a15), some (.int a16), none, none, none, some (.int a20), some (.long a21), none, none, some (.int a24), none, none, none, none, none, none, none, none, none, none, some (.int a35), some (.int a36), some (.int x93), none, none, none, none, none, none, none] ii_la_law_1882 rfl rfl ?_
    refine sm_aload_n ii_la_law_1884 rfl ?_
    refine sm_iload ii_la_law_1885 rfl ?_
    refine sm_iconst (5 : Int32) ii_la_law_1887 (by decide) ?_
    refine sm_cvI [.int a35, .int (5 : Int32)] [] rfl ii_la_law_1888 ml_la_159 (mf_ho_test) (mv_ho_test) (Nat.le_of_ble_eq_true rfl) rfl 6 rfl rfl rfl rfl (mc_ho_test (a35) ((5 : Int32)) w94) (fun x95 w96 => ?_)
    refine sm_istore [some (.ref 999), some (.ref 0), some (.ref 62), some (.ref 63), some (.ref 64), some (.int a5), some (.int a6), some (.long a7), none, some (.int a9), some (.int a10), some (.int a11), some (.int a12), some (.int a13), none, some (.int a15), some (.int a16), none, none, none, some (.int a20), some (.long a21), none, none, some (.int a24), none, none, none, none, none, none, none, none, none, none, some (.int a35), some (.int a36), some (.int x93), some (.int x95), none, none, none, none, none, none] ii_la_law_1891 rfl rfl ?_
    refine sm_aload_n ii_la_law_1893 rfl ?_
    refine sm_cvI [] [] rfl ii_la_law_1894 ml_la_78 (mf_ho_asked) (mv_ho_asked) (Nat.le_of_ble_eq_true rfl) rfl 6 rfl rfl rfl rfl (mc_ho_asked  w96) (fun x97 w98 => ?_)
    refine sm_istore [some (.ref 999), some (.ref 0), some (.ref 62), some (.ref 63), some (.ref 64), some (.int a5), some (.int a6), some (.long a7), none, some (.int a9), some (.int a10), some (.int a11), some (.int a12), some (.int a13), none, some (.int a15), some (.int a16), none, none, none, some (.int a20), some (.long a21), none, none, some (.int a24), none, none, none, none, none, none, none, none, none, none, some (.int a35), some (.int a36), some (.int x93), some (.int x95), some (.int x97), none, none, none, none, none] ii_la_law_1897 rfl rfl ?_
    refine sm_iload ii_la_law_1899 rfl ?_
    refine sm_aload_n ii_la_law_1901 rfl ?_
    refine sm_iload ii_la_law_1902 rfl ?_
    refine sm_iconst (0 : Int32) ii_la_law_1904 (by decide) ?_
    refine sm_csI [.ref 0, .int a35, .int (0 : Int32)] [.int x93] rfl ii_la_law_1905 ml_la_102 (mf_la_told) (mv_la_told) (Nat.le_of_ble_eq_true rfl) rfl rfl rfl (mc_la_told (a35) ((0 : Int32)) w98) (fun x99 w100 => ?_)
    refine sm_ishr ii_la_law_1908 ?_
    refine sm_iconst (1 : Int32) ii_la_law_1909 (by decide) ?_
    refine sm_iand ii_la_law_1910 ?_
    refine sm_iconst (1 : Int32) ii_la_law_1911 (by decide) ?_
    refine sm_icmp_ne 1967 ii_la_law_1912 (by decide) ?_ ?_
    · refine sm_iload ii_la_law_1915 rfl ?_
      refine sm_bipush (63 : Int32) ii_la_law_1917 (by decide) ?_
      refine sm_icmp_gt 1967 ii_la_law_1919 (by decide) ?_ ?_
      · refine sm_iconst (0 : Int32) ii_la_law_1967 (by decide) ?_
        exact sm_zret1 ii_la_law_1968 rfl (by decide)
      · refine sm_iload ii_la_law_1922 rfl ?_
        refine sm_if_lt 1967 ii_la_law_1924 (by decide) ?_ ?_
        · refine sm_iconst (0 : Int32) ii_la_law_1967 (by decide) ?_
          exact sm_zret1 ii_la_law_1968 rfl (by decide)
        · refine sm_iload ii_la_law_1927 rfl ?_
          refine sm_bipush (65 : Int32) ii_la_law_1929 (by decide) ?_
          refine sm_icmp_gt 1967 ii_la_law_1931 (by decide) ?_ ?_
          · refine sm_iconst (0 : Int32) ii_la_law_1967 (by decide) ?_
            exact sm_zret1 ii_la_law_1968 rfl (by decide)
          · refine sm_iload ii_la_law_1934 rfl ?_
            refine sm_bipush (10 : Int32) ii_la_law_1936 (by decide) ?_
            refine sm_irem ii_la_law_1938 ?_
            refine sm_iconst (5 : Int32) ii_la_law_1939 (by decide) ?_
            refine sm_icmp_gt 1967 ii_la_law_1940 (by decide) ?_ ?_
            · refine sm_iconst (0 : Int32) ii_la_law_1967 (by decide) ?_
              exact sm_zret1 ii_la_law_1968 rfl (by decide)
            · refine sm_iload ii_la_law_1943 rfl ?_
              refine sm_iload ii_la_law_1945 rfl ?_
              refine sm_csI [.int x93] [.int x97] rfl ii_la_law_1947 ml_la_134 (mf_la_bits) (mv_la_bits) (Nat.le_of_ble_eq_true rfl) rfl rfl rfl (mc_la_bits (x93) w100) (fun x102 w103 => ?_)
              refine sm_iconst (1 : Int32) ii_la_law_1950 (by decide) ?_
              refine sm_iadd ii_la_law_1951 ?_
              refine sm_iconst (2 : Int32) ii_la_law_1952 (by decide) ?_
              refine sm_idiv ii_la_law_1953 ?_
              refine sm_icmp_lt 1967 ii_la_law_1954 (by decide) ?_ ?_
              · refine sm_iconst (0 : Int32) ii_la_law_1967 (by decide) ?_
                exact sm_zret1 ii_la_law_1968 rfl (by decide)
              · refine sm_iload ii_la_law_1957 rfl ?_
                refine sm_iload ii_la_law_1959 rfl ?_
                refine sm_csI [.int x93] [.int x97] rfl ii_la_law_1961 ml_la_134 (mf_la_bits) (mv_la_bits) (Nat.le_of_ble_eq_true rfl) rfl rfl rfl (mc_la_bits (x93) w103) (fun x105 w106 => ?_)
                refine sm_icmp_le 1969 ii_la_law_1964 (by decide) ?_ ?_
                · refine sm_aload_n ii_la_law_1969 rfl ?_
                  refine sm_iload ii_la_law_1970 rfl ?_
                  refine sm_cvI [.int a35] [] rfl ii_la_law_1972 ml_la_106 (mf_ho_what) (mv_ho_what) (Nat.le_of_ble_eq_true rfl) rfl 6 rfl rfl rfl rfl (mc_ho_what (a35) w106) (fun x107 w108 => ?_)
                  refine sm_iload ii_la_law_1975 rfl ?_
                  refine sm_ishr ii_la_law_1977 ?_
                  refine sm_iconst (1 : Int32) ii_la_law_1978 (by decide) ?_
                  refine sm_iand ii_la_law_1979 ?_
                  refine sm_iconst (1 : Int32) ii_la_law_1980 (by decide) ?_
                  refine sm_icmp_ne 2004 ii_la_law_1981 (by decide) ?_ ?_
                  · refine sm_aload_n ii_la_law_1984 rfl ?_
                    refine sm_iconst (5 : Int32) ii_la_law_1985 (by decide) ?_
                    refine sm_iconst (2 : Int32) ii_la_law_1986 (by decide) ?_
                    refine sm_cvI [.int (5 : Int32), .int (2 : Int32)] [] rfl ii_la_law_1987 ml_la_137 (mf_ho_at) (mv_ho_at) (Nat.le_of_ble_eq_true rfl) rfl 6 rfl rfl rfl rfl (mc_ho_at ((5 : Int32)) ((2 : Int32)) w108) (fun x109 w110 => ?_)
                    refine sm_iconst (1 : Int32) ii_la_law_1990 (by decide) ?_
                    refine sm_icmp_ne 2002 ii_la_law_1991 (by decide) ?_ ?_
                    · refine sm_aload_n ii_la_law_1994 rfl ?_
                      refine sm_cvI [] [] rfl ii_la_law_1995 ml_la_78 (mf_ho_asked) (mv_ho_asked) (Nat.le_of_ble_eq_true rfl) rfl 6 rfl rfl rfl rfl (mc_ho_asked  w110) (fun x111 w112 => ?_)
                      refine sm_iconst (1 : Int32) ii_la_law_1998 (by decide) ?_
                      refine sm_icmp_eq 2004 ii_la_law_1999 (by decide) ?_ ?_
                      · refine sm_msk [true, true, true, true, true, true, true, true, false, true, true, true, true, true, false, true, true, false, false, false, true, true, false, false, true, false, false, false, false, false, false, false, false, false, false, false, false, false, false, false, false, false, false, false, false] [some (.ref 999), some (.ref 0), some (.ref 62), some (.ref 63), some (.ref 64), some (.int a5), some (.int a6), some (.long a7), none, some (.int a9), some (.int a10), some (.int a11), some (.int a12), some (.int a13), none, some (.int a15), some (.int a16), none, none, none, some (.int a20), some (.long a21), none, none, some (.int a24), none, none, none, none, none, none, none, none, none, none, none, none, none, none, none, none, none, none, none, none] rfl ?_
                        exact ss_la_law_2004 self68 hself68 (a5) (a6) (a7) (a9) (a10) (a11) (a12) (a13) (a15) (a16) (a20) (a21) (a24) w112
                      · refine sm_iconst (0 : Int32) ii_la_law_2002 (by decide) ?_
                        exact sm_zret1 ii_la_law_2003 rfl (by decide)
                    · refine sm_iconst (0 : Int32) ii_la_law_2002 (by decide) ?_
                      exact sm_zret1 ii_la_law_2003 rfl (by decide)
                  · refine sm_msk [true, true, true, true, true, true, true, true, false, true, true, true, true, true, false, true, true, false, false, false, true, true, false, false, true, false, false, false, false, false, false, false, false, false, false, false, false, false, false, false, false, false, false, false, false] [some (.ref 999), some (.ref 0), some (.ref 62), some (.ref 63), some (.ref 64), some (.int a5), some (.int a6), some (.long a7), none, some (.int a9), some (.int a10), some (.int a11), some (.int a12), some (.int a13), none, some (.int a15), some (.int a16), none, none, none, some (.int a20), some (.long a21), none, none, some (.int a24), none, none, none, none, none, none, none, none, none, none, none, none, none, none, none, none, none, none, none, none] rfl ?_
                    exact ss_la_law_2004 self68 hself68 (a5) (a6) (a7) (a9) (a10) (a11) (a12) (a13) (a15) (a16) (a20) (a21) (a24) w108
                · refine sm_iconst (0 : Int32) ii_la_law_1967 (by decide) ?_
                  exact sm_zret1 ii_la_law_1968 rfl (by decide)
    · refine sm_iconst (0 : Int32) ii_la_law_1967 (by decide) ?_
      exact sm_zret1 ii_la_law_1968 rfl (by decide)
  · refine sm_iconst (0 : Int32) ii_la_law_1873 (by decide) ?_
    exact sm_zret1 ii_la_law_1874 rfl (by decide)
noncomputable def ff_la_law_1814 (E : Nat × (Nat → Int32)) (self68 : Int32 → Int32 → Int64 → Int32 → sm_Mem → sm_R) (a5 : Int32) (a6 : Int32) (a7 : Int64) (a9 : Int32) (a10 : Int32) (a11 : Int32) (a12 : Int32) (a13 : Int32) (a15 : Int32) (a16 : Int32) (a17 : Int32) (a20 : Int32) (a21 : Int64) (a24 : Int32) (a35 : Int32) (a36 : Int32) (b1 : Int32) (b2 : Int32) (b3 : Int32) (w : sm_Mem) : sm_R := (sm_cI (ff_ho_lay (b1) (b2) (b3) w) fun x113 w114 => (if x113 = (1 : Int32) then (sm_cI (ff_ho_lay ((5 : Int32)) ((1 : Int32)) (a36) w114) fun x115 w116 => (if x115 = (1 : Int32) then (Option.bind (sm_rd w116 62 19 ((1 : Int32) + a35)) fun x117 => (Option.bind (sm_rd w116 62 19 ((7 : Int32) + a35)) fun x118 => (sm_cI (ff_la_able (x117) (x118) (a17) (a36) (a12) w116) fun x119 w120 => (if x119 = (0 : Int32) then ff_la_law_1866 E self68 (a5) (a6) (a7) (a9) (a10) (a11) (a12) (a13) (a15) (a16) (a20) (a21) (a24) (a35) (a36) ((5 : Int32)) ((2 : Int32)) ((0 : Int32)) w120 else ff_la_law_1866 E self68 (a5) (a6) (a7) (a9) (a10) (a11) (a12) (a13) (a15) (a16) (a20) (a21) (a24) (a35) (a36) ((5 : Int32)) ((2 : Int32)) ((1 : Int32)) w120)))) else (some (.int (0 : Int32), w116)))) else (some (.int (0 : Int32), w114))))
set_option maxHeartbeats 4000000 in
set_option maxRecDepth 100000 in
theorem ss_la_law_1814 {E : Nat × (Nat → Int32)} (self68 : Int32 → Int32 → Int64 → Int32 → sm_Mem → sm_R) (hself68 : ∀ (a5 : Int32) (a6 : Int32) (a7 : Int64) (a9 : Int32) (w : sm_Mem), sm_Sim E (mi_la_law) 68 [some (.ref 999), some (.ref 0), some (.ref 62), some (.ref 63), some (.ref 64), some (.int a5), some (.int a6), some (.long a7), none, some (.int a9), none, none, none, none, none, none, none, none, none, none, none, none, none, none, none, none, none, none, none, none, none, none, none, none, none, none, none, none, none, none, none, none, none, none, none] [] w (self68 a5 a6 a7 a9 w)) (a5 : Int32) (a6 : Int32) (a7 : Int64) (a9 : Int32) (a10 : Int32) (a11 : Int32) (a12 : Int32) (a13 : Int32) (a15 : Int32) (a16 : Int32) (a17 : Int32) (a20 : Int32) (a21 : Int64) (a24 : Int32) (a35 : Int32) (a36 : Int32) (b1 : Int32) (b2 : Int32) (b3 : Int32) (w : sm_Mem) : sm_Sim E (mi_la_law) 1814 [some (.ref 999), some (.ref 0), some (.ref 62), some (.ref 63), some (.ref 64), some (.int a5), some (.int a6), some (.long a7), none, some (.int a9), some (.int a10), some (.int a11), some (.int a12), some (.int a13), none, some (.int a15), some (.int a16), some (.int a17), none, none, some (.int a20), some (.long a21), none, none, some (.int a24), none, none, none, none, none, none, none, none, none, none, some (.int a35), some (.int a36), none, none, none, none, none, none, none, none] [.int b3, .int b2, .int b1, .ref 0] w (ff_la_law_1814 E self68 a5 a6 a7 a9 a10 a11 a12 a13 a15 a16 a17 a20 a21 a24 a35 a36 b1 b2 b3 w) := by
  unfold ff_la_law_1814
  refine sm_cvI [.int b1, .int b2, .int b3] [] rfl ii_la_law_1814 ml_la_117 (mf_ho_lay) (mv_ho_lay) (Nat.le_of_ble_eq_true rfl) rfl 6 rfl rfl rfl rfl (mc_ho_lay (b1) (b2) (b3) w) (fun x113 w114 => ?_)
  refine sm_iconst (1 : Int32) ii_la_law_1817 (by decide) ?_
  refine sm_icmp_ne 1873 ii_la_law_1818 (by decide) ?_ ?_
  · refine sm_aload_n ii_la_law_1821 rfl ?_
    refine sm_iconst (5 : Int32) ii_la_law_1822 (by decide) ?_
    refine sm_iconst (1 : Int32) ii_la_law_1823 (by decide) ?_
    refine sm_iload ii_la_law_1824 rfl ?_
    refine sm_cvI [.int (5 : Int32), .int (1 : Int32), .int a36] [] rfl ii_la_law_1826 ml_la_117 (mf_ho_lay) (mv_ho_lay) (Nat.le_of_ble_eq_true rfl) rfl 6 rfl rfl rfl rfl (mc_ho_lay ((5 : Int32)) ((1 : Int32)) (a36) w114) (fun x115 w116 => ?_)
    refine sm_iconst (1 : Int32) ii_la_law_1829 (by decide) ?_
    refine sm_icmp_ne 1873 ii_la_law_1830 (by decide) ?_ ?_
    · refine sm_aload_n ii_la_law_1833 rfl ?_
      refine sm_iconst (5 : Int32) ii_la_law_1834 (by decide) ?_
      refine sm_iconst (2 : Int32) ii_la_law_1835 (by decide) ?_
      refine sm_aload_n ii_la_law_1836 rfl ?_
      refine sm_iconst (1 : Int32) ii_la_law_1837 (by decide) ?_
      refine sm_iload ii_la_law_1838 rfl ?_
      refine sm_iadd ii_la_law_1840 ?_
      refine sm_iald ii_la_law_1841 (k := 62) rfl (fun x117 => ?_)
      refine sm_aload_n ii_la_law_1842 rfl ?_
      refine sm_bipush (7 : Int32) ii_la_law_1843 (by decide) ?_
      refine sm_iload ii_la_law_1845 rfl ?_
      refine sm_iadd ii_la_law_1847 ?_
      refine sm_iald ii_la_law_1848 (k := 62) rfl (fun x118 => ?_)
      refine sm_iload ii_la_law_1849 rfl ?_
      refine sm_iload ii_la_law_1851 rfl ?_
      refine sm_iload ii_la_law_1853 rfl ?_
      refine sm_csI [.int x117, .int x118, .int a17, .int a36, .int a12] [.int (2 : Int32), .int (5 : Int32), .ref 0] rfl ii_la_law_1855 ml_la_42 (mf_la_able) (mv_la_able) (Nat.le_of_ble_eq_true rfl) rfl rfl rfl (mc_la_able (x117) (x118) (a17) (a36) (a12) w116) (fun x119 w120 => ?_)
      refine sm_if_eq 1865 ii_la_law_1858 (by decide) ?_ ?_
      · refine sm_iconst (0 : Int32) ii_la_law_1865 (by decide) ?_
        refine sm_msk [true, true, true, true, true, true, true, true, false, true, true, true, true, true, false, true, true, false, false, false, true, true, false, false, true, false, false, false, false, false, false, false, false, false, false, true, true, false, false, false, false, false, false, false, false] [some (.ref 999), some (.ref 0), some (.ref 62), some (.ref 63), some (.ref 64), some (.int a5), some (.int a6), some (.long a7), none, some (.int a9), some (.int a10), some (.int a11), some (.int a12), some (.int a13), none, some (.int a15), some (.int a16), none, none, none, some (.int a20), some (.long a21), none, none, some (.int a24), none, none, none, none, none, none, none, none, none, none, some (.int a35), some (.int a36), none, none, none, none, none, none, none, none] rfl ?_
        exact ss_la_law_1866 self68 hself68 (a5) (a6) (a7) (a9) (a10) (a11) (a12) (a13) (a15) (a16) (a20) (a21) (a24) (a35) (a36) ((5 : Int32)) ((2 : Int32)) ((0 : Int32)) w120
      · refine sm_iconst (1 : Int32) ii_la_law_1861 (by decide) ?_
        refine sm_goto 1866 ii_la_law_1862 (by decide) ?_
        refine sm_msk [true, true, true, true, true, true, true, true, false, true, true, true, true, true, false, true, true, false, false, false, true, true, false, false, true, false, false, false, false, false, false, false, false, false, false, true, true, false, false, false, false, false, false, false, false] [some (.ref 999), some (.ref 0), some (.ref 62), some (.ref 63), some (.ref 64), some (.int a5), some (.int a6), some (.long a7), none, some (.int a9), some (.int a10), some (.int a11), some (.int a12), some (.int a13), none, some (.int a15), some (.int a16), none, none, none, some (.int a20), some (.long a21), none, none, some (.int a24), none, none, none, none, none, none, none, none, none, none, some (.int a35), some (.int a36), none, none, none, none, none, none, none, none] rfl ?_
        exact ss_la_law_1866 self68 hself68 (a5) (a6) (a7) (a9) (a10) (a11) (a12) (a13) (a15) (a16) (a20) (a21) (a24) (a35) (a36) ((5 : Int32)) ((2 : Int32)) ((1 : Int32)) w120
    · refine sm_iconst (0 : Int32) ii_la_law_1873 (by decide) ?_
      exact sm_zret1 ii_la_law_1874 rfl (by decide)
  · refine sm_iconst (0 : Int32) ii_la_law_1873 (by decide) ?_
    exact sm_zret1 ii_la_law_1874 rfl (by decide)
noncomputable def ff_la_law_1765 (E : Nat × (Nat → Int32)) (self68 : Int32 → Int32 → Int64 → Int32 → sm_Mem → sm_R) (a5 : Int32) (a6 : Int32) (a7 : Int64) (a9 : Int32) (a10 : Int32) (a11 : Int32) (a12 : Int32) (a13 : Int32) (a15 : Int32) (a16 : Int32) (a17 : Int32) (a20 : Int32) (a21 : Int64) (a24 : Int32) (w : sm_Mem) : sm_R := (sm_cI (ff_la_low ((a10 >>> ((20 : Int32) &&& (31 : Int32)))) (a5) w) fun x121 w122 => (sm_cI (ff_la_low ((a10 >>> ((7 : Int32) &&& (31 : Int32)))) ((6 : Int32)) w122) fun x123 w124 => (sm_cI (ff_ho_row ((5 : Int32)) ((3 : Int32)) w124) fun x125 w126 => (if x125 = (3 : Int32) then (if (0 : Int32) ≤ a17 then ff_la_law_1814 E self68 (a5) (a6) (a7) (a9) (a10) (a11) (a12) (a13) (a15) (a16) (a17) (a20) (a21) (a24) (x121) (x123) ((5 : Int32)) ((0 : Int32)) (a17) w126 else ff_la_law_1814 E self68 (a5) (a6) (a7) (a9) (a10) (a11) (a12) (a13) (a15) (a16) (a17) (a20) (a21) (a24) (x121) (x123) ((5 : Int32)) ((0 : Int32)) ((-9 : Int32)) w126) else (some (.int (0 : Int32), w126))))))
set_option maxHeartbeats 4000000 in
set_option maxRecDepth 100000 in
theorem ss_la_law_1765 {E : Nat × (Nat → Int32)} (self68 : Int32 → Int32 → Int64 → Int32 → sm_Mem → sm_R) (hself68 : ∀ (a5 : Int32) (a6 : Int32) (a7 : Int64) (a9 : Int32) (w : sm_Mem), sm_Sim E (mi_la_law) 68 [some (.ref 999), some (.ref 0), some (.ref 62), some (.ref 63), some (.ref 64), some (.int a5), some (.int a6), some (.long a7), none, some (.int a9), none, none, none, none, none, none, none, none, none, none, none, none, none, none, none, none, none, none, none, none, none, none, none, none, none, none, none, none, none, none, none, none, none, none, none] [] w (self68 a5 a6 a7 a9 w)) (a5 : Int32) (a6 : Int32) (a7 : Int64) (a9 : Int32) (a10 : Int32) (a11 : Int32) (a12 : Int32) (a13 : Int32) (a15 : Int32) (a16 : Int32) (a17 : Int32) (a20 : Int32) (a21 : Int64) (a24 : Int32) (w : sm_Mem) : sm_Sim E (mi_la_law) 1765 [some (.ref 999), some (.ref 0), some (.ref 62), some (.ref 63), some (.ref 64), some (.int a5), some (.int a6), some (.long a7), none, some (.int a9), some (.int a10), some (.int a11), some (.int a12), some (.int a13), none, some (.int a15), some (.int a16), some (.int a17), none, none, some (.int a20), some (.long a21), none, none, some (.int a24), none, none, none, none, none, none, none, none, none, none, none, none, none, none, none, none, none, none, none, none] [] w (ff_la_law_1765 E self68 a5 a6 a7 a9 a10 a11 a12 a13 a15 a16 a17 a20 a21 a24 w) := by
  unfold ff_la_law_1765
  refine sm_iload ii_la_law_1765 rfl ?_
  refine sm_bipush (20 : Int32) ii_la_law_1767 (by decide) ?_
  refine sm_ishr ii_la_law_1769 ?_
  refine sm_iload ii_la_law_1770 rfl ?_
  refine sm_csI [.int (a10 >>> ((20 : Int32) &&& (31 : Int32))), .int a5] [] rfl ii_la_law_1772 ml_la_15 (mf_la_low) (mv_la_low) (Nat.le_of_ble_eq_true rfl) rfl rfl rfl (mc_la_low ((a10 >>> ((20 : Int32) &&& (31 : Int32)))) (a5) w) (fun x121 w122 => ?_)
  refine sm_istore [some (.ref 999), some (.ref 0), some (.ref 62), some (.ref 63), some (.ref 64), some (.int a5), some (.int a6), some (.long a7), none, some (.int a9), some (.int a10), some (.int a11), some (.int a12), some (.int a13), none, some (.int a15), some (.int a16), some (.int a17), none, none, some (.int a20), some (.long a21), none, none, some (.int a24), none, none, none, none, none, none, none, none, none, none, some (.int x121), none, none, none, none, none, none, none, none, none] ii_la_law_1775 rfl rfl ?_
  refine sm_iload ii_la_law_1777 rfl ?_
  refine sm_bipush (7 : Int32) ii_la_law_1779 (by decide) ?_
  refine sm_ishr ii_la_law_1781 ?_
  refine sm_bipush (6 : Int32) ii_la_law_1782 (by decide) ?_
  refine sm_csI [.int (a10 >>> ((7 : Int32) &&& (31 : Int32))), .int (6 : Int32)] [] rfl ii_la_law_1784 ml_la_15 (mf_la_low) (mv_la_low) (Nat.le_of_ble_eq_true rfl) rfl rfl rfl (mc_la_low ((a10 >>> ((7 : Int32) &&& (31 : Int32)))) ((6 : Int32)) w122) (fun x123 w124 => ?_)
  refine sm_istore [some (.ref 999), some (.ref 0), some (.ref 62), some (.ref 63), some (.ref 64), some (.int a5), some (.int a6), some (.long a7), none, some (.int a9), some (.int a10), some (.int a11), some (.int a12), some (.int a13), none, some (.int a15), some (.int a16), some (.int a17), none, none, some (.int a20), some (.long a21), none, none, some (.int a24), none, none, none, none, none, none, none, none, none, none, some (.int x121), some (.int x123), none, none, none, none, none, none, none, none] ii_la_law_1787 rfl rfl ?_
  refine sm_aload_n ii_la_law_1789 rfl ?_
  refine sm_iconst (5 : Int32) ii_la_law_1790 (by decide) ?_
  refine sm_iconst (3 : Int32) ii_la_law_1791 (by decide) ?_
  refine sm_cvI [.int (5 : Int32), .int (3 : Int32)] [] rfl ii_la_law_1792 ml_la_114 (mf_ho_row) (mv_ho_row) (Nat.le_of_ble_eq_true rfl) rfl 6 rfl rfl rfl rfl (mc_ho_row ((5 : Int32)) ((3 : Int32)) w124) (fun x125 w126 => ?_)
  refine sm_iconst (3 : Int32) ii_la_law_1795 (by decide) ?_
  refine sm_icmp_ne 1873 ii_la_law_1796 (by decide) ?_ ?_
  · refine sm_aload_n ii_la_law_1799 rfl ?_
    refine sm_iconst (5 : Int32) ii_la_law_1800 (by decide) ?_
    refine sm_iconst (0 : Int32) ii_la_law_1801 (by decide) ?_
    refine sm_iload ii_la_law_1802 rfl ?_
    refine sm_if_ge 1812 ii_la_law_1804 (by decide) ?_ ?_
    · refine sm_iload ii_la_law_1812 rfl ?_
      exact ss_la_law_1814 self68 hself68 (a5) (a6) (a7) (a9) (a10) (a11) (a12) (a13) (a15) (a16) (a17) (a20) (a21) (a24) (x121) (x123) ((5 : Int32)) ((0 : Int32)) (a17) w126
    · refine sm_bipush (-9 : Int32) ii_la_law_1807 (by decide) ?_
      refine sm_goto 1814 ii_la_law_1809 (by decide) ?_
      exact ss_la_law_1814 self68 hself68 (a5) (a6) (a7) (a9) (a10) (a11) (a12) (a13) (a15) (a16) (a17) (a20) (a21) (a24) (x121) (x123) ((5 : Int32)) ((0 : Int32)) ((-9 : Int32)) w126
  · refine sm_iconst (0 : Int32) ii_la_law_1873 (by decide) ?_
    exact sm_zret1 ii_la_law_1874 rfl (by decide)
noncomputable def ff_la_law_1719 (E : Nat × (Nat → Int32)) (self68 : Int32 → Int32 → Int64 → Int32 → sm_Mem → sm_R) (a5 : Int32) (a6 : Int32) (a7 : Int64) (a9 : Int32) (a10 : Int32) (a11 : Int32) (a12 : Int32) (a13 : Int32) (a15 : Int32) (a16 : Int32) (a17 : Int32) (a20 : Int32) (a21 : Int64) (a24 : Int32) (a32 : Int32) (a33 : Int32) (a34 : Int32) (b0 : Int32) (b1 : Int32) (w : sm_Mem) : sm_R := (if b0 = b1 then (if a33 < (0 : Int32) then ff_la_law_1765 E self68 (a5) (a6) (a7) (a9) (a10) (a11) (a12) (a13) (a15) (a16) (a17) (a20) (a21) (a24) w else (if (a33 &&& a34) = (0 : Int32) then (if ((a33 ||| a34) &&& (a6 ^^^ (-1 : Int32))) = (0 : Int32) then (if a32 < (0 : Int32) then ff_la_law_1765 E self68 (a5) (a6) (a7) (a9) (a10) (a11) (a12) (a13) (a15) (a16) (a17) (a20) (a21) (a24) w else (if ((a34 >>> (a32 &&& (31 : Int32))) &&& (1 : Int32)) = (0 : Int32) then ff_la_law_1765 E self68 (a5) (a6) (a7) (a9) (a10) (a11) (a12) (a13) (a15) (a16) (a17) (a20) (a21) (a24) w else (some (.int (0 : Int32), w)))) else (some (.int (0 : Int32), w))) else (some (.int (0 : Int32), w)))) else (some (.int (0 : Int32), w)))
set_option maxHeartbeats 4000000 in
set_option maxRecDepth 100000 in
theorem ss_la_law_1719 {E : Nat × (Nat → Int32)} (self68 : Int32 → Int32 → Int64 → Int32 → sm_Mem → sm_R) (hself68 : ∀ (a5 : Int32) (a6 : Int32) (a7 : Int64) (a9 : Int32) (w : sm_Mem), sm_Sim E (mi_la_law) 68 [some (.ref 999), some (.ref 0), some (.ref 62), some (.ref 63), some (.ref 64), some (.int a5), some (.int a6), some (.long a7), none, some (.int a9), none, none, none, none, none, none, none, none, none, none, none, none, none, none, none, none, none, none, none, none, none, none, none, none, none, none, none, none, none, none, none, none, none, none, none] [] w (self68 a5 a6 a7 a9 w)) (a5 : Int32) (a6 : Int32) (a7 : Int64) (a9 : Int32) (a10 : Int32) (a11 : Int32) (a12 : Int32) (a13 : Int32) (a15 : Int32) (a16 : Int32) (a17 : Int32) (a20 : Int32) (a21 : Int64) (a24 : Int32) (a32 : Int32) (a33 : Int32) (a34 : Int32) (b0 : Int32) (b1 : Int32) (w : sm_Mem) : sm_Sim E (mi_la_law) 1719 [some (.ref 999), some (.ref 0), some (.ref 62), some (.ref 63), some (.ref 64), some (.int a5), some (.int a6), some (.long a7), none, some (.int a9), some (.int a10), some (.int a11), some (.int a12), some (.int a13), none, some (.int a15), some (.int a16), some (.int a17), none, none, some (.int a20), some (.long a21), none, none, some (.int a24), none, none, none, none, none, none, none, some (.int a32), some (.int a33), some (.int a34), none, none, none, none, none, none, none, none, none, none] [.int b1, .int b0] w (ff_la_law_1719 E self68 a5 a6 a7 a9 a10 a11 a12 a13 a15 a16 a17 a20 a21 a24 a32 a33 a34 b0 b1 w) := by
  unfold ff_la_law_1719
  refine sm_icmp_ne 1763 ii_la_law_1719 (by decide) ?_ ?_
  · refine sm_iload ii_la_law_1722 rfl ?_
    refine sm_if_lt 1765 ii_la_law_1724 (by decide) ?_ ?_
    · refine sm_msk [true, true, true, true, true, true, true, true, false, true, true, true, true, true, false, true, true, true, false, false, true, true, false, false, true, false, false, false, false, false, false, false, false, false, false, false, false, false, false, false, false, false, false, false, false] [some (.ref 999), some (.ref 0), some (.ref 62), some (.ref 63), some (.ref 64), some (.int a5), some (.int a6), some (.long a7), none, some (.int a9), some (.int a10), some (.int a11), some (.int a12), some (.int a13), none, some (.int a15), some (.int a16), some (.int a17), none, none, some (.int a20), some (.long a21), none, none, some (.int a24), none, none, none, none, none, none, none, none, none, none, none, none, none, none, none, none, none, none, none, none] rfl ?_
      exact ss_la_law_1765 self68 hself68 (a5) (a6) (a7) (a9) (a10) (a11) (a12) (a13) (a15) (a16) (a17) (a20) (a21) (a24) w
    · refine sm_iload ii_la_law_1727 rfl ?_
      refine sm_iload ii_la_law_1729 rfl ?_
      refine sm_iand ii_la_law_1731 ?_
      refine sm_if_ne 1763 ii_la_law_1732 (by decide) ?_ ?_
      · refine sm_iload ii_la_law_1735 rfl ?_
        refine sm_iload ii_la_law_1737 rfl ?_
        refine sm_ior ii_la_law_1739 ?_
        refine sm_iload ii_la_law_1740 rfl ?_
        refine sm_iconst (-1 : Int32) ii_la_law_1742 (by decide) ?_
        refine sm_ixor ii_la_law_1743 ?_
        refine sm_iand ii_la_law_1744 ?_
        refine sm_if_ne 1763 ii_la_law_1745 (by decide) ?_ ?_
        · refine sm_iload ii_la_law_1748 rfl ?_
          refine sm_if_lt 1765 ii_la_law_1750 (by decide) ?_ ?_
          · refine sm_msk [true, true, true, true, true, true, true, true, false, true, true, true, true, true, false, true, true, true, false, false, true, true, false, false, true, false, false, false, false, false, false, false, false, false, false, false, false, false, false, false, false, false, false, false, false] [some (.ref 999), some (.ref 0), some (.ref 62), some (.ref 63), some (.ref 64), some (.int a5), some (.int a6), some (.long a7), none, some (.int a9), some (.int a10), some (.int a11), some (.int a12), some (.int a13), none, some (.int a15), some (.int a16), some (.int a17), none, none, some (.int a20), some (.long a21), none, none, some (.int a24), none, none, none, none, none, none, none, none, none, none, none, none, none, none, none, none, none, none, none, none] rfl ?_
            exact ss_la_law_1765 self68 hself68 (a5) (a6) (a7) (a9) (a10) (a11) (a12) (a13) (a15) (a16) (a17) (a20) (a21) (a24) w
          · refine sm_iload ii_la_law_1753 rfl ?_
            refine sm_iload ii_la_law_1755 rfl ?_
            refine sm_ishr ii_la_law_1757 ?_
            refine sm_iconst (1 : Int32) ii_la_law_1758 (by decide) ?_
            refine sm_iand ii_la_law_1759 ?_
            refine sm_if_eq 1765 ii_la_law_1760 (by decide) ?_ ?_
            · refine sm_msk [true, true, true, true, true, true, true, true, false, true, true, true, true, true, false, true, true, true, false, false, true, true, false, false, true, false, false, false, false, false, false, false, false, false, false, false, false, false, false, false, false, false, false, false, false] [some (.ref 999), some (.ref 0), some (.ref 62), some (.ref 63), some (.ref 64), some (.int a5), some (.int a6), some (.long a7), none, some (.int a9), some (.int a10), some (.int a11), some (.int a12), some (.int a13), none, some (.int a15), some (.int a16), some (.int a17), none, none, some (.int a20), some (.long a21), none, none, some (.int a24), none, none, none, none, none, none, none, none, none, none, none, none, none, none, none, none, none, none, none, none] rfl ?_
              exact ss_la_law_1765 self68 hself68 (a5) (a6) (a7) (a9) (a10) (a11) (a12) (a13) (a15) (a16) (a17) (a20) (a21) (a24) w
            · refine sm_iconst (0 : Int32) ii_la_law_1763 (by decide) ?_
              exact sm_zret1 ii_la_law_1764 rfl (by decide)
        · refine sm_iconst (0 : Int32) ii_la_law_1763 (by decide) ?_
          exact sm_zret1 ii_la_law_1764 rfl (by decide)
      · refine sm_iconst (0 : Int32) ii_la_law_1763 (by decide) ?_
        exact sm_zret1 ii_la_law_1764 rfl (by decide)
  · refine sm_iconst (0 : Int32) ii_la_law_1763 (by decide) ?_
    exact sm_zret1 ii_la_law_1764 rfl (by decide)
noncomputable def ff_la_law_1707 (E : Nat × (Nat → Int32)) (self68 : Int32 → Int32 → Int64 → Int32 → sm_Mem → sm_R) (a5 : Int32) (a6 : Int32) (a7 : Int64) (a9 : Int32) (a10 : Int32) (a11 : Int32) (a12 : Int32) (a13 : Int32) (a15 : Int32) (a16 : Int32) (a17 : Int32) (a20 : Int32) (a21 : Int64) (a24 : Int32) (a30 : Int64) (a32 : Int32) (a33 : Int32) (a34 : Int32) (b0 : Int32) (w : sm_Mem) : sm_R := (if (lg_cmp a30 (0 : Int64)) = (0 : Int32) then ff_la_law_1719 E self68 (a5) (a6) (a7) (a9) (a10) (a11) (a12) (a13) (a15) (a16) (a17) (a20) (a21) (a24) (a32) (a33) (a34) (b0) ((1 : Int32)) w else ff_la_law_1719 E self68 (a5) (a6) (a7) (a9) (a10) (a11) (a12) (a13) (a15) (a16) (a17) (a20) (a21) (a24) (a32) (a33) (a34) (b0) ((0 : Int32)) w)
set_option maxHeartbeats 4000000 in
set_option maxRecDepth 100000 in
theorem ss_la_law_1707 {E : Nat × (Nat → Int32)} (self68 : Int32 → Int32 → Int64 → Int32 → sm_Mem → sm_R) (hself68 : ∀ (a5 : Int32) (a6 : Int32) (a7 : Int64) (a9 : Int32) (w : sm_Mem), sm_Sim E (mi_la_law) 68 [some (.ref 999), some (.ref 0), some (.ref 62), some (.ref 63), some (.ref 64), some (.int a5), some (.int a6), some (.long a7), none, some (.int a9), none, none, none, none, none, none, none, none, none, none, none, none, none, none, none, none, none, none, none, none, none, none, none, none, none, none, none, none, none, none, none, none, none, none, none] [] w (self68 a5 a6 a7 a9 w)) (a5 : Int32) (a6 : Int32) (a7 : Int64) (a9 : Int32) (a10 : Int32) (a11 : Int32) (a12 : Int32) (a13 : Int32) (a15 : Int32) (a16 : Int32) (a17 : Int32) (a20 : Int32) (a21 : Int64) (a24 : Int32) (a30 : Int64) (a32 : Int32) (a33 : Int32) (a34 : Int32) (b0 : Int32) (w : sm_Mem) : sm_Sim E (mi_la_law) 1707 [some (.ref 999), some (.ref 0), some (.ref 62), some (.ref 63), some (.ref 64), some (.int a5), some (.int a6), some (.long a7), none, some (.int a9), some (.int a10), some (.int a11), some (.int a12), some (.int a13), none, some (.int a15), some (.int a16), some (.int a17), none, none, some (.int a20), some (.long a21), none, none, some (.int a24), none, none, none, none, none, some (.long a30), none, some (.int a32), some (.int a33), some (.int a34), none, none, none, none, none, none, none, none, none, none] [.int b0] w (ff_la_law_1707 E self68 a5 a6 a7 a9 a10 a11 a12 a13 a15 a16 a17 a20 a21 a24 a30 a32 a33 a34 b0 w) := by
  unfold ff_la_law_1707
  refine sm_lload ii_la_law_1707 rfl ?_
  refine sm_lconst (0 : Int64) ii_la_law_1709 (by decide) ?_
  refine sm_lcmp ii_la_law_1710 ?_
  refine sm_if_ne 1718 ii_la_law_1711 (by decide) ?_ ?_
  · refine sm_iconst (1 : Int32) ii_la_law_1714 (by decide) ?_
    refine sm_goto 1719 ii_la_law_1715 (by decide) ?_
    refine sm_msk [true, true, true, true, true, true, true, true, false, true, true, true, true, true, false, true, true, true, false, false, true, true, false, false, true, false, false, false, false, false, false, false, true, true, true, false, false, false, false, false, false, false, false, false, false] [some (.ref 999), some (.ref 0), some (.ref 62), some (.ref 63), some (.ref 64), some (.int a5), some (.int a6), some (.long a7), none, some (.int a9), some (.int a10), some (.int a11), some (.int a12), some (.int a13), none, some (.int a15), some (.int a16), some (.int a17), none, none, some (.int a20), some (.long a21), none, none, some (.int a24), none, none, none, none, none, none, none, some (.int a32), some (.int a33), some (.int a34), none, none, none, none, none, none, none, none, none, none] rfl ?_
    exact ss_la_law_1719 self68 hself68 (a5) (a6) (a7) (a9) (a10) (a11) (a12) (a13) (a15) (a16) (a17) (a20) (a21) (a24) (a32) (a33) (a34) (b0) ((1 : Int32)) w
  · refine sm_iconst (0 : Int32) ii_la_law_1718 (by decide) ?_
    refine sm_msk [true, true, true, true, true, true, true, true, false, true, true, true, true, true, false, true, true, true, false, false, true, true, false, false, true, false, false, false, false, false, false, false, true, true, true, false, false, false, false, false, false, false, false, false, false] [some (.ref 999), some (.ref 0), some (.ref 62), some (.ref 63), some (.ref 64), some (.int a5), some (.int a6), some (.long a7), none, some (.int a9), some (.int a10), some (.int a11), some (.int a12), some (.int a13), none, some (.int a15), some (.int a16), some (.int a17), none, none, some (.int a20), some (.long a21), none, none, some (.int a24), none, none, none, none, none, none, none, some (.int a32), some (.int a33), some (.int a34), none, none, none, none, none, none, none, none, none, none] rfl ?_
    exact ss_la_law_1719 self68 hself68 (a5) (a6) (a7) (a9) (a10) (a11) (a12) (a13) (a15) (a16) (a17) (a20) (a21) (a24) (a32) (a33) (a34) (b0) ((0 : Int32)) w
noncomputable def ff_la_law_1685 (E : Nat × (Nat → Int32)) (self68 : Int32 → Int32 → Int64 → Int32 → sm_Mem → sm_R) (a5 : Int32) (a6 : Int32) (a7 : Int64) (a9 : Int32) (a10 : Int32) (a11 : Int32) (a12 : Int32) (a13 : Int32) (a15 : Int32) (a16 : Int32) (a17 : Int32) (a20 : Int32) (a21 : Int64) (a24 : Int32) (a30 : Int64) (a32 : Int32) (a33 : Int32) (a34 : Int32) (b0 : Int32) (b1 : Int32) (w : sm_Mem) : sm_R := (if b0 = b1 then (if a5 ≤ a32 then (some (.int (0 : Int32), w)) else (if a33 = (-3 : Int32) then ff_la_law_1707 E self68 (a5) (a6) (a7) (a9) (a10) (a11) (a12) (a13) (a15) (a16) (a17) (a20) (a21) (a24) (a30) (a32) (a33) (a34) ((1 : Int32)) w else ff_la_law_1707 E self68 (a5) (a6) (a7) (a9) (a10) (a11) (a12) (a13) (a15) (a16) (a17) (a20) (a21) (a24) (a30) (a32) (a33) (a34) ((0 : Int32)) w)) else (some (.int (0 : Int32), w)))
set_option maxHeartbeats 4000000 in
set_option maxRecDepth 100000 in
theorem ss_la_law_1685 {E : Nat × (Nat → Int32)} (self68 : Int32 → Int32 → Int64 → Int32 → sm_Mem → sm_R) (hself68 : ∀ (a5 : Int32) (a6 : Int32) (a7 : Int64) (a9 : Int32) (w : sm_Mem), sm_Sim E (mi_la_law) 68 [some (.ref 999), some (.ref 0), some (.ref 62), some (.ref 63), some (.ref 64), some (.int a5), some (.int a6), some (.long a7), none, some (.int a9), none, none, none, none, none, none, none, none, none, none, none, none, none, none, none, none, none, none, none, none, none, none, none, none, none, none, none, none, none, none, none, none, none, none, none] [] w (self68 a5 a6 a7 a9 w)) (a5 : Int32) (a6 : Int32) (a7 : Int64) (a9 : Int32) (a10 : Int32) (a11 : Int32) (a12 : Int32) (a13 : Int32) (a15 : Int32) (a16 : Int32) (a17 : Int32) (a20 : Int32) (a21 : Int64) (a24 : Int32) (a30 : Int64) (a32 : Int32) (a33 : Int32) (a34 : Int32) (b0 : Int32) (b1 : Int32) (w : sm_Mem) : sm_Sim E (mi_la_law) 1685 [some (.ref 999), some (.ref 0), some (.ref 62), some (.ref 63), some (.ref 64), some (.int a5), some (.int a6), some (.long a7), none, some (.int a9), some (.int a10), some (.int a11), some (.int a12), some (.int a13), none, some (.int a15), some (.int a16), some (.int a17), none, none, some (.int a20), some (.long a21), none, none, some (.int a24), none, none, none, none, none, some (.long a30), none, some (.int a32), some (.int a33), some (.int a34), none, none, none, none, none, none, none, none, none, none] [.int b1, .int b0] w (ff_la_law_1685 E self68 a5 a6 a7 a9 a10 a11 a12 a13 a15 a16 a17 a20 a21 a24 a30 a32 a33 a34 b0 b1 w) := by
  unfold ff_la_law_1685
  refine sm_icmp_ne 1763 ii_la_law_1685 (by decide) ?_ ?_
  · refine sm_iload ii_la_law_1688 rfl ?_
    refine sm_iload ii_la_law_1690 rfl ?_
    refine sm_icmp_ge 1763 ii_la_law_1692 (by decide) ?_ ?_
    · refine sm_iconst (0 : Int32) ii_la_law_1763 (by decide) ?_
      exact sm_zret1 ii_la_law_1764 rfl (by decide)
    · refine sm_iload ii_la_law_1695 rfl ?_
      refine sm_bipush (-3 : Int32) ii_la_law_1697 (by decide) ?_
      refine sm_icmp_ne 1706 ii_la_law_1699 (by decide) ?_ ?_
      · refine sm_iconst (1 : Int32) ii_la_law_1702 (by decide) ?_
        refine sm_goto 1707 ii_la_law_1703 (by decide) ?_
        exact ss_la_law_1707 self68 hself68 (a5) (a6) (a7) (a9) (a10) (a11) (a12) (a13) (a15) (a16) (a17) (a20) (a21) (a24) (a30) (a32) (a33) (a34) ((1 : Int32)) w
      · refine sm_iconst (0 : Int32) ii_la_law_1706 (by decide) ?_
        exact ss_la_law_1707 self68 hself68 (a5) (a6) (a7) (a9) (a10) (a11) (a12) (a13) (a15) (a16) (a17) (a20) (a21) (a24) (a30) (a32) (a33) (a34) ((0 : Int32)) w
  · refine sm_iconst (0 : Int32) ii_la_law_1763 (by decide) ?_
    exact sm_zret1 ii_la_law_1764 rfl (by decide)
noncomputable def ff_la_law_1680 (E : Nat × (Nat → Int32)) (self68 : Int32 → Int32 → Int64 → Int32 → sm_Mem → sm_R) (a5 : Int32) (a6 : Int32) (a7 : Int64) (a9 : Int32) (a10 : Int32) (a11 : Int32) (a12 : Int32) (a13 : Int32) (a15 : Int32) (a16 : Int32) (a17 : Int32) (a20 : Int32) (a21 : Int64) (a24 : Int32) (a30 : Int64) (a32 : Int32) (a33 : Int32) (a34 : Int32) (b0 : Int32) (w : sm_Mem) : sm_R := ff_la_law_1685 E self68 (a5) (a6) (a7) (a9) (a10) (a11) (a12) (a13) (a15) (a16) (a17) (a20) (a21) (a24) (a30) (a32) (a33) (a34) (b0) ((1 : Int32)) w
set_option maxHeartbeats 4000000 in
set_option maxRecDepth 100000 in
theorem ss_la_law_1680 {E : Nat × (Nat → Int32)} (self68 : Int32 → Int32 → Int64 → Int32 → sm_Mem → sm_R) (hself68 : ∀ (a5 : Int32) (a6 : Int32) (a7 : Int64) (a9 : Int32) (w : sm_Mem), sm_Sim E (mi_la_law) 68 [some (.ref 999), some (.ref 0), some (.ref 62), some (.ref 63), some (.ref 64), some (.int a5), some (.int a6), some (.long a7), none, some (.int a9), none, none, none, none, none, none, none, none, none, none, none, none, none, none, none, none, none, none, none, none, none, none, none, none, none, none, none, none, none, none, none, none, none, none, none] [] w (self68 a5 a6 a7 a9 w)) (a5 : Int32) (a6 : Int32) (a7 : Int64) (a9 : Int32) (a10 : Int32) (a11 : Int32) (a12 : Int32) (a13 : Int32) (a15 : Int32) (a16 : Int32) (a17 : Int32) (a20 : Int32) (a21 : Int64) (a24 : Int32) (a30 : Int64) (a32 : Int32) (a33 : Int32) (a34 : Int32) (b0 : Int32) (w : sm_Mem) : sm_Sim E (mi_la_law) 1680 [some (.ref 999), some (.ref 0), some (.ref 62), some (.ref 63), some (.ref 64), some (.int a5), some (.int a6), some (.long a7), none, some (.int a9), some (.int a10), some (.int a11), some (.int a12), some (.int a13), none, some (.int a15), some (.int a16), some (.int a17), none, none, some (.int a20), some (.long a21), none, none, some (.int a24), none, none, none, none, none, some (.long a30), none, some (.int a32), some (.int a33), some (.int a34), none, none, none, none, none, none, none, none, none, none] [.int b0] w (ff_la_law_1680 E self68 a5 a6 a7 a9 a10 a11 a12 a13 a15 a16 a17 a20 a21 a24 a30 a32 a33 a34 b0 w) := by
  unfold ff_la_law_1680
  refine sm_iconst (1 : Int32) ii_la_law_1680 (by decide) ?_
  refine sm_goto 1685 ii_la_law_1681 (by decide) ?_
  exact ss_la_law_1685 self68 hself68 (a5) (a6) (a7) (a9) (a10) (a11) (a12) (a13) (a15) (a16) (a17) (a20) (a21) (a24) (a30) (a32) (a33) (a34) (b0) ((1 : Int32)) w
noncomputable def ff_la_law_1668 (E : Nat × (Nat → Int32)) (self68 : Int32 → Int32 → Int64 → Int32 → sm_Mem → sm_R) (a5 : Int32) (a6 : Int32) (a7 : Int64) (a9 : Int32) (a10 : Int32) (a11 : Int32) (a12 : Int32) (a13 : Int32) (a15 : Int32) (a16 : Int32) (a17 : Int32) (a20 : Int32) (a21 : Int64) (a24 : Int32) (a29 : Int32) (a30 : Int64) (a32 : Int32) (a33 : Int32) (a34 : Int32) (b0 : Int32) (w : sm_Mem) : sm_R := (if (lg_cmp a30 (0 : Int64)) = (0 : Int32) then ff_la_law_1680 E self68 (a5) (a6) (a7) (a9) (a10) (a11) (a12) (a13) (a15) (a16) (a17) (a20) (a21) (a24) (a30) (a32) (a33) (a34) (b0) w else (if a29 = (0 : Int32) then ff_la_law_1680 E self68 (a5) (a6) (a7) (a9) (a10) (a11) (a12) (a13) (a15) (a16) (a17) (a20) (a21) (a24) (a30) (a32) (a33) (a34) (b0) w else ff_la_law_1685 E self68 (a5) (a6) (a7) (a9) (a10) (a11) (a12) (a13) (a15) (a16) (a17) (a20) (a21) (a24) (a30) (a32) (a33) (a34) (b0) ((0 : Int32)) w))
set_option maxHeartbeats 4000000 in
set_option maxRecDepth 100000 in
theorem ss_la_law_1668 {E : Nat × (Nat → Int32)} (self68 : Int32 → Int32 → Int64 → Int32 → sm_Mem → sm_R) (hself68 : ∀ (a5 : Int32) (a6 : Int32) (a7 : Int64) (a9 : Int32) (w : sm_Mem), sm_Sim E (mi_la_law) 68 [some (.ref 999), some (.ref 0), some (.ref 62), some (.ref 63), some (.ref 64), some (.int a5), some (.int a6), some (.long a7), none, some (.int a9), none, none, none, none, none, none, none, none, none, none, none, none, none, none, none, none, none, none, none, none, none, none, none, none, none, none, none, none, none, none, none, none, none, none, none] [] w (self68 a5 a6 a7 a9 w)) (a5 : Int32) (a6 : Int32) (a7 : Int64) (a9 : Int32) (a10 : Int32) (a11 : Int32) (a12 : Int32) (a13 : Int32) (a15 : Int32) (a16 : Int32) (a17 : Int32) (a20 : Int32) (a21 : Int64) (a24 : Int32) (a29 : Int32) (a30 : Int64) (a32 : Int32) (a33 : Int32) (a34 : Int32) (b0 : Int32) (w : sm_Mem) : sm_Sim E (mi_la_law) 1668 [some (.ref 999), some (.ref 0), some (.ref 62), some (.ref 63), some (.ref 64), some (.int a5), some (.int a6), some (.long a7), none, some (.int a9), some (.int a10), some (.int a11), some (.int a12), some (.int a13), none, some (.int a15), some (.int a16), some (.int a17), none, none, some (.int a20), some (.long a21), none, none, some (.int a24), none, none, none, none, some (.int a29), some (.long a30), none, some (.int a32), some (.int a33), some (.int a34), none, none, none, none, none, none, none, none, none, none] [.int b0] w (ff_la_law_1668 E self68 a5 a6 a7 a9 a10 a11 a12 a13 a15 a16 a17 a20 a21 a24 a29 a30 a32 a33 a34 b0 w) := by
  unfold ff_la_law_1668
  refine sm_lload ii_la_law_1668 rfl ?_
  refine sm_lconst (0 : Int64) ii_la_law_1670 (by decide) ?_
  refine sm_lcmp ii_la_law_1671 ?_
  refine sm_if_eq 1680 ii_la_law_1672 (by decide) ?_ ?_
  · refine sm_msk [true, true, true, true, true, true, true, true, false, true, true, true, true, true, false, true, true, true, false, false, true, true, false, false, true, false, false, false, false, false, true, false, true, true, true, false, false, false, false, false, false, false, false, false, false] [some (.ref 999), some (.ref 0), some (.ref 62), some (.ref 63), some (.ref 64), some (.int a5), some (.int a6), some (.long a7), none, some (.int a9), some (.int a10), some (.int a11), some (.int a12), some (.int a13), none, some (.int a15), some (.int a16), some (.int a17), none, none, some (.int a20), some (.long a21), none, none, some (.int a24), none, none, none, none, none, some (.long a30), none, some (.int a32), some (.int a33), some (.int a34), none, none, none, none, none, none, none, none, none, none] rfl ?_
    exact ss_la_law_1680 self68 hself68 (a5) (a6) (a7) (a9) (a10) (a11) (a12) (a13) (a15) (a16) (a17) (a20) (a21) (a24) (a30) (a32) (a33) (a34) (b0) w
  · refine sm_iload ii_la_law_1675 rfl ?_
    refine sm_if_ne 1684 ii_la_law_1677 (by decide) ?_ ?_
    · refine sm_msk [true, true, true, true, true, true, true, true, false, true, true, true, true, true, false, true, true, true, false, false, true, true, false, false, true, false, false, false, false, false, true, false, true, true, true, false, false, false, false, false, false, false, false, false, false] [some (.ref 999), some (.ref 0), some (.ref 62), some (.ref 63), some (.ref 64), some (.int a5), some (.int a6), some (.long a7), none, some (.int a9), some (.int a10), some (.int a11), some (.int a12), some (.int a13), none, some (.int a15), some (.int a16), some (.int a17), none, none, some (.int a20), some (.long a21), none, none, some (.int a24), none, none, none, none, none, some (.long a30), none, some (.int a32), some (.int a33), some (.int a34), none, none, none, none, none, none, none, none, none, none] rfl ?_
      exact ss_la_law_1680 self68 hself68 (a5) (a6) (a7) (a9) (a10) (a11) (a12) (a13) (a15) (a16) (a17) (a20) (a21) (a24) (a30) (a32) (a33) (a34) (b0) w
    · refine sm_iconst (0 : Int32) ii_la_law_1684 (by decide) ?_
      refine sm_msk [true, true, true, true, true, true, true, true, false, true, true, true, true, true, false, true, true, true, false, false, true, true, false, false, true, false, false, false, false, false, true, false, true, true, true, false, false, false, false, false, false, false, false, false, false] [some (.ref 999), some (.ref 0), some (.ref 62), some (.ref 63), some (.ref 64), some (.int a5), some (.int a6), some (.long a7), none, some (.int a9), some (.int a10), some (.int a11), some (.int a12), some (.int a13), none, some (.int a15), some (.int a16), some (.int a17), none, none, some (.int a20), some (.long a21), none, none, some (.int a24), none, none, none, none, none, some (.long a30), none, some (.int a32), some (.int a33), some (.int a34), none, none, none, none, none, none, none, none, none, none] rfl ?_
      exact ss_la_law_1685 self68 hself68 (a5) (a6) (a7) (a9) (a10) (a11) (a12) (a13) (a15) (a16) (a17) (a20) (a21) (a24) (a30) (a32) (a33) (a34) (b0) ((0 : Int32)) w
noncomputable def ff_la_law_1609 (E : Nat × (Nat → Int32)) (self68 : Int32 → Int32 → Int64 → Int32 → sm_Mem → sm_R) (a5 : Int32) (a6 : Int32) (a7 : Int64) (a9 : Int32) (a10 : Int32) (a11 : Int32) (a12 : Int32) (a13 : Int32) (a15 : Int32) (a16 : Int32) (a17 : Int32) (a20 : Int32) (a21 : Int64) (a24 : Int32) (a29 : Int32) (b0 : Int64) (w : sm_Mem) : sm_R := (sm_cI (ff_ho_asked  w) fun x127 w128 => (sm_cI (ff_ho_sure ((3 : Int32)) w128) fun x129 w130 => (sm_cI (ff_ho_asked  w130) fun x131 w132 => (if (lg_cmp b0 (0 : Int64)) < (0 : Int32) then (some (.int (0 : Int32), w132)) else (sm_cI (ff_ho_ways ((4 : Int32)) w132) fun x133 w134 => (if x133 = (1 : Int32) then (sm_cL (ff_ho_upper  w134) fun x135 w136 => (if (lg_cmp x135 b0) < (0 : Int32) then (some (.int (0 : Int32), w136)) else (if x127 = (-9 : Int32) then ff_la_law_1668 E self68 (a5) (a6) (a7) (a9) (a10) (a11) (a12) (a13) (a15) (a16) (a17) (a20) (a21) (a24) (a29) (b0) (x127) (x129) (x131) ((1 : Int32)) w136 else ff_la_law_1668 E self68 (a5) (a6) (a7) (a9) (a10) (a11) (a12) (a13) (a15) (a16) (a17) (a20) (a21) (a24) (a29) (b0) (x127) (x129) (x131) ((0 : Int32)) w136))) else (some (.int (0 : Int32), w134))))))))
set_option maxHeartbeats 4000000 in
set_option maxRecDepth 100000 in
theorem ss_la_law_1609 {E : Nat × (Nat → Int32)} (self68 : Int32 → Int32 → Int64 → Int32 → sm_Mem → sm_R) (hself68 : ∀ (a5 : Int32) (a6 : Int32) (a7 : Int64) (a9 : Int32) (w : sm_Mem), sm_Sim E (mi_la_law) 68 [some (.ref 999), some (.ref 0), some (.ref 62), some (.ref 63), some (.ref 64), some (.int a5), some (.int a6), some (.long a7), none, some (.int a9), none, none, none, none, none, none, none, none, none, none, none, none, none, none, none, none, none, none, none, none, none, none, none, none, none, none, none, none, none, none, none, none, none, none, none] [] w (self68 a5 a6 a7 a9 w)) (a5 : Int32) (a6 : Int32) (a7 : Int64) (a9 : Int32) (a10 : Int32) (a11 : Int32) (a12 : Int32) (a13 : Int32) (a15 : Int32) (a16 : Int32) (a17 : Int32) (a20 : Int32) (a21 : Int64) (a24 : Int32) (a29 : Int32) (b0 : Int64) (w : sm_Mem) : sm_Sim E (mi_la_law) 1609 [some (.ref 999), some (.ref 0), some (.ref 62), some (.ref 63), some (.ref 64), some (.int a5), some (.int a6), some (.long a7), none, some (.int a9), some (.int a10), some (.int a11), some (.int a12), some (.int a13), none, some (.int a15), some (.int a16), some (.int a17), none, none, some (.int a20), some (.long a21), none, none, some (.int a24), none, none, none, none, some (.int a29), none, none, none, none, none, none, none, none, none, none, none, none, none, none, none] [.long b0] w (ff_la_law_1609 E self68 a5 a6 a7 a9 a10 a11 a12 a13 a15 a16 a17 a20 a21 a24 a29 b0 w) := by
  unfold ff_la_law_1609
  refine sm_lstore [some (.ref 999), some (.ref 0), some (.ref 62), some (.ref 63), some (.ref 64), some (.int a5), some (.int a6), some (.long a7), none, some (.int a9), some (.int a10), some (.int a11), some (.int a12), some (.int a13), none, some (.int a15), some (.int a16), some (.int a17), none, none, some (.int a20), some (.long a21), none, none, some (.int a24), none, none, none, none, some (.int a29), some (.long b0), none, none, none, none, none, none, none, none, none, none, none, none, none, none] ii_la_law_1609 rfl rfl ?_
  refine sm_aload_n ii_la_law_1611 rfl ?_
  refine sm_cvI [] [] rfl ii_la_law_1612 ml_la_78 (mf_ho_asked) (mv_ho_asked) (Nat.le_of_ble_eq_true rfl) rfl 6 rfl rfl rfl rfl (mc_ho_asked  w) (fun x127 w128 => ?_)
  refine sm_istore [some (.ref 999), some (.ref 0), some (.ref 62), some (.ref 63), some (.ref 64), some (.int a5), some (.int a6), some (.long a7), none, some (.int a9), some (.int a10), some (.int a11), some (.int a12), some (.int a13), none, some (.int a15), some (.int a16), some (.int a17), none, none, some (.int a20), some (.long a21), none, none, some (.int a24), none, none, none, none, some (.int a29), some (.long b0), none, some (.int x127), none, none, none, none, none, none, none, none, none, none, none, none] ii_la_law_1615 rfl rfl ?_
  refine sm_aload_n ii_la_law_1617 rfl ?_
  refine sm_iconst (3 : Int32) ii_la_law_1618 (by decide) ?_
  refine sm_cvI [.int (3 : Int32)] [] rfl ii_la_law_1619 ml_la_153 (mf_ho_sure) (mv_ho_sure) (Nat.le_of_ble_eq_true rfl) rfl 6 rfl rfl rfl rfl (mc_ho_sure ((3 : Int32)) w128) (fun x129 w130 => ?_)
  refine sm_istore [some (.ref 999), some (.ref 0), some (.ref 62), some (.ref 63), some (.ref 64), some (.int a5), some (.int a6), some (.long a7), none, some (.int a9), some (.int a10), some (.int a11), some (.int a12), some (.int a13), none, some (.int a15), some (.int a16), some (.int a17), none, none, some (.int a20), some (.long a21), none, none, some (.int a24), none, none, none, none, some (.int a29), some (.long b0), none, some (.int x127), some (.int x129), none, none, none, none, none, none, none, none, none, none, none] ii_la_law_1622 rfl rfl ?_
  refine sm_aload_n ii_la_law_1624 rfl ?_
  refine sm_cvI [] [] rfl ii_la_law_1625 ml_la_78 (mf_ho_asked) (mv_ho_asked) (Nat.le_of_ble_eq_true rfl) rfl 6 rfl rfl rfl rfl (mc_ho_asked  w130) (fun x131 w132 => ?_)
  refine sm_istore [some (.ref 999), some (.ref 0), some (.ref 62), some (.ref 63), some (.ref 64), some (.int a5), some (.int a6), some (.long a7), none, some (.int a9), some (.int a10), some (.int a11), some (.int a12), some (.int a13), none, some (.int a15), some (.int a16), some (.int a17), none, none, some (.int a20), some (.long a21), none, none, some (.int a24), none, none, none, none, some (.int a29), some (.long b0), none, some (.int x127), some (.int x129), some (.int x131), none, none, none, none, none, none, none, none, none, none] ii_la_law_1628 rfl rfl ?_
  refine sm_lload ii_la_law_1630 rfl ?_
  refine sm_lconst (0 : Int64) ii_la_law_1632 (by decide) ?_
  refine sm_lcmp ii_la_law_1633 ?_
  refine sm_if_lt 1763 ii_la_law_1634 (by decide) ?_ ?_
  · refine sm_iconst (0 : Int32) ii_la_law_1763 (by decide) ?_
    exact sm_zret1 ii_la_law_1764 rfl (by decide)
  · refine sm_aload_n ii_la_law_1637 rfl ?_
    refine sm_iconst (4 : Int32) ii_la_law_1638 (by decide) ?_
    refine sm_cvI [.int (4 : Int32)] [] rfl ii_la_law_1639 ml_la_120 (mf_ho_ways) (mv_ho_ways) (Nat.le_of_ble_eq_true rfl) rfl 6 rfl rfl rfl rfl (mc_ho_ways ((4 : Int32)) w132) (fun x133 w134 => ?_)
    refine sm_iconst (1 : Int32) ii_la_law_1642 (by decide) ?_
    refine sm_icmp_ne 1763 ii_la_law_1643 (by decide) ?_ ?_
    · refine sm_aload_n ii_la_law_1646 rfl ?_
      refine sm_cvL [] [] rfl ii_la_law_1647 ml_la_123 (mf_ho_upper) (mv_ho_upper) (Nat.le_of_ble_eq_true rfl) rfl 6 rfl rfl rfl rfl (mc_ho_upper  w134) (fun x135 w136 => ?_)
      refine sm_lload ii_la_law_1650 rfl ?_
      refine sm_lcmp ii_la_law_1652 ?_
      refine sm_if_lt 1763 ii_la_law_1653 (by decide) ?_ ?_
      · refine sm_iconst (0 : Int32) ii_la_law_1763 (by decide) ?_
        exact sm_zret1 ii_la_law_1764 rfl (by decide)
      · refine sm_iload ii_la_law_1656 rfl ?_
        refine sm_bipush (-9 : Int32) ii_la_law_1658 (by decide) ?_
        refine sm_icmp_ne 1667 ii_la_law_1660 (by decide) ?_ ?_
        · refine sm_iconst (1 : Int32) ii_la_law_1663 (by decide) ?_
          refine sm_goto 1668 ii_la_law_1664 (by decide) ?_
          exact ss_la_law_1668 self68 hself68 (a5) (a6) (a7) (a9) (a10) (a11) (a12) (a13) (a15) (a16) (a17) (a20) (a21) (a24) (a29) (b0) (x127) (x129) (x131) ((1 : Int32)) w136
        · refine sm_iconst (0 : Int32) ii_la_law_1667 (by decide) ?_
          exact ss_la_law_1668 self68 hself68 (a5) (a6) (a7) (a9) (a10) (a11) (a12) (a13) (a15) (a16) (a17) (a20) (a21) (a24) (a29) (b0) (x127) (x129) (x131) ((0 : Int32)) w136
    · refine sm_iconst (0 : Int32) ii_la_law_1763 (by decide) ?_
      exact sm_zret1 ii_la_law_1764 rfl (by decide)
noncomputable def ff_la_law_1496_b (E : Nat × (Nat → Int32)) (self68 : Int32 → Int32 → Int64 → Int32 → sm_Mem → sm_R) (self1496 : Int32 → Int32 → Int64 → Int32 → Int32 → Int32 → Int32 → Int32 → Int32 → Int32 → Int32 → Int32 → Int64 → Int32 → Int32 → Int32 → sm_Mem → sm_R) (a5 : Int32) (a6 : Int32) (a7 : Int64) (a9 : Int32) (a10 : Int32) (a11 : Int32) (a12 : Int32) (a13 : Int32) (a15 : Int32) (a16 : Int32) (a17 : Int32) (a20 : Int32) (a21 : Int64) (a24 : Int32) (a29 : Int32) (a30 : Int32) (w : sm_Mem) : sm_R := (if a29 ≤ a30 then (sm_cI (ff_ho_heard ((3 : Int32)) w) fun x137 w138 => (if x137 = (1 : Int32) then (sm_cL (ff_ho_upper  w138) fun x139 w140 => ff_la_law_1609 E self68 (a5) (a6) (a7) (a9) (a10) (a11) (a12) (a13) (a15) (a16) (a17) (a20) (a21) (a24) (a29) (x139) w140) else ff_la_law_1609 E self68 (a5) (a6) (a7) (a9) (a10) (a11) (a12) (a13) (a15) (a16) (a17) (a20) (a21) (a24) (a29) ((-1 : Int64)) w138)) else (sm_cI (ff_la_low ((a10 >>> (((5 : Int32) + ((3 : Int32) * a30)) &&& (31 : Int32)))) ((6 : Int32)) w) fun x141 w142 => (sm_cI (ff_ho_lay ((4 : Int32)) (a30) (x141) w142) fun x143 w144 => (if x143 = (1 : Int32) then (sm_cI (ff_ho_lay ((3 : Int32)) (((2 : Int32) * a30)) (x141) w144) fun x145 w146 => (if x145 = (1 : Int32) then (sm_cI (ff_la_low ((a10 >>> (((14 : Int32) + ((2 : Int32) * a30)) &&& (31 : Int32)))) (a5) w146) fun x147 w148 => (sm_cI (ff_la_told (x147) ((2 : Int32)) w148) fun x149 w150 => (sm_cI (ff_ho_lay ((3 : Int32)) ((((2 : Int32) * a30) + (1 : Int32))) (x149) w150) fun x151 w152 => (if x151 = (1 : Int32) then self1496 (a5) (a6) (a7) (a9) (a10) (a11) (a12) (a13) (a15) (a16) (a17) (a20) (a21) (a24) (a29) ((a30 + (1 : Int32))) w152 else (some (.int (0 : Int32), w152)))))) else (some (.int (0 : Int32), w146)))) else (some (.int (0 : Int32), w144))))))
noncomputable def ff_la_law_1496_f (E : Nat × (Nat → Int32)) (self68 : Int32 → Int32 → Int64 → Int32 → sm_Mem → sm_R) : Nat → Int32 → Int32 → Int64 → Int32 → Int32 → Int32 → Int32 → Int32 → Int32 → Int32 → Int32 → Int32 → Int64 → Int32 → Int32 → Int32 → sm_Mem → sm_R
  | 0, _, _, _, _, _, _, _, _, _, _, _, _, _, _, _, _, _ => none
  | n + 1, a5, a6, a7, a9, a10, a11, a12, a13, a15, a16, a17, a20, a21, a24, a29, a30, w => ff_la_law_1496_b E self68 (ff_la_law_1496_f E self68 n) a5 a6 a7 a9 a10 a11 a12 a13 a15 a16 a17 a20 a21 a24 a29 a30 w
noncomputable def ff_la_law_1496 (E : Nat × (Nat → Int32)) (self68 : Int32 → Int32 → Int64 → Int32 → sm_Mem → sm_R) (a5 : Int32) (a6 : Int32) (a7 : Int64) (a9 : Int32) (a10 : Int32) (a11 : Int32) (a12 : Int32) (a13 : Int32) (a15 : Int32) (a16 : Int32) (a17 : Int32) (a20 : Int32) (a21 : Int64) (a24 : Int32) (a29 : Int32) (a30 : Int32) (w : sm_Mem) : sm_R := ff_la_law_1496_f E self68 sm_N a5 a6 a7 a9 a10 a11 a12 a13 a15 a16 a17 a20 a21 a24 a29 a30 w
set_option maxHeartbeats 4000000 in
set_option maxRecDepth 100000 in
theorem ss_la_law_1496_b {E : Nat × (Nat → Int32)} (self68 : Int32 → Int32 → Int64 → Int32 → sm_Mem → sm_R) (hself68 : ∀ (a5 : Int32) (a6 : Int32) (a7 : Int64) (a9 : Int32) (w : sm_Mem), sm_Sim E (mi_la_law) 68 [some (.ref 999), some (.ref 0), some (.ref 62), some (.ref 63), some (.ref 64), some (.int a5), some (.int a6), some (.long a7), none, some (.int a9), none, none, none, none, none, none, none, none, none, none, none, none, none, none, none, none, none, none, none, none, none, none, none, none, none, none, none, none, none, none, none, none, none, none, none] [] w (self68 a5 a6 a7 a9 w)) (self1496 : Int32 → Int32 → Int64 → Int32 → Int32 → Int32 → Int32 → Int32 → Int32 → Int32 → Int32 → Int32 → Int64 → Int32 → Int32 → Int32 → sm_Mem → sm_R) (hself1496 : ∀ (a5 : Int32) (a6 : Int32) (a7 : Int64) (a9 : Int32) (a10 : Int32) (a11 : Int32) (a12 : Int32) (a13 : Int32) (a15 : Int32) (a16 : Int32) (a17 : Int32) (a20 : Int32) (a21 : Int64) (a24 : Int32) (a29 : Int32) (a30 : Int32) (w : sm_Mem), sm_Sim E (mi_la_law) 1496 [some (.ref 999), some (.ref 0), some (.ref 62), some (.ref 63), some (.ref 64), some (.int a5), some (.int a6), some (.long a7), none, some (.int a9), some (.int a10), some (.int a11), some (.int a12), some (.int a13), none, some (.int a15), some (.int a16), some (.int a17), none, none, some (.int a20), some (.long a21), none, none, some (.int a24), none, none, none, none, some (.int a29), some (.int a30), none, none, none, none, none, none, none, none, none, none, none, none, none, none] [] w (self1496 a5 a6 a7 a9 a10 a11 a12 a13 a15 a16 a17 a20 a21 a24 a29 a30 w)) (a5 : Int32) (a6 : Int32) (a7 : Int64) (a9 : Int32) (a10 : Int32) (a11 : Int32) (a12 : Int32) (a13 : Int32) (a15 : Int32) (a16 : Int32) (a17 : Int32) (a20 : Int32) (a21 : Int64) (a24 : Int32) (a29 : Int32) (a30 : Int32) (w : sm_Mem) : sm_Sim E (mi_la_law) 1496 [some (.ref 999), some (.ref 0), some (.ref 62), some (.ref 63), some (.ref 64), some (.int a5), some (.int a6), some (.long a7), none, some (.int a9), some (.int a10), some (.int a11), some (.int a12), some (.int a13), none, some (.int a15), some (.int a16), some (.int a17), none, none, some (.int a20), some (.long a21), none, none, some (.int a24), none, none, none, none, some (.int a29), some (.int a30), none, none, none, none, none, none, none, none, none, none, none, none, none, none] [] w (ff_la_law_1496_b E self68 self1496 a5 a6 a7 a9 a10 a11 a12 a13 a15 a16 a17 a20 a21 a24 a29 a30 w) := by
  unfold ff_la_law_1496_b
  refine sm_iload ii_la_law_1496 rfl ?_
  refine sm_iload ii_la_law_1498 rfl ?_
  refine sm_icmp_ge 1590 ii_la_law_1500 (by decide) ?_ ?_
  · refine sm_aload_n ii_la_law_1590 rfl ?_
    refine sm_iconst (3 : Int32) ii_la_law_1591 (by decide) ?_
    refine sm_cvI [.int (3 : Int32)] [] rfl ii_la_law_1592 ml_la_150 (mf_ho_heard) (mv_ho_heard) (Nat.le_of_ble_eq_true rfl) rfl 6 rfl rfl rfl rfl (mc_ho_heard ((3 : Int32)) w) (fun x137 w138 => ?_)
    refine sm_iconst (1 : Int32) ii_la_law_1595 (by decide) ?_
    refine sm_icmp_ne 1606 ii_la_law_1596 (by decide) ?_ ?_
    · refine sm_aload_n ii_la_law_1599 rfl ?_
      refine sm_cvL [] [] rfl ii_la_law_1600 ml_la_123 (mf_ho_upper) (mv_ho_upper) (Nat.le_of_ble_eq_true rfl) rfl 6 rfl rfl rfl rfl (mc_ho_upper  w138) (fun x139 w140 => ?_)
      refine sm_goto 1609 ii_la_law_1603 (by decide) ?_
      refine sm_msk [true, true, true, true, true, true, true, true, false, true, true, true, true, true, false, true, true, true, false, false, true, true, false, false, true, false, false, false, false, true, false, false, false, false, false, false, false, false, false, false, false, false, false, false, false] [some (.ref 999), some (.ref 0), some (.ref 62), some (.ref 63), some (.ref 64), some (.int a5), some (.int a6), some (.long a7), none, some (.int a9), some (.int a10), some (.int a11), some (.int a12), some (.int a13), none, some (.int a15), some (.int a16), some (.int a17), none, none, some (.int a20), some (.long a21), none, none, some (.int a24), none, none, none, none, some (.int a29), none, none, none, none, none, none, none, none, none, none, none, none, none, none, none] rfl ?_
      exact ss_la_law_1609 self68 hself68 (a5) (a6) (a7) (a9) (a10) (a11) (a12) (a13) (a15) (a16) (a17) (a20) (a21) (a24) (a29) (x139) w140
    · refine sm_ldc2 (-1 : Int64) ii_la_law_1606 (List.mem_of_getElem? (i := 875) (by decide +kernel)) ?_
      refine sm_msk [true, true, true, true, true, true, true, true, false, true, true, true, true, true, false, true, true, true, false, false, true, true, false, false, true, false, false, false, false, true, false, false, false, false, false, false, false, false, false, false, false, false, false, false, false] [some (.ref 999), some (.ref 0), some (.ref 62), some (.ref 63), some (.ref 64), some (.int a5), some (.int a6), some (.long a7), none, some (.int a9), some (.int a10), some (.int a11), some (.int a12), some (.int a13), none, some (.int a15), some (.int a16), some (.int a17), none, none, some (.int a20), some (.long a21), none, none, some (.int a24), none, none, none, none, some (.int a29), none, none, none, none, none, none, none, none, none, none, none, none, none, none, none] rfl ?_
      exact ss_la_law_1609 self68 hself68 (a5) (a6) (a7) (a9) (a10) (a11) (a12) (a13) (a15) (a16) (a17) (a20) (a21) (a24) (a29) ((-1 : Int64)) w138
  · refine sm_iload ii_la_law_1503 rfl ?_
    refine sm_iconst (5 : Int32) ii_la_law_1505 (by decide) ?_
    refine sm_iconst (3 : Int32) ii_la_law_1506 (by decide) ?_
    refine sm_iload ii_la_law_1507 rfl ?_
    refine sm_imul ii_la_law_1509 ?_
    refine sm_iadd ii_la_law_1510 ?_
    refine sm_ishr ii_la_law_1511 ?_
    refine sm_bipush (6 : Int32) ii_la_law_1512 (by decide) ?_
    refine sm_csI [.int (a10 >>> (((5 : Int32) + ((3 : Int32) * a30)) &&& (31 : Int32))), .int (6 : Int32)] [] rfl ii_la_law_1514 ml_la_15 (mf_la_low) (mv_la_low) (Nat.le_of_ble_eq_true rfl) rfl rfl rfl (mc_la_low ((a10 >>> (((5 : Int32) + ((3 : Int32) * a30)) &&& (31 : Int32)))) ((6 : Int32)) w) (fun x141 w142 => ?_)
    refine sm_istore [some (.ref 999), some (.ref 0), some (.ref 62), some (.ref 63), some (.ref 64), some (.int a5), some (.int a6), some (.long a7), none, some (.int a9), some (.int a10), some (.int a11), some (.int a12), some (.int a13), none, some (.int a15), some (.int a16), some (.int a17), none, none, some (.int a20), some (.long a21), none, none, some (.int a24), none, none, none, none, some (.int a29), some (.int a30), some (.int x141), none, none, none, none, none, none, none, none, none, none, none, none, none] ii_la_law_1517 rfl rfl ?_
    refine sm_aload_n ii_la_law_1519 rfl ?_
    refine sm_iconst (4 : Int32) ii_la_law_1520 (by decide) ?_
    refine sm_iload ii_la_law_1521 rfl ?_
    refine sm_iload ii_la_law_1523 rfl ?_
    refine sm_cvI [.int (4 : Int32), .int a30, .int x141] [] rfl ii_la_law_1525 ml_la_117 (mf_ho_lay) (mv_ho_lay) (Nat.le_of_ble_eq_true rfl) rfl 6 rfl rfl rfl rfl (mc_ho_lay ((4 : Int32)) (a30) (x141) w142) (fun x143 w144 => ?_)
    refine sm_iconst (1 : Int32) ii_la_law_1528 (by decide) ?_
    refine sm_icmp_ne 1582 ii_la_law_1529 (by decide) ?_ ?_
    · refine sm_aload_n ii_la_law_1532 rfl ?_
      refine sm_iconst (3 : Int32) ii_la_law_1533 (by decide) ?_
      refine sm_iconst (2 : Int32) ii_la_law_1534 (by decide) ?_
      refine sm_iload ii_la_law_1535 rfl ?_
      refine sm_imul ii_la_law_1537 ?_
      refine sm_iload ii_la_law_1538 rfl ?_
      refine sm_cvI [.int (3 : Int32), .int ((2 : Int32) * a30), .int x141] [] rfl ii_la_law_1540 ml_la_117 (mf_ho_lay) (mv_ho_lay) (Nat.le_of_ble_eq_true rfl) rfl 6 rfl rfl rfl rfl (mc_ho_lay ((3 : Int32)) (((2 : Int32) * a30)) (x141) w144) (fun x145 w146 => ?_)
      refine sm_iconst (1 : Int32) ii_la_law_1543 (by decide) ?_
      refine sm_icmp_ne 1582 ii_la_law_1544 (by decide) ?_ ?_
      · refine sm_aload_n ii_la_law_1547 rfl ?_
        refine sm_iconst (3 : Int32) ii_la_law_1548 (by decide) ?_
        refine sm_iconst (2 : Int32) ii_la_law_1549 (by decide) ?_
        refine sm_iload ii_la_law_1550 rfl ?_
        refine sm_imul ii_la_law_1552 ?_
        refine sm_iconst (1 : Int32) ii_la_law_1553 (by decide) ?_
        refine sm_iadd ii_la_law_1554 ?_
        refine sm_aload_n ii_la_law_1555 rfl ?_
        refine sm_iload ii_la_law_1556 rfl ?_
        refine sm_bipush (14 : Int32) ii_la_law_1558 (by decide) ?_
        refine sm_iconst (2 : Int32) ii_la_law_1560 (by decide) ?_
        refine sm_iload ii_la_law_1561 rfl ?_
        refine sm_imul ii_la_law_1563 ?_
        refine sm_iadd ii_la_law_1564 ?_
        refine sm_ishr ii_la_law_1565 ?_
        refine sm_iload ii_la_law_1566 rfl ?_
        refine sm_csI [.int (a10 >>> (((14 : Int32) + ((2 : Int32) * a30)) &&& (31 : Int32))), .int a5] [.ref 0, .int (((2 : Int32) * a30) + (1 : Int32)), .int (3 : Int32), .ref 0] rfl ii_la_law_1568 ml_la_15 (mf_la_low) (mv_la_low) (Nat.le_of_ble_eq_true rfl) rfl rfl rfl (mc_la_low ((a10 >>> (((14 : Int32) + ((2 : Int32) * a30)) &&& (31 : Int32)))) (a5) w146) (fun x147 w148 => ?_)
        refine sm_iconst (2 : Int32) ii_la_law_1571 (by decide) ?_
        refine sm_csI [.ref 0, .int x147, .int (2 : Int32)] [.int (((2 : Int32) * a30) + (1 : Int32)), .int (3 : Int32), .ref 0] rfl ii_la_law_1572 ml_la_102 (mf_la_told) (mv_la_told) (Nat.le_of_ble_eq_true rfl) rfl rfl rfl (mc_la_told (x147) ((2 : Int32)) w148) (fun x149 w150 => ?_)
        refine sm_cvI [.int (3 : Int32), .int (((2 : Int32) * a30) + (1 : Int32)), .int x149] [] rfl ii_la_law_1575 ml_la_117 (mf_ho_lay) (mv_ho_lay) (Nat.le_of_ble_eq_true rfl) rfl 6 rfl rfl rfl rfl (mc_ho_lay ((3 : Int32)) ((((2 : Int32) * a30) + (1 : Int32))) (x149) w150) (fun x151 w152 => ?_)
        refine sm_iconst (1 : Int32) ii_la_law_1578 (by decide) ?_
        refine sm_icmp_eq 1584 ii_la_law_1579 (by decide) ?_ ?_
        · refine sm_iinc (a30 + (1 : Int32)) [some (.ref 999), some (.ref 0), some (.ref 62), some (.ref 63), some (.ref 64), some (.int a5), some (.int a6), some (.long a7), none, some (.int a9), some (.int a10), some (.int a11), some (.int a12), some (.int a13), none, some (.int a15), some (.int a16), some (.int a17), none, none, some (.int a20), some (.long a21), none, none, some (.int a24), none, none, none, none, some (.int a29), some (.int (a30 + (1 : Int32))), some (.int x141), none, none, none, none, none, none, none, none, none, none, none, none, none] ii_la_law_1584 rfl rfl rfl rfl ?_
          refine sm_goto 1496 ii_la_law_1587 (by decide) ?_
          refine sm_msk [true, true, true, true, true, true, true, true, false, true, true, true, true, true, false, true, true, true, false, false, true, true, false, false, true, false, false, false, false, true, true, false, false, false, false, false, false, false, false, false, false, false, false, false, false] [some (.ref 999), some (.ref 0), some (.ref 62), some (.ref 63), some (.ref 64), some (.int a5), some (.int a6), some (.long a7), none, some (.int a9), some (.int a10), some (.int a11), some (.int a12), some (.int a13), none, some (.int a15), some (.int a16), some (.int a17), none, none, some (.int a20), some (.long a21), none, none, some (.int a24), none, none, none, none, some (.int a29), some (.int (a30 + (1 : Int32))), none, none, none, none, none, none, none, none, none, none, none, none, none, none] rfl ?_
          exact hself1496 (a5) (a6) (a7) (a9) (a10) (a11) (a12) (a13) (a15) (a16) (a17) (a20) (a21) (a24) (a29) ((a30 + (1 : Int32))) w152
        · refine sm_iconst (0 : Int32) ii_la_law_1582 (by decide) ?_
          exact sm_zret1 ii_la_law_1583 rfl (by decide)
      · refine sm_iconst (0 : Int32) ii_la_law_1582 (by decide) ?_
        exact sm_zret1 ii_la_law_1583 rfl (by decide)
    · refine sm_iconst (0 : Int32) ii_la_law_1582 (by decide) ?_
      exact sm_zret1 ii_la_law_1583 rfl (by decide)
set_option maxHeartbeats 4000000 in
set_option maxRecDepth 100000 in
theorem ss_la_law_1496_f {E : Nat × (Nat → Int32)} (self68 : Int32 → Int32 → Int64 → Int32 → sm_Mem → sm_R) (hself68 : ∀ (a5 : Int32) (a6 : Int32) (a7 : Int64) (a9 : Int32) (w : sm_Mem), sm_Sim E (mi_la_law) 68 [some (.ref 999), some (.ref 0), some (.ref 62), some (.ref 63), some (.ref 64), some (.int a5), some (.int a6), some (.long a7), none, some (.int a9), none, none, none, none, none, none, none, none, none, none, none, none, none, none, none, none, none, none, none, none, none, none, none, none, none, none, none, none, none, none, none, none, none, none, none] [] w (self68 a5 a6 a7 a9 w)) : ∀ (n : Nat) (a5 : Int32) (a6 : Int32) (a7 : Int64) (a9 : Int32) (a10 : Int32) (a11 : Int32) (a12 : Int32) (a13 : Int32) (a15 : Int32) (a16 : Int32) (a17 : Int32) (a20 : Int32) (a21 : Int64) (a24 : Int32) (a29 : Int32) (a30 : Int32) (w : sm_Mem), sm_Sim E (mi_la_law) 1496 [some (.ref 999), some (.ref 0), some (.ref 62), some (.ref 63), some (.ref 64), some (.int a5), some (.int a6), some (.long a7), none, some (.int a9), some (.int a10), some (.int a11), some (.int a12), some (.int a13), none, some (.int a15), some (.int a16), some (.int a17), none, none, some (.int a20), some (.long a21), none, none, some (.int a24), none, none, none, none, some (.int a29), some (.int a30), none, none, none, none, none, none, none, none, none, none, none, none, none, none] [] w (ff_la_law_1496_f E self68 n a5 a6 a7 a9 a10 a11 a12 a13 a15 a16 a17 a20 a21 a24 a29 a30 w)
  | 0, _, _, _, _, _, _, _, _, _, _, _, _, _, _, _, _, _ => fun _ _ h => by cases h
  | n + 1, a5, a6, a7, a9, a10, a11, a12, a13, a15, a16, a17, a20, a21, a24, a29, a30, w => ss_la_law_1496_b self68 hself68 _ (ss_la_law_1496_f self68 hself68 n) a5 a6 a7 a9 a10 a11 a12 a13 a15 a16 a17 a20 a21 a24 a29 a30 w
set_option maxHeartbeats 4000000 in
set_option maxRecDepth 100000 in
theorem ss_la_law_1496 {E : Nat × (Nat → Int32)} (self68 : Int32 → Int32 → Int64 → Int32 → sm_Mem → sm_R) (hself68 : ∀ (a5 : Int32) (a6 : Int32) (a7 : Int64) (a9 : Int32) (w : sm_Mem), sm_Sim E (mi_la_law) 68 [some (.ref 999), some (.ref 0), some (.ref 62), some (.ref 63), some (.ref 64), some (.int a5), some (.int a6), some (.long a7), none, some (.int a9), none, none, none, none, none, none, none, none, none, none, none, none, none, none, none, none, none, none, none, none, none, none, none, none, none, none, none, none, none, none, none, none, none, none, none] [] w (self68 a5 a6 a7 a9 w)) (a5 : Int32) (a6 : Int32) (a7 : Int64) (a9 : Int32) (a10 : Int32) (a11 : Int32) (a12 : Int32) (a13 : Int32) (a15 : Int32) (a16 : Int32) (a17 : Int32) (a20 : Int32) (a21 : Int64) (a24 : Int32) (a29 : Int32) (a30 : Int32) (w : sm_Mem) : sm_Sim E (mi_la_law) 1496 [some (.ref 999), some (.ref 0), some (.ref 62), some (.ref 63), some (.ref 64), some (.int a5), some (.int a6), some (.long a7), none, some (.int a9), some (.int a10), some (.int a11), some (.int a12), some (.int a13), none, some (.int a15), some (.int a16), some (.int a17), none, none, some (.int a20), some (.long a21), none, none, some (.int a24), none, none, none, none, some (.int a29), some (.int a30), none, none, none, none, none, none, none, none, none, none, none, none, none, none] [] w (ff_la_law_1496 E self68 a5 a6 a7 a9 a10 a11 a12 a13 a15 a16 a17 a20 a21 a24 a29 a30 w) := ss_la_law_1496_f self68 hself68 sm_N a5 a6 a7 a9 a10 a11 a12 a13 a15 a16 a17 a20 a21 a24 a29 a30 w
noncomputable def ff_la_law_1453 (E : Nat × (Nat → Int32)) (self68 : Int32 → Int32 → Int64 → Int32 → sm_Mem → sm_R) (a5 : Int32) (a6 : Int32) (a7 : Int64) (a9 : Int32) (a10 : Int32) (a11 : Int32) (a12 : Int32) (a13 : Int32) (a15 : Int32) (a16 : Int32) (a17 : Int32) (a20 : Int32) (a21 : Int64) (a24 : Int32) (w : sm_Mem) : sm_R := (sm_cI (ff_la_low ((a10 >>> ((3 : Int32) &&& (31 : Int32)))) ((4 : Int32)) w) fun x153 w154 => (sm_cI (ff_ho_row ((3 : Int32)) (((2 : Int32) * x153)) w154) fun x155 w156 => (if x155 = ((2 : Int32) * x153) then (sm_cI (ff_ho_row ((4 : Int32)) (x153) w156) fun x157 w158 => (if x157 = x153 then ff_la_law_1496 E self68 (a5) (a6) (a7) (a9) (a10) (a11) (a12) (a13) (a15) (a16) (a17) (a20) (a21) (a24) (x153) ((0 : Int32)) w158 else (some (.int (0 : Int32), w158)))) else (some (.int (0 : Int32), w156)))))
set_option maxHeartbeats 4000000 in
set_option maxRecDepth 100000 in
theorem ss_la_law_1453 {E : Nat × (Nat → Int32)} (self68 : Int32 → Int32 → Int64 → Int32 → sm_Mem → sm_R) (hself68 : ∀ (a5 : Int32) (a6 : Int32) (a7 : Int64) (a9 : Int32) (w : sm_Mem), sm_Sim E (mi_la_law) 68 [some (.ref 999), some (.ref 0), some (.ref 62), some (.ref 63), some (.ref 64), some (.int a5), some (.int a6), some (.long a7), none, some (.int a9), none, none, none, none, none, none, none, none, none, none, none, none, none, none, none, none, none, none, none, none, none, none, none, none, none, none, none, none, none, none, none, none, none, none, none] [] w (self68 a5 a6 a7 a9 w)) (a5 : Int32) (a6 : Int32) (a7 : Int64) (a9 : Int32) (a10 : Int32) (a11 : Int32) (a12 : Int32) (a13 : Int32) (a15 : Int32) (a16 : Int32) (a17 : Int32) (a20 : Int32) (a21 : Int64) (a24 : Int32) (w : sm_Mem) : sm_Sim E (mi_la_law) 1453 [some (.ref 999), some (.ref 0), some (.ref 62), some (.ref 63), some (.ref 64), some (.int a5), some (.int a6), some (.long a7), none, some (.int a9), some (.int a10), some (.int a11), some (.int a12), some (.int a13), none, some (.int a15), some (.int a16), some (.int a17), none, none, some (.int a20), some (.long a21), none, none, some (.int a24), none, none, none, none, none, none, none, none, none, none, none, none, none, none, none, none, none, none, none, none] [] w (ff_la_law_1453 E self68 a5 a6 a7 a9 a10 a11 a12 a13 a15 a16 a17 a20 a21 a24 w) := by
  unfold ff_la_law_1453
  refine sm_iload ii_la_law_1453 rfl ?_
  refine sm_iconst (3 : Int32) ii_la_law_1455 (by decide) ?_
  refine sm_ishr ii_la_law_1456 ?_
  refine sm_iconst (4 : Int32) ii_la_law_1457 (by decide) ?_
  refine sm_csI [.int (a10 >>> ((3 : Int32) &&& (31 : Int32))), .int (4 : Int32)] [] rfl ii_la_law_1458 ml_la_15 (mf_la_low) (mv_la_low) (Nat.le_of_ble_eq_true rfl) rfl rfl rfl (mc_la_low ((a10 >>> ((3 : Int32) &&& (31 : Int32)))) ((4 : Int32)) w) (fun x153 w154 => ?_)
  refine sm_istore [some (.ref 999), some (.ref 0), some (.ref 62), some (.ref 63), some (.ref 64), some (.int a5), some (.int a6), some (.long a7), none, some (.int a9), some (.int a10), some (.int a11), some (.int a12), some (.int a13), none, some (.int a15), some (.int a16), some (.int a17), none, none, some (.int a20), some (.long a21), none, none, some (.int a24), none, none, none, none, some (.int x153), none, none, none, none, none, none, none, none, none, none, none, none, none, none, none] ii_la_law_1461 rfl rfl ?_
  refine sm_aload_n ii_la_law_1463 rfl ?_
  refine sm_iconst (3 : Int32) ii_la_law_1464 (by decide) ?_
  refine sm_iconst (2 : Int32) ii_la_law_1465 (by decide) ?_
  refine sm_iload ii_la_law_1466 rfl ?_
  refine sm_imul ii_la_law_1468 ?_
  refine sm_cvI [.int (3 : Int32), .int ((2 : Int32) * x153)] [] rfl ii_la_law_1469 ml_la_114 (mf_ho_row) (mv_ho_row) (Nat.le_of_ble_eq_true rfl) rfl 6 rfl rfl rfl rfl (mc_ho_row ((3 : Int32)) (((2 : Int32) * x153)) w154) (fun x155 w156 => ?_)
  refine sm_iconst (2 : Int32) ii_la_law_1472 (by decide) ?_
  refine sm_iload ii_la_law_1473 rfl ?_
  refine sm_imul ii_la_law_1475 ?_
  refine sm_icmp_ne 1491 ii_la_law_1476 (by decide) ?_ ?_
  · refine sm_aload_n ii_la_law_1479 rfl ?_
    refine sm_iconst (4 : Int32) ii_la_law_1480 (by decide) ?_
    refine sm_iload ii_la_law_1481 rfl ?_
    refine sm_cvI [.int (4 : Int32), .int x153] [] rfl ii_la_law_1483 ml_la_114 (mf_ho_row) (mv_ho_row) (Nat.le_of_ble_eq_true rfl) rfl 6 rfl rfl rfl rfl (mc_ho_row ((4 : Int32)) (x153) w156) (fun x157 w158 => ?_)
    refine sm_iload ii_la_law_1486 rfl ?_
    refine sm_icmp_eq 1493 ii_la_law_1488 (by decide) ?_ ?_
    · refine sm_iconst (0 : Int32) ii_la_law_1493 (by decide) ?_
      refine sm_istore [some (.ref 999), some (.ref 0), some (.ref 62), some (.ref 63), some (.ref 64), some (.int a5), some (.int a6), some (.long a7), none, some (.int a9), some (.int a10), some (.int a11), some (.int a12), some (.int a13), none, some (.int a15), some (.int a16), some (.int a17), none, none, some (.int a20), some (.long a21), none, none, some (.int a24), none, none, none, none, some (.int x153), some (.int (0 : Int32)), none, none, none, none, none, none, none, none, none, none, none, none, none, none] ii_la_law_1494 rfl rfl ?_
      exact ss_la_law_1496 self68 hself68 (a5) (a6) (a7) (a9) (a10) (a11) (a12) (a13) (a15) (a16) (a17) (a20) (a21) (a24) (x153) ((0 : Int32)) w158
    · refine sm_iconst (0 : Int32) ii_la_law_1491 (by decide) ?_
      exact sm_zret1 ii_la_law_1492 rfl (by decide)
  · refine sm_iconst (0 : Int32) ii_la_law_1491 (by decide) ?_
    exact sm_zret1 ii_la_law_1492 rfl (by decide)
noncomputable def ff_la_law_1421 (E : Nat × (Nat → Int32)) (self68 : Int32 → Int32 → Int64 → Int32 → sm_Mem → sm_R) (a5 : Int32) (a6 : Int32) (a7 : Int64) (a9 : Int32) (a10 : Int32) (a11 : Int32) (a12 : Int32) (a13 : Int32) (a15 : Int32) (a16 : Int32) (a17 : Int32) (a20 : Int32) (a21 : Int64) (a24 : Int32) (a29 : Int32) (w : sm_Mem) : sm_R := (sm_cI (ff_ho_ways ((2 : Int32)) w) fun x159 w160 => (if x159 = (1 : Int32) then (sm_cL (ff_ho_upper  w160) fun x161 w162 => (if (lg_cmp x161 (1 : Int64)) < (0 : Int32) then (some (.int (0 : Int32), w162)) else (sm_cI (ff_ho_at ((2 : Int32)) (a29) w162) fun x163 w164 => (if x163 = (-3 : Int32) then ff_la_law_1453 E self68 (a5) (a6) (a7) (a9) (a10) (a11) (a12) (a13) (a15) (a16) (a17) (a20) (a21) (a24) w164 else (some (.int (0 : Int32), w164)))))) else (some (.int (0 : Int32), w160))))
set_option maxHeartbeats 4000000 in
set_option maxRecDepth 100000 in
theorem ss_la_law_1421 {E : Nat × (Nat → Int32)} (self68 : Int32 → Int32 → Int64 → Int32 → sm_Mem → sm_R) (hself68 : ∀ (a5 : Int32) (a6 : Int32) (a7 : Int64) (a9 : Int32) (w : sm_Mem), sm_Sim E (mi_la_law) 68 [some (.ref 999), some (.ref 0), some (.ref 62), some (.ref 63), some (.ref 64), some (.int a5), some (.int a6), some (.long a7), none, some (.int a9), none, none, none, none, none, none, none, none, none, none, none, none, none, none, none, none, none, none, none, none, none, none, none, none, none, none, none, none, none, none, none, none, none, none, none] [] w (self68 a5 a6 a7 a9 w)) (a5 : Int32) (a6 : Int32) (a7 : Int64) (a9 : Int32) (a10 : Int32) (a11 : Int32) (a12 : Int32) (a13 : Int32) (a15 : Int32) (a16 : Int32) (a17 : Int32) (a20 : Int32) (a21 : Int64) (a24 : Int32) (a29 : Int32) (w : sm_Mem) : sm_Sim E (mi_la_law) 1421 [some (.ref 999), some (.ref 0), some (.ref 62), some (.ref 63), some (.ref 64), some (.int a5), some (.int a6), some (.long a7), none, some (.int a9), some (.int a10), some (.int a11), some (.int a12), some (.int a13), none, some (.int a15), some (.int a16), some (.int a17), none, none, some (.int a20), some (.long a21), none, none, some (.int a24), none, none, none, none, some (.int a29), none, none, none, none, none, none, none, none, none, none, none, none, none, none, none] [] w (ff_la_law_1421 E self68 a5 a6 a7 a9 a10 a11 a12 a13 a15 a16 a17 a20 a21 a24 a29 w) := by
  unfold ff_la_law_1421
  refine sm_aload_n ii_la_law_1421 rfl ?_
  refine sm_iconst (2 : Int32) ii_la_law_1422 (by decide) ?_
  refine sm_cvI [.int (2 : Int32)] [] rfl ii_la_law_1423 ml_la_120 (mf_ho_ways) (mv_ho_ways) (Nat.le_of_ble_eq_true rfl) rfl 6 rfl rfl rfl rfl (mc_ho_ways ((2 : Int32)) w) (fun x159 w160 => ?_)
  refine sm_iconst (1 : Int32) ii_la_law_1426 (by decide) ?_
  refine sm_icmp_ne 1451 ii_la_law_1427 (by decide) ?_ ?_
  · refine sm_aload_n ii_la_law_1430 rfl ?_
    refine sm_cvL [] [] rfl ii_la_law_1431 ml_la_123 (mf_ho_upper) (mv_ho_upper) (Nat.le_of_ble_eq_true rfl) rfl 6 rfl rfl rfl rfl (mc_ho_upper  w160) (fun x161 w162 => ?_)
    refine sm_lconst (1 : Int64) ii_la_law_1434 (by decide) ?_
    refine sm_lcmp ii_la_law_1435 ?_
    refine sm_if_lt 1451 ii_la_law_1436 (by decide) ?_ ?_
    · refine sm_iconst (0 : Int32) ii_la_law_1451 (by decide) ?_
      exact sm_zret1 ii_la_law_1452 rfl (by decide)
    · refine sm_aload_n ii_la_law_1439 rfl ?_
      refine sm_iconst (2 : Int32) ii_la_law_1440 (by decide) ?_
      refine sm_iload ii_la_law_1441 rfl ?_
      refine sm_cvI [.int (2 : Int32), .int a29] [] rfl ii_la_law_1443 ml_la_137 (mf_ho_at) (mv_ho_at) (Nat.le_of_ble_eq_true rfl) rfl 6 rfl rfl rfl rfl (mc_ho_at ((2 : Int32)) (a29) w162) (fun x163 w164 => ?_)
      refine sm_bipush (-3 : Int32) ii_la_law_1446 (by decide) ?_
      refine sm_icmp_eq 1453 ii_la_law_1448 (by decide) ?_ ?_
      · refine sm_msk [true, true, true, true, true, true, true, true, false, true, true, true, true, true, false, true, true, true, false, false, true, true, false, false, true, false, false, false, false, false, false, false, false, false, false, false, false, false, false, false, false, false, false, false, false] [some (.ref 999), some (.ref 0), some (.ref 62), some (.ref 63), some (.ref 64), some (.int a5), some (.int a6), some (.long a7), none, some (.int a9), some (.int a10), some (.int a11), some (.int a12), some (.int a13), none, some (.int a15), some (.int a16), some (.int a17), none, none, some (.int a20), some (.long a21), none, none, some (.int a24), none, none, none, none, none, none, none, none, none, none, none, none, none, none, none, none, none, none, none, none] rfl ?_
        exact ss_la_law_1453 self68 hself68 (a5) (a6) (a7) (a9) (a10) (a11) (a12) (a13) (a15) (a16) (a17) (a20) (a21) (a24) w164
      · refine sm_iconst (0 : Int32) ii_la_law_1451 (by decide) ?_
        exact sm_zret1 ii_la_law_1452 rfl (by decide)
  · refine sm_iconst (0 : Int32) ii_la_law_1451 (by decide) ?_
    exact sm_zret1 ii_la_law_1452 rfl (by decide)
noncomputable def ff_la_law_1407 (E : Nat × (Nat → Int32)) (self68 : Int32 → Int32 → Int64 → Int32 → sm_Mem → sm_R) (a5 : Int32) (a6 : Int32) (a7 : Int64) (a9 : Int32) (a10 : Int32) (a11 : Int32) (a12 : Int32) (a13 : Int32) (a15 : Int32) (a16 : Int32) (a17 : Int32) (a20 : Int32) (a21 : Int64) (a24 : Int32) (a27 : Int32) (a29 : Int32) (w : sm_Mem) : sm_R := (if a27 ≤ (0 : Int32) then ff_la_law_1421 E self68 (a5) (a6) (a7) (a9) (a10) (a11) (a12) (a13) (a15) (a16) (a17) (a20) (a21) (a24) (a29) w else (if a29 < (a27 - (1 : Int32)) then (some (.int (0 : Int32), w)) else ff_la_law_1421 E self68 (a5) (a6) (a7) (a9) (a10) (a11) (a12) (a13) (a15) (a16) (a17) (a20) (a21) (a24) (a29) w))
set_option maxHeartbeats 4000000 in
set_option maxRecDepth 100000 in
theorem ss_la_law_1407 {E : Nat × (Nat → Int32)} (self68 : Int32 → Int32 → Int64 → Int32 → sm_Mem → sm_R) (hself68 : ∀ (a5 : Int32) (a6 : Int32) (a7 : Int64) (a9 : Int32) (w : sm_Mem), sm_Sim E (mi_la_law) 68 [some (.ref 999), some (.ref 0), some (.ref 62), some (.ref 63), some (.ref 64), some (.int a5), some (.int a6), some (.long a7), none, some (.int a9), none, none, none, none, none, none, none, none, none, none, none, none, none, none, none, none, none, none, none, none, none, none, none, none, none, none, none, none, none, none, none, none, none, none, none] [] w (self68 a5 a6 a7 a9 w)) (a5 : Int32) (a6 : Int32) (a7 : Int64) (a9 : Int32) (a10 : Int32) (a11 : Int32) (a12 : Int32) (a13 : Int32) (a15 : Int32) (a16 : Int32) (a17 : Int32) (a20 : Int32) (a21 : Int64) (a24 : Int32) (a27 : Int32) (a29 : Int32) (w : sm_Mem) : sm_Sim E (mi_la_law) 1407 [some (.ref 999), some (.ref 0), some (.ref 62), some (.ref 63), some (.ref 64), some (.int a5), some (.int a6), some (.long a7), none, some (.int a9), some (.int a10), some (.int a11), some (.int a12), some (.int a13), none, some (.int a15), some (.int a16), some (.int a17), none, none, some (.int a20), some (.long a21), none, none, some (.int a24), none, none, some (.int a27), none, some (.int a29), none, none, none, none, none, none, none, none, none, none, none, none, none, none, none] [] w (ff_la_law_1407 E self68 a5 a6 a7 a9 a10 a11 a12 a13 a15 a16 a17 a20 a21 a24 a27 a29 w) := by
  unfold ff_la_law_1407
  refine sm_iload ii_la_law_1407 rfl ?_
  refine sm_if_le 1421 ii_la_law_1409 (by decide) ?_ ?_
  · refine sm_msk [true, true, true, true, true, true, true, true, false, true, true, true, true, true, false, true, true, true, false, false, true, true, false, false, true, false, false, false, false, true, false, false, false, false, false, false, false, false, false, false, false, false, false, false, false] [some (.ref 999), some (.ref 0), some (.ref 62), some (.ref 63), some (.ref 64), some (.int a5), some (.int a6), some (.long a7), none, some (.int a9), some (.int a10), some (.int a11), some (.int a12), some (.int a13), none, some (.int a15), some (.int a16), some (.int a17), none, none, some (.int a20), some (.long a21), none, none, some (.int a24), none, none, none, none, some (.int a29), none, none, none, none, none, none, none, none, none, none, none, none, none, none, none] rfl ?_
    exact ss_la_law_1421 self68 hself68 (a5) (a6) (a7) (a9) (a10) (a11) (a12) (a13) (a15) (a16) (a17) (a20) (a21) (a24) (a29) w
  · refine sm_iload ii_la_law_1412 rfl ?_
    refine sm_iload ii_la_law_1414 rfl ?_
    refine sm_iconst (1 : Int32) ii_la_law_1416 (by decide) ?_
    refine sm_isub ii_la_law_1417 ?_
    refine sm_icmp_lt 1451 ii_la_law_1418 (by decide) ?_ ?_
    · refine sm_iconst (0 : Int32) ii_la_law_1451 (by decide) ?_
      exact sm_zret1 ii_la_law_1452 rfl (by decide)
    · refine sm_msk [true, true, true, true, true, true, true, true, false, true, true, true, true, true, false, true, true, true, false, false, true, true, false, false, true, false, false, false, false, true, false, false, false, false, false, false, false, false, false, false, false, false, false, false, false] [some (.ref 999), some (.ref 0), some (.ref 62), some (.ref 63), some (.ref 64), some (.int a5), some (.int a6), some (.long a7), none, some (.int a9), some (.int a10), some (.int a11), some (.int a12), some (.int a13), none, some (.int a15), some (.int a16), some (.int a17), none, none, some (.int a20), some (.long a21), none, none, some (.int a24), none, none, none, none, some (.int a29), none, none, none, none, none, none, none, none, none, none, none, none, none, none, none] rfl ?_
      exact ss_la_law_1421 self68 hself68 (a5) (a6) (a7) (a9) (a10) (a11) (a12) (a13) (a15) (a16) (a17) (a20) (a21) (a24) (a29) w
noncomputable def ff_la_law_1391 (E : Nat × (Nat → Int32)) (self68 : Int32 → Int32 → Int64 → Int32 → sm_Mem → sm_R) (a5 : Int32) (a6 : Int32) (a7 : Int64) (a9 : Int32) (a10 : Int32) (a11 : Int32) (a12 : Int32) (a13 : Int32) (a15 : Int32) (a16 : Int32) (a17 : Int32) (a20 : Int32) (a21 : Int64) (a24 : Int32) (a27 : Int32) (a29 : Int32) (b0 : Int32) (b1 : Int32) (w : sm_Mem) : sm_R := (if b0 = b1 then (if a27 = (-9 : Int32) then (if a29 < (3 : Int32) then (some (.int (0 : Int32), w)) else ff_la_law_1407 E self68 (a5) (a6) (a7) (a9) (a10) (a11) (a12) (a13) (a15) (a16) (a17) (a20) (a21) (a24) (a27) (a29) w) else ff_la_law_1407 E self68 (a5) (a6) (a7) (a9) (a10) (a11) (a12) (a13) (a15) (a16) (a17) (a20) (a21) (a24) (a27) (a29) w) else (some (.int (0 : Int32), w)))
set_option maxHeartbeats 4000000 in
set_option maxRecDepth 100000 in
theorem ss_la_law_1391 {E : Nat × (Nat → Int32)} (self68 : Int32 → Int32 → Int64 → Int32 → sm_Mem → sm_R) (hself68 : ∀ (a5 : Int32) (a6 : Int32) (a7 : Int64) (a9 : Int32) (w : sm_Mem), sm_Sim E (mi_la_law) 68 [some (.ref 999), some (.ref 0), some (.ref 62), some (.ref 63), some (.ref 64), some (.int a5), some (.int a6), some (.long a7), none, some (.int a9), none, none, none, none, none, none, none, none, none, none, none, none, none, none, none, none, none, none, none, none, none, none, none, none, none, none, none, none, none, none, none, none, none, none, none] [] w (self68 a5 a6 a7 a9 w)) (a5 : Int32) (a6 : Int32) (a7 : Int64) (a9 : Int32) (a10 : Int32) (a11 : Int32) (a12 : Int32) (a13 : Int32) (a15 : Int32) (a16 : Int32) (a17 : Int32) (a20 : Int32) (a21 : Int64) (a24 : Int32) (a27 : Int32) (a29 : Int32) (b0 : Int32) (b1 : Int32) (w : sm_Mem) : sm_Sim E (mi_la_law) 1391 [some (.ref 999), some (.ref 0), some (.ref 62), some (.ref 63), some (.ref 64), some (.int a5), some (.int a6), some (.long a7), none, some (.int a9), some (.int a10), some (.int a11), some (.int a12), some (.int a13), none, some (.int a15), some (.int a16), some (.int a17), none, none, some (.int a20), some (.long a21), none, none, some (.int a24), none, none, some (.int a27), none, some (.int a29), none, none, none, none, none, none, none, none, none, none, none, none, none, none, none] [.int b1, .int b0] w (ff_la_law_1391 E self68 a5 a6 a7 a9 a10 a11 a12 a13 a15 a16 a17 a20 a21 a24 a27 a29 b0 b1 w) := by
  unfold ff_la_law_1391
  refine sm_icmp_ne 1451 ii_la_law_1391 (by decide) ?_ ?_
  · refine sm_iload ii_la_law_1394 rfl ?_
    refine sm_bipush (-9 : Int32) ii_la_law_1396 (by decide) ?_
    refine sm_icmp_ne 1407 ii_la_law_1398 (by decide) ?_ ?_
    · refine sm_iload ii_la_law_1401 rfl ?_
      refine sm_iconst (3 : Int32) ii_la_law_1403 (by decide) ?_
      refine sm_icmp_lt 1451 ii_la_law_1404 (by decide) ?_ ?_
      · refine sm_iconst (0 : Int32) ii_la_law_1451 (by decide) ?_
        exact sm_zret1 ii_la_law_1452 rfl (by decide)
      · exact ss_la_law_1407 self68 hself68 (a5) (a6) (a7) (a9) (a10) (a11) (a12) (a13) (a15) (a16) (a17) (a20) (a21) (a24) (a27) (a29) w
    · exact ss_la_law_1407 self68 hself68 (a5) (a6) (a7) (a9) (a10) (a11) (a12) (a13) (a15) (a16) (a17) (a20) (a21) (a24) (a27) (a29) w
  · refine sm_iconst (0 : Int32) ii_la_law_1451 (by decide) ?_
    exact sm_zret1 ii_la_law_1452 rfl (by decide)
noncomputable def ff_la_law_1381 (E : Nat × (Nat → Int32)) (self68 : Int32 → Int32 → Int64 → Int32 → sm_Mem → sm_R) (a5 : Int32) (a6 : Int32) (a7 : Int64) (a9 : Int32) (a10 : Int32) (a11 : Int32) (a12 : Int32) (a13 : Int32) (a15 : Int32) (a16 : Int32) (a17 : Int32) (a20 : Int32) (a21 : Int64) (a24 : Int32) (a27 : Int32) (a29 : Int32) (b0 : Int32) (w : sm_Mem) : sm_R := (if a16 = (0 : Int32) then ff_la_law_1391 E self68 (a5) (a6) (a7) (a9) (a10) (a11) (a12) (a13) (a15) (a16) (a17) (a20) (a21) (a24) (a27) (a29) (b0) ((1 : Int32)) w else ff_la_law_1391 E self68 (a5) (a6) (a7) (a9) (a10) (a11) (a12) (a13) (a15) (a16) (a17) (a20) (a21) (a24) (a27) (a29) (b0) ((0 : Int32)) w)
set_option maxHeartbeats 4000000 in
set_option maxRecDepth 100000 in
theorem ss_la_law_1381 {E : Nat × (Nat → Int32)} (self68 : Int32 → Int32 → Int64 → Int32 → sm_Mem → sm_R) (hself68 : ∀ (a5 : Int32) (a6 : Int32) (a7 : Int64) (a9 : Int32) (w : sm_Mem), sm_Sim E (mi_la_law) 68 [some (.ref 999), some (.ref 0), some (.ref 62), some (.ref 63), some (.ref 64), some (.int a5), some (.int a6), some (.long a7), none, some (.int a9), none, none, none, none, none, none, none, none, none, none, none, none, none, none, none, none, none, none, none, none, none, none, none, none, none, none, none, none, none, none, none, none, none, none, none] [] w (self68 a5 a6 a7 a9 w)) (a5 : Int32) (a6 : Int32) (a7 : Int64) (a9 : Int32) (a10 : Int32) (a11 : Int32) (a12 : Int32) (a13 : Int32) (a15 : Int32) (a16 : Int32) (a17 : Int32) (a20 : Int32) (a21 : Int64) (a24 : Int32) (a27 : Int32) (a29 : Int32) (b0 : Int32) (w : sm_Mem) : sm_Sim E (mi_la_law) 1381 [some (.ref 999), some (.ref 0), some (.ref 62), some (.ref 63), some (.ref 64), some (.int a5), some (.int a6), some (.long a7), none, some (.int a9), some (.int a10), some (.int a11), some (.int a12), some (.int a13), none, some (.int a15), some (.int a16), some (.int a17), none, none, some (.int a20), some (.long a21), none, none, some (.int a24), none, none, some (.int a27), none, some (.int a29), none, none, none, none, none, none, none, none, none, none, none, none, none, none, none] [.int b0] w (ff_la_law_1381 E self68 a5 a6 a7 a9 a10 a11 a12 a13 a15 a16 a17 a20 a21 a24 a27 a29 b0 w) := by
  unfold ff_la_law_1381
  refine sm_iload ii_la_law_1381 rfl ?_
  refine sm_if_ne 1390 ii_la_law_1383 (by decide) ?_ ?_
  · refine sm_iconst (1 : Int32) ii_la_law_1386 (by decide) ?_
    refine sm_goto 1391 ii_la_law_1387 (by decide) ?_
    exact ss_la_law_1391 self68 hself68 (a5) (a6) (a7) (a9) (a10) (a11) (a12) (a13) (a15) (a16) (a17) (a20) (a21) (a24) (a27) (a29) (b0) ((1 : Int32)) w
  · refine sm_iconst (0 : Int32) ii_la_law_1390 (by decide) ?_
    exact ss_la_law_1391 self68 hself68 (a5) (a6) (a7) (a9) (a10) (a11) (a12) (a13) (a15) (a16) (a17) (a20) (a21) (a24) (a27) (a29) (b0) ((0 : Int32)) w
noncomputable def ff_la_law_1348 (E : Nat × (Nat → Int32)) (self68 : Int32 → Int32 → Int64 → Int32 → sm_Mem → sm_R) (a5 : Int32) (a6 : Int32) (a7 : Int64) (a9 : Int32) (a10 : Int32) (a11 : Int32) (a12 : Int32) (a13 : Int32) (a15 : Int32) (a16 : Int32) (a17 : Int32) (a20 : Int32) (a21 : Int64) (a24 : Int32) (a27 : Int32) (w : sm_Mem) : sm_R := (if a9 = (0 : Int32) then (sm_cI (ff_ho_longest ((2 : Int32)) w) fun x165 w166 => (if x165 < (0 : Int32) then (some (.int (0 : Int32), w166)) else (if (4 : Int32) < x165 then (some (.int (0 : Int32), w166)) else (if x165 = (0 : Int32) then ff_la_law_1381 E self68 (a5) (a6) (a7) (a9) (a10) (a11) (a12) (a13) (a15) (a16) (a17) (a20) (a21) (a24) (a27) (x165) ((1 : Int32)) w166 else ff_la_law_1381 E self68 (a5) (a6) (a7) (a9) (a10) (a11) (a12) (a13) (a15) (a16) (a17) (a20) (a21) (a24) (a27) (x165) ((0 : Int32)) w166)))) else ff_la_law_1453 E self68 (a5) (a6) (a7) (a9) (a10) (a11) (a12) (a13) (a15) (a16) (a17) (a20) (a21) (a24) w)
set_option maxHeartbeats 4000000 in
set_option maxRecDepth 100000 in
theorem ss_la_law_1348 {E : Nat × (Nat → Int32)} (self68 : Int32 → Int32 → Int64 → Int32 → sm_Mem → sm_R) (hself68 : ∀ (a5 : Int32) (a6 : Int32) (a7 : Int64) (a9 : Int32) (w : sm_Mem), sm_Sim E (mi_la_law) 68 [some (.ref 999), some (.ref 0), some (.ref 62), some (.ref 63), some (.ref 64), some (.int a5), some (.int a6), some (.long a7), none, some (.int a9), none, none, none, none, none, none, none, none, none, none, none, none, none, none, none, none, none, none, none, none, none, none, none, none, none, none, none, none, none, none, none, none, none, none, none] [] w (self68 a5 a6 a7 a9 w)) (a5 : Int32) (a6 : Int32) (a7 : Int64) (a9 : Int32) (a10 : Int32) (a11 : Int32) (a12 : Int32) (a13 : Int32) (a15 : Int32) (a16 : Int32) (a17 : Int32) (a20 : Int32) (a21 : Int64) (a24 : Int32) (a27 : Int32) (w : sm_Mem) : sm_Sim E (mi_la_law) 1348 [some (.ref 999), some (.ref 0), some (.ref 62), some (.ref 63), some (.ref 64), some (.int a5), some (.int a6), some (.long a7), none, some (.int a9), some (.int a10), some (.int a11), some (.int a12), some (.int a13), none, some (.int a15), some (.int a16), some (.int a17), none, none, some (.int a20), some (.long a21), none, none, some (.int a24), none, none, some (.int a27), none, none, none, none, none, none, none, none, none, none, none, none, none, none, none, none, none] [] w (ff_la_law_1348 E self68 a5 a6 a7 a9 a10 a11 a12 a13 a15 a16 a17 a20 a21 a24 a27 w) := by
  unfold ff_la_law_1348
  refine sm_iload ii_la_law_1348 rfl ?_
  refine sm_if_ne 1453 ii_la_law_1350 (by decide) ?_ ?_
  · refine sm_aload_n ii_la_law_1353 rfl ?_
    refine sm_iconst (2 : Int32) ii_la_law_1354 (by decide) ?_
    refine sm_cvI [.int (2 : Int32)] [] rfl ii_la_law_1355 ml_la_147 (mf_ho_longest) (mv_ho_longest) (Nat.le_of_ble_eq_true rfl) rfl 6 rfl rfl rfl rfl (mc_ho_longest ((2 : Int32)) w) (fun x165 w166 => ?_)
    refine sm_istore [some (.ref 999), some (.ref 0), some (.ref 62), some (.ref 63), some (.ref 64), some (.int a5), some (.int a6), some (.long a7), none, some (.int a9), some (.int a10), some (.int a11), some (.int a12), some (.int a13), none, some (.int a15), some (.int a16), some (.int a17), none, none, some (.int a20), some (.long a21), none, none, some (.int a24), none, none, some (.int a27), none, some (.int x165), none, none, none, none, none, none, none, none, none, none, none, none, none, none, none] ii_la_law_1358 rfl rfl ?_
    refine sm_iload ii_la_law_1360 rfl ?_
    refine sm_if_lt 1451 ii_la_law_1362 (by decide) ?_ ?_
    · refine sm_iconst (0 : Int32) ii_la_law_1451 (by decide) ?_
      exact sm_zret1 ii_la_law_1452 rfl (by decide)
    · refine sm_iload ii_la_law_1365 rfl ?_
      refine sm_iconst (4 : Int32) ii_la_law_1367 (by decide) ?_
      refine sm_icmp_gt 1451 ii_la_law_1368 (by decide) ?_ ?_
      · refine sm_iconst (0 : Int32) ii_la_law_1451 (by decide) ?_
        exact sm_zret1 ii_la_law_1452 rfl (by decide)
      · refine sm_iload ii_la_law_1371 rfl ?_
        refine sm_if_ne 1380 ii_la_law_1373 (by decide) ?_ ?_
        · refine sm_iconst (1 : Int32) ii_la_law_1376 (by decide) ?_
          refine sm_goto 1381 ii_la_law_1377 (by decide) ?_
          exact ss_la_law_1381 self68 hself68 (a5) (a6) (a7) (a9) (a10) (a11) (a12) (a13) (a15) (a16) (a17) (a20) (a21) (a24) (a27) (x165) ((1 : Int32)) w166
        · refine sm_iconst (0 : Int32) ii_la_law_1380 (by decide) ?_
          exact ss_la_law_1381 self68 hself68 (a5) (a6) (a7) (a9) (a10) (a11) (a12) (a13) (a15) (a16) (a17) (a20) (a21) (a24) (a27) (x165) ((0 : Int32)) w166
  · refine sm_msk [true, true, true, true, true, true, true, true, false, true, true, true, true, true, false, true, true, true, false, false, true, true, false, false, true, false, false, false, false, false, false, false, false, false, false, false, false, false, false, false, false, false, false, false, false] [some (.ref 999), some (.ref 0), some (.ref 62), some (.ref 63), some (.ref 64), some (.int a5), some (.int a6), some (.long a7), none, some (.int a9), some (.int a10), some (.int a11), some (.int a12), some (.int a13), none, some (.int a15), some (.int a16), some (.int a17), none, none, some (.int a20), some (.long a21), none, none, some (.int a24), none, none, none, none, none, none, none, none, none, none, none, none, none, none, none, none, none, none, none, none] rfl ?_
    exact ss_la_law_1453 self68 hself68 (a5) (a6) (a7) (a9) (a10) (a11) (a12) (a13) (a15) (a16) (a17) (a20) (a21) (a24) w
noncomputable def ff_la_law_1267_b (E : Nat × (Nat → Int32)) (self68 : Int32 → Int32 → Int64 → Int32 → sm_Mem → sm_R) (self1267 : Int32 → Int32 → Int64 → Int32 → Int32 → Int32 → Int32 → Int32 → Int32 → Int32 → Int32 → Int32 → Int64 → Int32 → Int32 → Int32 → Int32 → Int32 → sm_Mem → sm_R) (a5 : Int32) (a6 : Int32) (a7 : Int64) (a9 : Int32) (a10 : Int32) (a11 : Int32) (a12 : Int32) (a13 : Int32) (a15 : Int32) (a16 : Int32) (a17 : Int32) (a20 : Int32) (a21 : Int64) (a24 : Int32) (a27 : Int32) (a28 : Int32) (a29 : Int32) (a30 : Int32) (w : sm_Mem) : sm_R := (if a30 < (0 : Int32) then (if a29 = (0 : Int32) then (if a28 < (0 : Int32) then (some (.int (0 : Int32), w)) else (sm_cI (ff_ho_row ((2 : Int32)) (a27) w) fun x167 w168 => (if x167 = a27 then (sm_cI (ff_la_laid (a27) w168) fun x169 w170 => (if x169 = (0 : Int32) then (some (.int (0 : Int32), w170)) else (sm_cI (ff_ho_ways ((2 : Int32)) w170) fun x171 w172 => (if x171 = (1 : Int32) then (sm_cL (ff_ho_upper  w172) fun x173 w174 => (if (lg_cmp x173 (0 : Int64)) = (0 : Int32) then ff_la_law_1348 E self68 (a5) (a6) (a7) (a9) (a10) (a11) (a12) (a13) (a15) (a16) (a17) (a20) (a21) (a24) (a27) w174 else (some (.int (0 : Int32), w174)))) else (some (.int (0 : Int32), w172)))))) else (some (.int (0 : Int32), w168))))) else (some (.int (0 : Int32), w))) else (if (6 : Int32) = (0 : Int32) then none else (Option.bind (sm_wr w 64 8 a30 (a29 - a29 / (6 : Int32) * (6 : Int32))) fun w176 => (if (6 : Int32) = (0 : Int32) then none else self1267 (a5) (a6) (a7) (a9) (a10) (a11) (a12) (a13) (a15) (a16) (a17) (a20) (a21) (a24) (a27) (a28) ((a29 / (6 : Int32))) ((a30 + (-1 : Int32))) w176))))
noncomputable def ff_la_law_1267_f (E : Nat × (Nat → Int32)) (self68 : Int32 → Int32 → Int64 → Int32 → sm_Mem → sm_R) : Nat → Int32 → Int32 → Int64 → Int32 → Int32 → Int32 → Int32 → Int32 → Int32 → Int32 → Int32 → Int32 → Int64 → Int32 → Int32 → Int32 → Int32 → Int32 → sm_Mem → sm_R
  | 0, _, _, _, _, _, _, _, _, _, _, _, _, _, _, _, _, _, _, _ => none
  | n + 1, a5, a6, a7, a9, a10, a11, a12, a13, a15, a16, a17, a20, a21, a24, a27, a28, a29, a30, w => ff_la_law_1267_b E self68 (ff_la_law_1267_f E self68 n) a5 a6 a7 a9 a10 a11 a12 a13 a15 a16 a17 a20 a21 a24 a27 a28 a29 a30 w
noncomputable def ff_la_law_1267 (E : Nat × (Nat → Int32)) (self68 : Int32 → Int32 → Int64 → Int32 → sm_Mem → sm_R) (a5 : Int32) (a6 : Int32) (a7 : Int64) (a9 : Int32) (a10 : Int32) (a11 : Int32) (a12 : Int32) (a13 : Int32) (a15 : Int32) (a16 : Int32) (a17 : Int32) (a20 : Int32) (a21 : Int64) (a24 : Int32) (a27 : Int32) (a28 : Int32) (a29 : Int32) (a30 : Int32) (w : sm_Mem) : sm_R := ff_la_law_1267_f E self68 sm_N a5 a6 a7 a9 a10 a11 a12 a13 a15 a16 a17 a20 a21 a24 a27 a28 a29 a30 w
set_option maxHeartbeats 4000000 in
set_option maxRecDepth 100000 in
theorem ss_la_law_1267_b {E : Nat × (Nat → Int32)} (self68 : Int32 → Int32 → Int64 → Int32 → sm_Mem → sm_R) (hself68 : ∀ (a5 : Int32) (a6 : Int32) (a7 : Int64) (a9 : Int32) (w : sm_Mem), sm_Sim E (mi_la_law) 68 [some (.ref 999), some (.ref 0), some (.ref 62), some (.ref 63), some (.ref 64), some (.int a5), some (.int a6), some (.long a7), none, some (.int a9), none, none, none, none, none, none, none, none, none, none, none, none, none, none, none, none, none, none, none, none, none, none, none, none, none, none, none, none, none, none, none, none, none, none, none] [] w (self68 a5 a6 a7 a9 w)) (self1267 : Int32 → Int32 → Int64 → Int32 → Int32 → Int32 → Int32 → Int32 → Int32 → Int32 → Int32 → Int32 → Int64 → Int32 → Int32 → Int32 → Int32 → Int32 → sm_Mem → sm_R) (hself1267 : ∀ (a5 : Int32) (a6 : Int32) (a7 : Int64) (a9 : Int32) (a10 : Int32) (a11 : Int32) (a12 : Int32) (a13 : Int32) (a15 : Int32) (a16 : Int32) (a17 : Int32) (a20 : Int32) (a21 : Int64) (a24 : Int32) (a27 : Int32) (a28 : Int32) (a29 : Int32) (a30 : Int32) (w : sm_Mem), sm_Sim E (mi_la_law) 1267 [some (.ref 999), some (.ref 0), some (.ref 62), some (.ref 63), some (.ref 64), some (.int a5), some (.int a6), some (.long a7), none, some (.int a9), some (.int a10), some (.int a11), some (.int a12), some (.int a13), none, some (.int a15), some (.int a16), some (.int a17), none, none, some (.int a20), some (.long a21), none, none, some (.int a24), none, none, some (.int a27), some (.int a28), some (.int a29), some (.int a30), none, none, none, none, none, none, none, none, none, none, none, none, none, none] [] w (self1267 a5 a6 a7 a9 a10 a11 a12 a13 a15 a16 a17 a20 a21 a24 a27 a28 a29 a30 w)) (a5 : Int32) (a6 : Int32) (a7 : Int64) (a9 : Int32) (a10 : Int32) (a11 : Int32) (a12 : Int32) (a13 : Int32) (a15 : Int32) (a16 : Int32) (a17 : Int32) (a20 : Int32) (a21 : Int64) (a24 : Int32) (a27 : Int32) (a28 : Int32) (a29 : Int32) (a30 : Int32) (w : sm_Mem) : sm_Sim E (mi_la_law) 1267 [some (.ref 999), some (.ref 0), some (.ref 62), some (.ref 63), some (.ref 64), some (.int a5), some (.int a6), some (.long a7), none, some (.int a9), some (.int a10), some (.int a11), some (.int a12), some (.int a13), none, some (.int a15), some (.int a16), some (.int a17), none, none, some (.int a20), some (.long a21), none, none, some (.int a24), none, none, some (.int a27), some (.int a28), some (.int a29), some (.int a30), none, none, none, none, none, none, none, none, none, none, none, none, none, none] [] w (ff_la_law_1267_b E self68 self1267 a5 a6 a7 a9 a10 a11 a12 a13 a15 a16 a17 a20 a21 a24 a27 a28 a29 a30 w) := by
  unfold ff_la_law_1267_b
  refine sm_iload ii_la_law_1267 rfl ?_
  refine sm_if_lt 1295 ii_la_law_1269 (by decide) ?_ ?_
  · refine sm_iload ii_la_law_1295 rfl ?_
    refine sm_if_ne 1346 ii_la_law_1297 (by decide) ?_ ?_
    · refine sm_iload ii_la_law_1300 rfl ?_
      refine sm_if_lt 1346 ii_la_law_1302 (by decide) ?_ ?_
      · refine sm_iconst (0 : Int32) ii_la_law_1346 (by decide) ?_
        exact sm_zret1 ii_la_law_1347 rfl (by decide)
      · refine sm_aload_n ii_la_law_1305 rfl ?_
        refine sm_iconst (2 : Int32) ii_la_law_1306 (by decide) ?_
        refine sm_iload ii_la_law_1307 rfl ?_
        refine sm_cvI [.int (2 : Int32), .int a27] [] rfl ii_la_law_1309 ml_la_114 (mf_ho_row) (mv_ho_row) (Nat.le_of_ble_eq_true rfl) rfl 6 rfl rfl rfl rfl (mc_ho_row ((2 : Int32)) (a27) w) (fun x167 w168 => ?_)
        refine sm_iload ii_la_law_1312 rfl ?_
        refine sm_icmp_ne 1346 ii_la_law_1314 (by decide) ?_ ?_
        · refine sm_aload_n ii_la_law_1317 rfl ?_
          refine sm_aload ii_la_law_1318 rfl ?_
          refine sm_iload ii_la_law_1320 rfl ?_
          refine sm_csI [.ref 0, .ref 64, .int a27] [] rfl ii_la_law_1322 ml_la_140 (mf_la_laid) (mv_la_laid) (Nat.le_of_ble_eq_true rfl) rfl rfl rfl (mc_la_laid (a27) w168) (fun x169 w170 => ?_)
          refine sm_if_eq 1346 ii_la_law_1325 (by decide) ?_ ?_
          · refine sm_iconst (0 : Int32) ii_la_law_1346 (by decide) ?_
            exact sm_zret1 ii_la_law_1347 rfl (by decide)
          · refine sm_aload_n ii_la_law_1328 rfl ?_
            refine sm_iconst (2 : Int32) ii_la_law_1329 (by decide) ?_
            refine sm_cvI [.int (2 : Int32)] [] rfl ii_la_law_1330 ml_la_120 (mf_ho_ways) (mv_ho_ways) (Nat.le_of_ble_eq_true rfl) rfl 6 rfl rfl rfl rfl (mc_ho_ways ((2 : Int32)) w170) (fun x171 w172 => ?_)
            refine sm_iconst (1 : Int32) ii_la_law_1333 (by decide) ?_
            refine sm_icmp_ne 1346 ii_la_law_1334 (by decide) ?_ ?_
            · refine sm_aload_n ii_la_law_1337 rfl ?_
              refine sm_cvL [] [] rfl ii_la_law_1338 ml_la_123 (mf_ho_upper) (mv_ho_upper) (Nat.le_of_ble_eq_true rfl) rfl 6 rfl rfl rfl rfl (mc_ho_upper  w172) (fun x173 w174 => ?_)
              refine sm_lconst (0 : Int64) ii_la_law_1341 (by decide) ?_
              refine sm_lcmp ii_la_law_1342 ?_
              refine sm_if_eq 1348 ii_la_law_1343 (by decide) ?_ ?_
              · refine sm_msk [true, true, true, true, true, true, true, true, false, true, true, true, true, true, false, true, true, true, false, false, true, true, false, false, true, false, false, true, false, false, false, false, false, false, false, false, false, false, false, false, false, false, false, false, false] [some (.ref 999), some (.ref 0), some (.ref 62), some (.ref 63), some (.ref 64), some (.int a5), some (.int a6), some (.long a7), none, some (.int a9), some (.int a10), some (.int a11), some (.int a12), some (.int a13), none, some (.int a15), some (.int a16), some (.int a17), none, none, some (.int a20), some (.long a21), none, none, some (.int a24), none, none, some (.int a27), none, none, none, none, none, none, none, none, none, none, none, none, none, none, none, none, none] rfl ?_
                exact ss_la_law_1348 self68 hself68 (a5) (a6) (a7) (a9) (a10) (a11) (a12) (a13) (a15) (a16) (a17) (a20) (a21) (a24) (a27) w174
              · refine sm_iconst (0 : Int32) ii_la_law_1346 (by decide) ?_
                exact sm_zret1 ii_la_law_1347 rfl (by decide)
            · refine sm_iconst (0 : Int32) ii_la_law_1346 (by decide) ?_
              exact sm_zret1 ii_la_law_1347 rfl (by decide)
        · refine sm_iconst (0 : Int32) ii_la_law_1346 (by decide) ?_
          exact sm_zret1 ii_la_law_1347 rfl (by decide)
    · refine sm_iconst (0 : Int32) ii_la_law_1346 (by decide) ?_
      exact sm_zret1 ii_la_law_1347 rfl (by decide)
  · refine sm_aload ii_la_law_1272 rfl ?_
    refine sm_iload ii_la_law_1274 rfl ?_
    refine sm_iload ii_la_law_1276 rfl ?_
    refine sm_bipush (6 : Int32) ii_la_law_1278 (by decide) ?_
    refine sm_irem ii_la_law_1280 ?_
    refine sm_iast ii_la_law_1281 (k := 64) rfl (fun w176 => ?_)
    refine sm_iload ii_la_law_1282 rfl ?_
    refine sm_bipush (6 : Int32) ii_la_law_1284 (by decide) ?_
    refine sm_idiv ii_la_law_1286 ?_
    refine sm_istore [some (.ref 999), some (.ref 0), some (.ref 62), some (.ref 63), some (.ref 64), some (.int a5), some (.int a6), some (.long a7), none, some (.int a9), some (.int a10), some (.int a11), some (.int a12), some (.int a13), none, some (.int a15), some (.int a16), some (.int a17), none, none, some (.int a20), some (.long a21), none, none, some (.int a24), none, none, some (.int a27), some (.int a28), some (.int (a29 / (6 : Int32))), some (.int a30), none, none, none, none, none, none, none, none, none, none, none, none, none, none] ii_la_law_1287 rfl rfl ?_
    refine sm_iinc (a30 + (-1 : Int32)) [some (.ref 999), some (.ref 0), some (.ref 62), some (.ref 63), some (.ref 64), some (.int a5), some (.int a6), some (.long a7), none, some (.int a9), some (.int a10), some (.int a11), some (.int a12), some (.int a13), none, some (.int a15), some (.int a16), some (.int a17), none, none, some (.int a20), some (.long a21), none, none, some (.int a24), none, none, some (.int a27), some (.int a28), some (.int (a29 / (6 : Int32))), some (.int (a30 + (-1 : Int32))), none, none, none, none, none, none, none, none, none, none, none, none, none, none] ii_la_law_1289 rfl rfl rfl rfl ?_
    refine sm_goto 1267 ii_la_law_1292 (by decide) ?_
    exact hself1267 (a5) (a6) (a7) (a9) (a10) (a11) (a12) (a13) (a15) (a16) (a17) (a20) (a21) (a24) (a27) (a28) ((a29 / (6 : Int32))) ((a30 + (-1 : Int32))) w176
set_option maxHeartbeats 4000000 in
set_option maxRecDepth 100000 in
theorem ss_la_law_1267_f {E : Nat × (Nat → Int32)} (self68 : Int32 → Int32 → Int64 → Int32 → sm_Mem → sm_R) (hself68 : ∀ (a5 : Int32) (a6 : Int32) (a7 : Int64) (a9 : Int32) (w : sm_Mem), sm_Sim E (mi_la_law) 68 [some (.ref 999), some (.ref 0), some (.ref 62), some (.ref 63), some (.ref 64), some (.int a5), some (.int a6), some (.long a7), none, some (.int a9), none, none, none, none, none, none, none, none, none, none, none, none, none, none, none, none, none, none, none, none, none, none, none, none, none, none, none, none, none, none, none, none, none, none, none] [] w (self68 a5 a6 a7 a9 w)) : ∀ (n : Nat) (a5 : Int32) (a6 : Int32) (a7 : Int64) (a9 : Int32) (a10 : Int32) (a11 : Int32) (a12 : Int32) (a13 : Int32) (a15 : Int32) (a16 : Int32) (a17 : Int32) (a20 : Int32) (a21 : Int64) (a24 : Int32) (a27 : Int32) (a28 : Int32) (a29 : Int32) (a30 : Int32) (w : sm_Mem), sm_Sim E (mi_la_law) 1267 [some (.ref 999), some (.ref 0), some (.ref 62), some (.ref 63), some (.ref 64), some (.int a5), some (.int a6), some (.long a7), none, some (.int a9), some (.int a10), some (.int a11), some (.int a12), some (.int a13), none, some (.int a15), some (.int a16), some (.int a17), none, none, some (.int a20), some (.long a21), none, none, some (.int a24), none, none, some (.int a27), some (.int a28), some (.int a29), some (.int a30), none, none, none, none, none, none, none, none, none, none, none, none, none, none] [] w (ff_la_law_1267_f E self68 n a5 a6 a7 a9 a10 a11 a12 a13 a15 a16 a17 a20 a21 a24 a27 a28 a29 a30 w)
  | 0, _, _, _, _, _, _, _, _, _, _, _, _, _, _, _, _, _, _, _ => fun _ _ h => by cases h
  | n + 1, a5, a6, a7, a9, a10, a11, a12, a13, a15, a16, a17, a20, a21, a24, a27, a28, a29, a30, w => ss_la_law_1267_b self68 hself68 _ (ss_la_law_1267_f self68 hself68 n) a5 a6 a7 a9 a10 a11 a12 a13 a15 a16 a17 a20 a21 a24 a27 a28 a29 a30 w
set_option maxHeartbeats 4000000 in
set_option maxRecDepth 100000 in
theorem ss_la_law_1267 {E : Nat × (Nat → Int32)} (self68 : Int32 → Int32 → Int64 → Int32 → sm_Mem → sm_R) (hself68 : ∀ (a5 : Int32) (a6 : Int32) (a7 : Int64) (a9 : Int32) (w : sm_Mem), sm_Sim E (mi_la_law) 68 [some (.ref 999), some (.ref 0), some (.ref 62), some (.ref 63), some (.ref 64), some (.int a5), some (.int a6), some (.long a7), none, some (.int a9), none, none, none, none, none, none, none, none, none, none, none, none, none, none, none, none, none, none, none, none, none, none, none, none, none, none, none, none, none, none, none, none, none, none, none] [] w (self68 a5 a6 a7 a9 w)) (a5 : Int32) (a6 : Int32) (a7 : Int64) (a9 : Int32) (a10 : Int32) (a11 : Int32) (a12 : Int32) (a13 : Int32) (a15 : Int32) (a16 : Int32) (a17 : Int32) (a20 : Int32) (a21 : Int64) (a24 : Int32) (a27 : Int32) (a28 : Int32) (a29 : Int32) (a30 : Int32) (w : sm_Mem) : sm_Sim E (mi_la_law) 1267 [some (.ref 999), some (.ref 0), some (.ref 62), some (.ref 63), some (.ref 64), some (.int a5), some (.int a6), some (.long a7), none, some (.int a9), some (.int a10), some (.int a11), some (.int a12), some (.int a13), none, some (.int a15), some (.int a16), some (.int a17), none, none, some (.int a20), some (.long a21), none, none, some (.int a24), none, none, some (.int a27), some (.int a28), some (.int a29), some (.int a30), none, none, none, none, none, none, none, none, none, none, none, none, none, none] [] w (ff_la_law_1267 E self68 a5 a6 a7 a9 a10 a11 a12 a13 a15 a16 a17 a20 a21 a24 a27 a28 a29 a30 w) := ss_la_law_1267_f self68 hself68 sm_N a5 a6 a7 a9 a10 a11 a12 a13 a15 a16 a17 a20 a21 a24 a27 a28 a29 a30 w
noncomputable def ff_la_law_1247 (E : Nat × (Nat → Int32)) (self68 : Int32 → Int32 → Int64 → Int32 → sm_Mem → sm_R) (a5 : Int32) (a6 : Int32) (a7 : Int64) (a9 : Int32) (a10 : Int32) (a11 : Int32) (a12 : Int32) (a13 : Int32) (a15 : Int32) (a16 : Int32) (a17 : Int32) (a20 : Int32) (a21 : Int64) (a24 : Int32) (a27 : Int32) (a28 : Int32) (b0 : Int32) (b1 : Int32) (w : sm_Mem) : sm_R := (if b0 = b1 then (if a27 ≤ (0 : Int32) then ff_la_law_1348 E self68 (a5) (a6) (a7) (a9) (a10) (a11) (a12) (a13) (a15) (a16) (a17) (a20) (a21) (a24) (a27) w else ff_la_law_1267 E self68 (a5) (a6) (a7) (a9) (a10) (a11) (a12) (a13) (a15) (a16) (a17) (a20) (a21) (a24) (a27) (a28) (a28) ((a27 - (1 : Int32))) w) else (some (.int (0 : Int32), w)))
set_option maxHeartbeats 4000000 in
set_option maxRecDepth 100000 in
theorem ss_la_law_1247 {E : Nat × (Nat → Int32)} (self68 : Int32 → Int32 → Int64 → Int32 → sm_Mem → sm_R) (hself68 : ∀ (a5 : Int32) (a6 : Int32) (a7 : Int64) (a9 : Int32) (w : sm_Mem), sm_Sim E (mi_la_law) 68 [some (.ref 999), some (.ref 0), some (.ref 62), some (.ref 63), some (.ref 64), some (.int a5), some (.int a6), some (.long a7), none, some (.int a9), none, none, none, none, none, none, none, none, none, none, none, none, none, none, none, none, none, none, none, none, none, none, none, none, none, none, none, none, none, none, none, none, none, none, none] [] w (self68 a5 a6 a7 a9 w)) (a5 : Int32) (a6 : Int32) (a7 : Int64) (a9 : Int32) (a10 : Int32) (a11 : Int32) (a12 : Int32) (a13 : Int32) (a15 : Int32) (a16 : Int32) (a17 : Int32) (a20 : Int32) (a21 : Int64) (a24 : Int32) (a27 : Int32) (a28 : Int32) (b0 : Int32) (b1 : Int32) (w : sm_Mem) : sm_Sim E (mi_la_law) 1247 [some (.ref 999), some (.ref 0), some (.ref 62), some (.ref 63), some (.ref 64), some (.int a5), some (.int a6), some (.long a7), none, some (.int a9), some (.int a10), some (.int a11), some (.int a12), some (.int a13), none, some (.int a15), some (.int a16), some (.int a17), none, none, some (.int a20), some (.long a21), none, none, some (.int a24), none, none, some (.int a27), some (.int a28), none, none, none, none, none, none, none, none, none, none, none, none, none, none, none, none] [.int b1, .int b0] w (ff_la_law_1247 E self68 a5 a6 a7 a9 a10 a11 a12 a13 a15 a16 a17 a20 a21 a24 a27 a28 b0 b1 w) := by
  unfold ff_la_law_1247
  refine sm_icmp_eq 1252 ii_la_law_1247 (by decide) ?_ ?_
  · refine sm_iload ii_la_law_1252 rfl ?_
    refine sm_if_le 1348 ii_la_law_1254 (by decide) ?_ ?_
    · refine sm_msk [true, true, true, true, true, true, true, true, false, true, true, true, true, true, false, true, true, true, false, false, true, true, false, false, true, false, false, true, false, false, false, false, false, false, false, false, false, false, false, false, false, false, false, false, false] [some (.ref 999), some (.ref 0), some (.ref 62), some (.ref 63), some (.ref 64), some (.int a5), some (.int a6), some (.long a7), none, some (.int a9), some (.int a10), some (.int a11), some (.int a12), some (.int a13), none, some (.int a15), some (.int a16), some (.int a17), none, none, some (.int a20), some (.long a21), none, none, some (.int a24), none, none, some (.int a27), none, none, none, none, none, none, none, none, none, none, none, none, none, none, none, none, none] rfl ?_
      exact ss_la_law_1348 self68 hself68 (a5) (a6) (a7) (a9) (a10) (a11) (a12) (a13) (a15) (a16) (a17) (a20) (a21) (a24) (a27) w
    · refine sm_iload ii_la_law_1257 rfl ?_
      refine sm_istore [some (.ref 999), some (.ref 0), some (.ref 62), some (.ref 63), some (.ref 64), some (.int a5), some (.int a6), some (.long a7), none, some (.int a9), some (.int a10), some (.int a11), some (.int a12), some (.int a13), none, some (.int a15), some (.int a16), some (.int a17), none, none, some (.int a20), some (.long a21), none, none, some (.int a24), none, none, some (.int a27), some (.int a28), some (.int a28), none, none, none, none, none, none, none, none, none, none, none, none, none, none, none] ii_la_law_1259 rfl rfl ?_
      refine sm_iload ii_la_law_1261 rfl ?_
      refine sm_iconst (1 : Int32) ii_la_law_1263 (by decide) ?_
      refine sm_isub ii_la_law_1264 ?_
      refine sm_istore [some (.ref 999), some (.ref 0), some (.ref 62), some (.ref 63), some (.ref 64), some (.int a5), some (.int a6), some (.long a7), none, some (.int a9), some (.int a10), some (.int a11), some (.int a12), some (.int a13), none, some (.int a15), some (.int a16), some (.int a17), none, none, some (.int a20), some (.long a21), none, none, some (.int a24), none, none, some (.int a27), some (.int a28), some (.int a28), some (.int (a27 - (1 : Int32))), none, none, none, none, none, none, none, none, none, none, none, none, none, none] ii_la_law_1265 rfl rfl ?_
      exact ss_la_law_1267 self68 hself68 (a5) (a6) (a7) (a9) (a10) (a11) (a12) (a13) (a15) (a16) (a17) (a20) (a21) (a24) (a27) (a28) (a28) ((a27 - (1 : Int32))) w
  · refine sm_iconst (0 : Int32) ii_la_law_1250 (by decide) ?_
    exact sm_zret1 ii_la_law_1251 rfl (by decide)
noncomputable def ff_la_law_1235 (E : Nat × (Nat → Int32)) (self68 : Int32 → Int32 → Int64 → Int32 → sm_Mem → sm_R) (a5 : Int32) (a6 : Int32) (a7 : Int64) (a9 : Int32) (a10 : Int32) (a11 : Int32) (a12 : Int32) (a13 : Int32) (a15 : Int32) (a16 : Int32) (a17 : Int32) (a20 : Int32) (a21 : Int64) (a24 : Int32) (a27 : Int32) (a28 : Int32) (b0 : Int32) (w : sm_Mem) : sm_R := (if a16 = (63 : Int32) then ff_la_law_1247 E self68 (a5) (a6) (a7) (a9) (a10) (a11) (a12) (a13) (a15) (a16) (a17) (a20) (a21) (a24) (a27) (a28) (b0) ((0 : Int32)) w else ff_la_law_1247 E self68 (a5) (a6) (a7) (a9) (a10) (a11) (a12) (a13) (a15) (a16) (a17) (a20) (a21) (a24) (a27) (a28) (b0) ((1 : Int32)) w)
set_option maxHeartbeats 4000000 in
set_option maxRecDepth 100000 in
theorem ss_la_law_1235 {E : Nat × (Nat → Int32)} (self68 : Int32 → Int32 → Int64 → Int32 → sm_Mem → sm_R) (hself68 : ∀ (a5 : Int32) (a6 : Int32) (a7 : Int64) (a9 : Int32) (w : sm_Mem), sm_Sim E (mi_la_law) 68 [some (.ref 999), some (.ref 0), some (.ref 62), some (.ref 63), some (.ref 64), some (.int a5), some (.int a6), some (.long a7), none, some (.int a9), none, none, none, none, none, none, none, none, none, none, none, none, none, none, none, none, none, none, none, none, none, none, none, none, none, none, none, none, none, none, none, none, none, none, none] [] w (self68 a5 a6 a7 a9 w)) (a5 : Int32) (a6 : Int32) (a7 : Int64) (a9 : Int32) (a10 : Int32) (a11 : Int32) (a12 : Int32) (a13 : Int32) (a15 : Int32) (a16 : Int32) (a17 : Int32) (a20 : Int32) (a21 : Int64) (a24 : Int32) (a27 : Int32) (a28 : Int32) (b0 : Int32) (w : sm_Mem) : sm_Sim E (mi_la_law) 1235 [some (.ref 999), some (.ref 0), some (.ref 62), some (.ref 63), some (.ref 64), some (.int a5), some (.int a6), some (.long a7), none, some (.int a9), some (.int a10), some (.int a11), some (.int a12), some (.int a13), none, some (.int a15), some (.int a16), some (.int a17), none, none, some (.int a20), some (.long a21), none, none, some (.int a24), none, none, some (.int a27), some (.int a28), none, none, none, none, none, none, none, none, none, none, none, none, none, none, none, none] [.int b0] w (ff_la_law_1235 E self68 a5 a6 a7 a9 a10 a11 a12 a13 a15 a16 a17 a20 a21 a24 a27 a28 b0 w) := by
  unfold ff_la_law_1235
  refine sm_iload ii_la_law_1235 rfl ?_
  refine sm_bipush (63 : Int32) ii_la_law_1237 (by decide) ?_
  refine sm_icmp_eq 1246 ii_la_law_1239 (by decide) ?_ ?_
  · refine sm_iconst (0 : Int32) ii_la_law_1246 (by decide) ?_
    exact ss_la_law_1247 self68 hself68 (a5) (a6) (a7) (a9) (a10) (a11) (a12) (a13) (a15) (a16) (a17) (a20) (a21) (a24) (a27) (a28) (b0) ((0 : Int32)) w
  · refine sm_iconst (1 : Int32) ii_la_law_1242 (by decide) ?_
    refine sm_goto 1247 ii_la_law_1243 (by decide) ?_
    exact ss_la_law_1247 self68 hself68 (a5) (a6) (a7) (a9) (a10) (a11) (a12) (a13) (a15) (a16) (a17) (a20) (a21) (a24) (a27) (a28) (b0) ((1 : Int32)) w
noncomputable def ff_la_law_1224 (E : Nat × (Nat → Int32)) (self68 : Int32 → Int32 → Int64 → Int32 → sm_Mem → sm_R) (a5 : Int32) (a6 : Int32) (a7 : Int64) (a9 : Int32) (a10 : Int32) (a11 : Int32) (a12 : Int32) (a13 : Int32) (a15 : Int32) (a16 : Int32) (a17 : Int32) (a20 : Int32) (a21 : Int64) (a24 : Int32) (a27 : Int32) (a28 : Int32) (w : sm_Mem) : sm_R := (if a27 = (1 : Int32) then ff_la_law_1235 E self68 (a5) (a6) (a7) (a9) (a10) (a11) (a12) (a13) (a15) (a16) (a17) (a20) (a21) (a24) (a27) (a28) ((1 : Int32)) w else ff_la_law_1235 E self68 (a5) (a6) (a7) (a9) (a10) (a11) (a12) (a13) (a15) (a16) (a17) (a20) (a21) (a24) (a27) (a28) ((0 : Int32)) w)
set_option maxHeartbeats 4000000 in
set_option maxRecDepth 100000 in
theorem ss_la_law_1224 {E : Nat × (Nat → Int32)} (self68 : Int32 → Int32 → Int64 → Int32 → sm_Mem → sm_R) (hself68 : ∀ (a5 : Int32) (a6 : Int32) (a7 : Int64) (a9 : Int32) (w : sm_Mem), sm_Sim E (mi_la_law) 68 [some (.ref 999), some (.ref 0), some (.ref 62), some (.ref 63), some (.ref 64), some (.int a5), some (.int a6), some (.long a7), none, some (.int a9), none, none, none, none, none, none, none, none, none, none, none, none, none, none, none, none, none, none, none, none, none, none, none, none, none, none, none, none, none, none, none, none, none, none, none] [] w (self68 a5 a6 a7 a9 w)) (a5 : Int32) (a6 : Int32) (a7 : Int64) (a9 : Int32) (a10 : Int32) (a11 : Int32) (a12 : Int32) (a13 : Int32) (a15 : Int32) (a16 : Int32) (a17 : Int32) (a20 : Int32) (a21 : Int64) (a24 : Int32) (a27 : Int32) (a28 : Int32) (w : sm_Mem) : sm_Sim E (mi_la_law) 1224 [some (.ref 999), some (.ref 0), some (.ref 62), some (.ref 63), some (.ref 64), some (.int a5), some (.int a6), some (.long a7), none, some (.int a9), some (.int a10), some (.int a11), some (.int a12), some (.int a13), none, some (.int a15), some (.int a16), some (.int a17), none, none, some (.int a20), some (.long a21), none, none, some (.int a24), none, none, some (.int a27), some (.int a28), none, none, none, none, none, none, none, none, none, none, none, none, none, none, none, none] [] w (ff_la_law_1224 E self68 a5 a6 a7 a9 a10 a11 a12 a13 a15 a16 a17 a20 a21 a24 a27 a28 w) := by
  unfold ff_la_law_1224
  refine sm_iload ii_la_law_1224 rfl ?_
  refine sm_iconst (1 : Int32) ii_la_law_1226 (by decide) ?_
  refine sm_icmp_ne 1234 ii_la_law_1227 (by decide) ?_ ?_
  · refine sm_iconst (1 : Int32) ii_la_law_1230 (by decide) ?_
    refine sm_goto 1235 ii_la_law_1231 (by decide) ?_
    exact ss_la_law_1235 self68 hself68 (a5) (a6) (a7) (a9) (a10) (a11) (a12) (a13) (a15) (a16) (a17) (a20) (a21) (a24) (a27) (a28) ((1 : Int32)) w
  · refine sm_iconst (0 : Int32) ii_la_law_1234 (by decide) ?_
    exact ss_la_law_1235 self68 hself68 (a5) (a6) (a7) (a9) (a10) (a11) (a12) (a13) (a15) (a16) (a17) (a20) (a21) (a24) (a27) (a28) ((0 : Int32)) w
noncomputable def ff_la_law_1186 (E : Nat × (Nat → Int32)) (self68 : Int32 → Int32 → Int64 → Int32 → sm_Mem → sm_R) (a5 : Int32) (a6 : Int32) (a7 : Int64) (a9 : Int32) (a10 : Int32) (a11 : Int32) (a12 : Int32) (a13 : Int32) (a15 : Int32) (a16 : Int32) (a17 : Int32) (a20 : Int32) (a21 : Int64) (a24 : Int32) (w : sm_Mem) : sm_R := (sm_cI (ff_ho_dumb  w) fun x178 w179 => (sm_cI (ff_ho_asked  w179) fun x180 w181 => (if x178 < (-9 : Int32) then (some (.int (0 : Int32), w181)) else (if (3 : Int32) < x178 then (some (.int (0 : Int32), w181)) else (if x178 ≤ (-9 : Int32) then ff_la_law_1224 E self68 (a5) (a6) (a7) (a9) (a10) (a11) (a12) (a13) (a15) (a16) (a17) (a20) (a21) (a24) (x178) (x180) w181 else (if x178 < (1 : Int32) then (some (.int (0 : Int32), w181)) else ff_la_law_1224 E self68 (a5) (a6) (a7) (a9) (a10) (a11) (a12) (a13) (a15) (a16) (a17) (a20) (a21) (a24) (x178) (x180) w181))))))
set_option maxHeartbeats 4000000 in
set_option maxRecDepth 100000 in
theorem ss_la_law_1186 {E : Nat × (Nat → Int32)} (self68 : Int32 → Int32 → Int64 → Int32 → sm_Mem → sm_R) (hself68 : ∀ (a5 : Int32) (a6 : Int32) (a7 : Int64) (a9 : Int32) (w : sm_Mem), sm_Sim E (mi_la_law) 68 [some (.ref 999), some (.ref 0), some (.ref 62), some (.ref 63), some (.ref 64), some (.int a5), some (.int a6), some (.long a7), none, some (.int a9), none, none, none, none, none, none, none, none, none, none, none, none, none, none, none, none, none, none, none, none, none, none, none, none, none, none, none, none, none, none, none, none, none, none, none] [] w (self68 a5 a6 a7 a9 w)) (a5 : Int32) (a6 : Int32) (a7 : Int64) (a9 : Int32) (a10 : Int32) (a11 : Int32) (a12 : Int32) (a13 : Int32) (a15 : Int32) (a16 : Int32) (a17 : Int32) (a20 : Int32) (a21 : Int64) (a24 : Int32) (w : sm_Mem) : sm_Sim E (mi_la_law) 1186 [some (.ref 999), some (.ref 0), some (.ref 62), some (.ref 63), some (.ref 64), some (.int a5), some (.int a6), some (.long a7), none, some (.int a9), some (.int a10), some (.int a11), some (.int a12), some (.int a13), none, some (.int a15), some (.int a16), some (.int a17), none, none, some (.int a20), some (.long a21), none, none, some (.int a24), none, none, none, none, none, none, none, none, none, none, none, none, none, none, none, none, none, none, none, none] [] w (ff_la_law_1186 E self68 a5 a6 a7 a9 a10 a11 a12 a13 a15 a16 a17 a20 a21 a24 w) := by
  unfold ff_la_law_1186
  refine sm_aload_n ii_la_law_1186 rfl ?_
  refine sm_cvI [] [] rfl ii_la_law_1187 ml_la_144 (mf_ho_dumb) (mv_ho_dumb) (Nat.le_of_ble_eq_true rfl) rfl 6 rfl rfl rfl rfl (mc_ho_dumb  w) (fun x178 w179 => ?_)
  refine sm_istore [some (.ref 999), some (.ref 0), some (.ref 62), some (.ref 63), some (.ref 64), some (.int a5), some (.int a6), some (.long a7), none, some (.int a9), some (.int a10), some (.int a11), some (.int a12), some (.int a13), none, some (.int a15), some (.int a16), some (.int a17), none, none, some (.int a20), some (.long a21), none, none, some (.int a24), none, none, some (.int x178), none, none, none, none, none, none, none, none, none, none, none, none, none, none, none, none, none] ii_la_law_1190 rfl rfl ?_
  refine sm_aload_n ii_la_law_1192 rfl ?_
  refine sm_cvI [] [] rfl ii_la_law_1193 ml_la_78 (mf_ho_asked) (mv_ho_asked) (Nat.le_of_ble_eq_true rfl) rfl 6 rfl rfl rfl rfl (mc_ho_asked  w179) (fun x180 w181 => ?_)
  refine sm_istore [some (.ref 999), some (.ref 0), some (.ref 62), some (.ref 63), some (.ref 64), some (.int a5), some (.int a6), some (.long a7), none, some (.int a9), some (.int a10), some (.int a11), some (.int a12), some (.int a13), none, some (.int a15), some (.int a16), some (.int a17), none, none, some (.int a20), some (.long a21), none, none, some (.int a24), none, none, some (.int x178), some (.int x180), none, none, none, none, none, none, none, none, none, none, none, none, none, none, none, none] ii_la_law_1196 rfl rfl ?_
  refine sm_iload ii_la_law_1198 rfl ?_
  refine sm_bipush (-9 : Int32) ii_la_law_1200 (by decide) ?_
  refine sm_icmp_lt 1250 ii_la_law_1202 (by decide) ?_ ?_
  · refine sm_iconst (0 : Int32) ii_la_law_1250 (by decide) ?_
    exact sm_zret1 ii_la_law_1251 rfl (by decide)
  · refine sm_iload ii_la_law_1205 rfl ?_
    refine sm_iconst (3 : Int32) ii_la_law_1207 (by decide) ?_
    refine sm_icmp_gt 1250 ii_la_law_1208 (by decide) ?_ ?_
    · refine sm_iconst (0 : Int32) ii_la_law_1250 (by decide) ?_
      exact sm_zret1 ii_la_law_1251 rfl (by decide)
    · refine sm_iload ii_la_law_1211 rfl ?_
      refine sm_bipush (-9 : Int32) ii_la_law_1213 (by decide) ?_
      refine sm_icmp_le 1224 ii_la_law_1215 (by decide) ?_ ?_
      · exact ss_la_law_1224 self68 hself68 (a5) (a6) (a7) (a9) (a10) (a11) (a12) (a13) (a15) (a16) (a17) (a20) (a21) (a24) (x178) (x180) w181
      · refine sm_iload ii_la_law_1218 rfl ?_
        refine sm_iconst (1 : Int32) ii_la_law_1220 (by decide) ?_
        refine sm_icmp_lt 1250 ii_la_law_1221 (by decide) ?_ ?_
        · refine sm_iconst (0 : Int32) ii_la_law_1250 (by decide) ?_
          exact sm_zret1 ii_la_law_1251 rfl (by decide)
        · exact ss_la_law_1224 self68 hself68 (a5) (a6) (a7) (a9) (a10) (a11) (a12) (a13) (a15) (a16) (a17) (a20) (a21) (a24) (x178) (x180) w181
noncomputable def ff_la_law_1079_b (E : Nat × (Nat → Int32)) (self68 : Int32 → Int32 → Int64 → Int32 → sm_Mem → sm_R) (self1079 : Int32 → Int32 → Int64 → Int32 → Int32 → Int32 → Int32 → Int32 → Int32 → Int32 → Int32 → Int32 → Int64 → Int32 → Int32 → Int32 → sm_Mem → sm_R) (a5 : Int32) (a6 : Int32) (a7 : Int64) (a9 : Int32) (a10 : Int32) (a11 : Int32) (a12 : Int32) (a13 : Int32) (a15 : Int32) (a16 : Int32) (a17 : Int32) (a20 : Int32) (a21 : Int64) (a24 : Int32) (a25 : Int32) (a27 : Int32) (w : sm_Mem) : sm_R := (if a24 ≤ a27 then (sm_cI (ff_ho_ways ((2 : Int32)) w) fun x182 w183 => (if x182 = (1 : Int32) then (sm_cL (ff_ho_upper  w183) fun x184 w185 => (if (lg_cmp x184 (Int32.toInt64 a25)) = (0 : Int32) then (if a20 ≤ a24 then ff_la_law_1186 E self68 (a5) (a6) (a7) (a9) (a10) (a11) (a12) (a13) (a15) (a16) (a17) (a20) (a21) (a24) w185 else (sm_cI (ff_ho_row ((2 : Int32)) ((a24 + (1 : Int32))) w185) fun x186 w187 => (if x186 = (a24 + (1 : Int32)) then (sm_cI (ff_la_laid ((a24 + (1 : Int32))) w187) fun x188 w189 => (if x188 = (0 : Int32) then (some (.int (0 : Int32), w189)) else (sm_cI (ff_ho_ways ((2 : Int32)) w189) fun x190 w191 => (if x190 = (1 : Int32) then (sm_cL (ff_ho_upper  w191) fun x192 w193 => (if (lg_cmp x192 (0 : Int64)) = (0 : Int32) then ff_la_law_1186 E self68 (a5) (a6) (a7) (a9) (a10) (a11) (a12) (a13) (a15) (a16) (a17) (a20) (a21) (a24) w193 else (some (.int (0 : Int32), w193)))) else (some (.int (0 : Int32), w191)))))) else (some (.int (0 : Int32), w187))))) else (some (.int (0 : Int32), w185)))) else (some (.int (0 : Int32), w183)))) else (Option.bind (sm_rd w 64 8 a27) fun x194 => (sm_cI (ff_ho_lay ((2 : Int32)) (a27) (x194) w) fun x195 w196 => (if x195 = (1 : Int32) then self1079 (a5) (a6) (a7) (a9) (a10) (a11) (a12) (a13) (a15) (a16) (a17) (a20) (a21) (a24) (a25) ((a27 + (1 : Int32))) w196 else (some (.int (0 : Int32), w196))))))
noncomputable def ff_la_law_1079_f (E : Nat × (Nat → Int32)) (self68 : Int32 → Int32 → Int64 → Int32 → sm_Mem → sm_R) : Nat → Int32 → Int32 → Int64 → Int32 → Int32 → Int32 → Int32 → Int32 → Int32 → Int32 → Int32 → Int32 → Int64 → Int32 → Int32 → Int32 → sm_Mem → sm_R
  | 0, _, _, _, _, _, _, _, _, _, _, _, _, _, _, _, _, _ => none
  | n + 1, a5, a6, a7, a9, a10, a11, a12, a13, a15, a16, a17, a20, a21, a24, a25, a27, w => ff_la_law_1079_b E self68 (ff_la_law_1079_f E self68 n) a5 a6 a7 a9 a10 a11 a12 a13 a15 a16 a17 a20 a21 a24 a25 a27 w
noncomputable def ff_la_law_1079 (E : Nat × (Nat → Int32)) (self68 : Int32 → Int32 → Int64 → Int32 → sm_Mem → sm_R) (a5 : Int32) (a6 : Int32) (a7 : Int64) (a9 : Int32) (a10 : Int32) (a11 : Int32) (a12 : Int32) (a13 : Int32) (a15 : Int32) (a16 : Int32) (a17 : Int32) (a20 : Int32) (a21 : Int64) (a24 : Int32) (a25 : Int32) (a27 : Int32) (w : sm_Mem) : sm_R := ff_la_law_1079_f E self68 sm_N a5 a6 a7 a9 a10 a11 a12 a13 a15 a16 a17 a20 a21 a24 a25 a27 w
set_option maxHeartbeats 4000000 in
set_option maxRecDepth 100000 in
theorem ss_la_law_1079_b {E : Nat × (Nat → Int32)} (self68 : Int32 → Int32 → Int64 → Int32 → sm_Mem → sm_R) (hself68 : ∀ (a5 : Int32) (a6 : Int32) (a7 : Int64) (a9 : Int32) (w : sm_Mem), sm_Sim E (mi_la_law) 68 [some (.ref 999), some (.ref 0), some (.ref 62), some (.ref 63), some (.ref 64), some (.int a5), some (.int a6), some (.long a7), none, some (.int a9), none, none, none, none, none, none, none, none, none, none, none, none, none, none, none, none, none, none, none, none, none, none, none, none, none, none, none, none, none, none, none, none, none, none, none] [] w (self68 a5 a6 a7 a9 w)) (self1079 : Int32 → Int32 → Int64 → Int32 → Int32 → Int32 → Int32 → Int32 → Int32 → Int32 → Int32 → Int32 → Int64 → Int32 → Int32 → Int32 → sm_Mem → sm_R) (hself1079 : ∀ (a5 : Int32) (a6 : Int32) (a7 : Int64) (a9 : Int32) (a10 : Int32) (a11 : Int32) (a12 : Int32) (a13 : Int32) (a15 : Int32) (a16 : Int32) (a17 : Int32) (a20 : Int32) (a21 : Int64) (a24 : Int32) (a25 : Int32) (a27 : Int32) (w : sm_Mem), sm_Sim E (mi_la_law) 1079 [some (.ref 999), some (.ref 0), some (.ref 62), some (.ref 63), some (.ref 64), some (.int a5), some (.int a6), some (.long a7), none, some (.int a9), some (.int a10), some (.int a11), some (.int a12), some (.int a13), none, some (.int a15), some (.int a16), some (.int a17), none, none, some (.int a20), some (.long a21), none, none, some (.int a24), some (.int a25), none, some (.int a27), none, none, none, none, none, none, none, none, none, none, none, none, none, none, none, none, none] [] w (self1079 a5 a6 a7 a9 a10 a11 a12 a13 a15 a16 a17 a20 a21 a24 a25 a27 w)) (a5 : Int32) (a6 : Int32) (a7 : Int64) (a9 : Int32) (a10 : Int32) (a11 : Int32) (a12 : Int32) (a13 : Int32) (a15 : Int32) (a16 : Int32) (a17 : Int32) (a20 : Int32) (a21 : Int64) (a24 : Int32) (a25 : Int32) (a27 : Int32) (w : sm_Mem) : sm_Sim E (mi_la_law) 1079 [some (.ref 999), some (.ref 0), some (.ref 62), some (.ref 63), some (.ref 64), some (.int a5), some (.int a6), some (.long a7), none, some (.int a9), some (.int a10), some (.int a11), some (.int a12), some (.int a13), none, some (.int a15), some (.int a16), some (.int a17), none, none, some (.int a20), some (.long a21), none, none, some (.int a24), some (.int a25), none, some (.int a27), none, none, none, none, none, none, none, none, none, none, none, none, none, none, none, none, none] [] w (ff_la_law_1079_b E self68 self1079 a5 a6 a7 a9 a10 a11 a12 a13 a15 a16 a17 a20 a21 a24 a25 a27 w) := by
  unfold ff_la_law_1079_b
  refine sm_iload ii_la_law_1079 rfl ?_
  refine sm_iload ii_la_law_1081 rfl ?_
  refine sm_icmp_ge 1110 ii_la_law_1083 (by decide) ?_ ?_
  · refine sm_aload_n ii_la_law_1110 rfl ?_
    refine sm_iconst (2 : Int32) ii_la_law_1111 (by decide) ?_
    refine sm_cvI [.int (2 : Int32)] [] rfl ii_la_law_1112 ml_la_120 (mf_ho_ways) (mv_ho_ways) (Nat.le_of_ble_eq_true rfl) rfl 6 rfl rfl rfl rfl (mc_ho_ways ((2 : Int32)) w) (fun x182 w183 => ?_)
    refine sm_iconst (1 : Int32) ii_la_law_1115 (by decide) ?_
    refine sm_icmp_ne 1184 ii_la_law_1116 (by decide) ?_ ?_
    · refine sm_aload_n ii_la_law_1119 rfl ?_
      refine sm_cvL [] [] rfl ii_la_law_1120 ml_la_123 (mf_ho_upper) (mv_ho_upper) (Nat.le_of_ble_eq_true rfl) rfl 6 rfl rfl rfl rfl (mc_ho_upper  w183) (fun x184 w185 => ?_)
      refine sm_iload ii_la_law_1123 rfl ?_
      refine sm_i2l ii_la_law_1125 ?_
      refine sm_lcmp ii_la_law_1126 ?_
      refine sm_if_ne 1184 ii_la_law_1127 (by decide) ?_ ?_
      · refine sm_iload ii_la_law_1130 rfl ?_
        refine sm_iload ii_la_law_1132 rfl ?_
        refine sm_icmp_ge 1186 ii_la_law_1134 (by decide) ?_ ?_
        · refine sm_msk [true, true, true, true, true, true, true, true, false, true, true, true, true, true, false, true, true, true, false, false, true, true, false, false, true, false, false, false, false, false, false, false, false, false, false, false, false, false, false, false, false, false, false, false, false] [some (.ref 999), some (.ref 0), some (.ref 62), some (.ref 63), some (.ref 64), some (.int a5), some (.int a6), some (.long a7), none, some (.int a9), some (.int a10), some (.int a11), some (.int a12), some (.int a13), none, some (.int a15), some (.int a16), some (.int a17), none, none, some (.int a20), some (.long a21), none, none, some (.int a24), none, none, none, none, none, none, none, none, none, none, none, none, none, none, none, none, none, none, none, none] rfl ?_
          exact ss_la_law_1186 self68 hself68 (a5) (a6) (a7) (a9) (a10) (a11) (a12) (a13) (a15) (a16) (a17) (a20) (a21) (a24) w185
        · refine sm_aload_n ii_la_law_1137 rfl ?_
          refine sm_iconst (2 : Int32) ii_la_law_1138 (by decide) ?_
          refine sm_iload ii_la_law_1139 rfl ?_
          refine sm_iconst (1 : Int32) ii_la_law_1141 (by decide) ?_
          refine sm_iadd ii_la_law_1142 ?_
          refine sm_cvI [.int (2 : Int32), .int (a24 + (1 : Int32))] [] rfl ii_la_law_1143 ml_la_114 (mf_ho_row) (mv_ho_row) (Nat.le_of_ble_eq_true rfl) rfl 6 rfl rfl rfl rfl (mc_ho_row ((2 : Int32)) ((a24 + (1 : Int32))) w185) (fun x186 w187 => ?_)
          refine sm_iload ii_la_law_1146 rfl ?_
          refine sm_iconst (1 : Int32) ii_la_law_1148 (by decide) ?_
          refine sm_iadd ii_la_law_1149 ?_
          refine sm_icmp_ne 1184 ii_la_law_1150 (by decide) ?_ ?_
          · refine sm_aload_n ii_la_law_1153 rfl ?_
            refine sm_aload ii_la_law_1154 rfl ?_
            refine sm_iload ii_la_law_1156 rfl ?_
            refine sm_iconst (1 : Int32) ii_la_law_1158 (by decide) ?_
            refine sm_iadd ii_la_law_1159 ?_
            refine sm_csI [.ref 0, .ref 64, .int (a24 + (1 : Int32))] [] rfl ii_la_law_1160 ml_la_140 (mf_la_laid) (mv_la_laid) (Nat.le_of_ble_eq_true rfl) rfl rfl rfl (mc_la_laid ((a24 + (1 : Int32))) w187) (fun x188 w189 => ?_)
            refine sm_if_eq 1184 ii_la_law_1163 (by decide) ?_ ?_
            · refine sm_iconst (0 : Int32) ii_la_law_1184 (by decide) ?_
              exact sm_zret1 ii_la_law_1185 rfl (by decide)
            · refine sm_aload_n ii_la_law_1166 rfl ?_
              refine sm_iconst (2 : Int32) ii_la_law_1167 (by decide) ?_
              refine sm_cvI [.int (2 : Int32)] [] rfl ii_la_law_1168 ml_la_120 (mf_ho_ways) (mv_ho_ways) (Nat.le_of_ble_eq_true rfl) rfl 6 rfl rfl rfl rfl (mc_ho_ways ((2 : Int32)) w189) (fun x190 w191 => ?_)
              refine sm_iconst (1 : Int32) ii_la_law_1171 (by decide) ?_
              refine sm_icmp_ne 1184 ii_la_law_1172 (by decide) ?_ ?_
              · refine sm_aload_n ii_la_law_1175 rfl ?_
                refine sm_cvL [] [] rfl ii_la_law_1176 ml_la_123 (mf_ho_upper) (mv_ho_upper) (Nat.le_of_ble_eq_true rfl) rfl 6 rfl rfl rfl rfl (mc_ho_upper  w191) (fun x192 w193 => ?_)
                refine sm_lconst (0 : Int64) ii_la_law_1179 (by decide) ?_
                refine sm_lcmp ii_la_law_1180 ?_
                refine sm_if_eq 1186 ii_la_law_1181 (by decide) ?_ ?_
                · refine sm_msk [true, true, true, true, true, true, true, true, false, true, true, true, true, true, false, true, true, true, false, false, true, true, false, false, true, false, false, false, false, false, false, false, false, false, false, false, false, false, false, false, false, false, false, false, false] [some (.ref 999), some (.ref 0), some (.ref 62), some (.ref 63), some (.ref 64), some (.int a5), some (.int a6), some (.long a7), none, some (.int a9), some (.int a10), some (.int a11), some (.int a12), some (.int a13), none, some (.int a15), some (.int a16), some (.int a17), none, none, some (.int a20), some (.long a21), none, none, some (.int a24), none, none, none, none, none, none, none, none, none, none, none, none, none, none, none, none, none, none, none, none] rfl ?_
                  exact ss_la_law_1186 self68 hself68 (a5) (a6) (a7) (a9) (a10) (a11) (a12) (a13) (a15) (a16) (a17) (a20) (a21) (a24) w193
                · refine sm_iconst (0 : Int32) ii_la_law_1184 (by decide) ?_
                  exact sm_zret1 ii_la_law_1185 rfl (by decide)
              · refine sm_iconst (0 : Int32) ii_la_law_1184 (by decide) ?_
                exact sm_zret1 ii_la_law_1185 rfl (by decide)
          · refine sm_iconst (0 : Int32) ii_la_law_1184 (by decide) ?_
            exact sm_zret1 ii_la_law_1185 rfl (by decide)
      · refine sm_iconst (0 : Int32) ii_la_law_1184 (by decide) ?_
        exact sm_zret1 ii_la_law_1185 rfl (by decide)
    · refine sm_iconst (0 : Int32) ii_la_law_1184 (by decide) ?_
      exact sm_zret1 ii_la_law_1185 rfl (by decide)
  · refine sm_aload_n ii_la_law_1086 rfl ?_
    refine sm_iconst (2 : Int32) ii_la_law_1087 (by decide) ?_
    refine sm_iload ii_la_law_1088 rfl ?_
    refine sm_aload ii_la_law_1090 rfl ?_
    refine sm_iload ii_la_law_1092 rfl ?_
    refine sm_iald ii_la_law_1094 (k := 64) rfl (fun x194 => ?_)
    refine sm_cvI [.int (2 : Int32), .int a27, .int x194] [] rfl ii_la_law_1095 ml_la_117 (mf_ho_lay) (mv_ho_lay) (Nat.le_of_ble_eq_true rfl) rfl 6 rfl rfl rfl rfl (mc_ho_lay ((2 : Int32)) (a27) (x194) w) (fun x195 w196 => ?_)
    refine sm_iconst (1 : Int32) ii_la_law_1098 (by decide) ?_
    refine sm_icmp_eq 1104 ii_la_law_1099 (by decide) ?_ ?_
    · refine sm_iinc (a27 + (1 : Int32)) [some (.ref 999), some (.ref 0), some (.ref 62), some (.ref 63), some (.ref 64), some (.int a5), some (.int a6), some (.long a7), none, some (.int a9), some (.int a10), some (.int a11), some (.int a12), some (.int a13), none, some (.int a15), some (.int a16), some (.int a17), none, none, some (.int a20), some (.long a21), none, none, some (.int a24), some (.int a25), none, some (.int (a27 + (1 : Int32))), none, none, none, none, none, none, none, none, none, none, none, none, none, none, none, none, none] ii_la_law_1104 rfl rfl rfl rfl ?_
      refine sm_goto 1079 ii_la_law_1107 (by decide) ?_
      exact hself1079 (a5) (a6) (a7) (a9) (a10) (a11) (a12) (a13) (a15) (a16) (a17) (a20) (a21) (a24) (a25) ((a27 + (1 : Int32))) w196
    · refine sm_iconst (0 : Int32) ii_la_law_1102 (by decide) ?_
      exact sm_zret1 ii_la_law_1103 rfl (by decide)
set_option maxHeartbeats 4000000 in
set_option maxRecDepth 100000 in
theorem ss_la_law_1079_f {E : Nat × (Nat → Int32)} (self68 : Int32 → Int32 → Int64 → Int32 → sm_Mem → sm_R) (hself68 : ∀ (a5 : Int32) (a6 : Int32) (a7 : Int64) (a9 : Int32) (w : sm_Mem), sm_Sim E (mi_la_law) 68 [some (.ref 999), some (.ref 0), some (.ref 62), some (.ref 63), some (.ref 64), some (.int a5), some (.int a6), some (.long a7), none, some (.int a9), none, none, none, none, none, none, none, none, none, none, none, none, none, none, none, none, none, none, none, none, none, none, none, none, none, none, none, none, none, none, none, none, none, none, none] [] w (self68 a5 a6 a7 a9 w)) : ∀ (n : Nat) (a5 : Int32) (a6 : Int32) (a7 : Int64) (a9 : Int32) (a10 : Int32) (a11 : Int32) (a12 : Int32) (a13 : Int32) (a15 : Int32) (a16 : Int32) (a17 : Int32) (a20 : Int32) (a21 : Int64) (a24 : Int32) (a25 : Int32) (a27 : Int32) (w : sm_Mem), sm_Sim E (mi_la_law) 1079 [some (.ref 999), some (.ref 0), some (.ref 62), some (.ref 63), some (.ref 64), some (.int a5), some (.int a6), some (.long a7), none, some (.int a9), some (.int a10), some (.int a11), some (.int a12), some (.int a13), none, some (.int a15), some (.int a16), some (.int a17), none, none, some (.int a20), some (.long a21), none, none, some (.int a24), some (.int a25), none, some (.int a27), none, none, none, none, none, none, none, none, none, none, none, none, none, none, none, none, none] [] w (ff_la_law_1079_f E self68 n a5 a6 a7 a9 a10 a11 a12 a13 a15 a16 a17 a20 a21 a24 a25 a27 w)
  | 0, _, _, _, _, _, _, _, _, _, _, _, _, _, _, _, _, _ => fun _ _ h => by cases h
  | n + 1, a5, a6, a7, a9, a10, a11, a12, a13, a15, a16, a17, a20, a21, a24, a25, a27, w => ss_la_law_1079_b self68 hself68 _ (ss_la_law_1079_f self68 hself68 n) a5 a6 a7 a9 a10 a11 a12 a13 a15 a16 a17 a20 a21 a24 a25 a27 w
set_option maxHeartbeats 4000000 in
set_option maxRecDepth 100000 in
theorem ss_la_law_1079 {E : Nat × (Nat → Int32)} (self68 : Int32 → Int32 → Int64 → Int32 → sm_Mem → sm_R) (hself68 : ∀ (a5 : Int32) (a6 : Int32) (a7 : Int64) (a9 : Int32) (w : sm_Mem), sm_Sim E (mi_la_law) 68 [some (.ref 999), some (.ref 0), some (.ref 62), some (.ref 63), some (.ref 64), some (.int a5), some (.int a6), some (.long a7), none, some (.int a9), none, none, none, none, none, none, none, none, none, none, none, none, none, none, none, none, none, none, none, none, none, none, none, none, none, none, none, none, none, none, none, none, none, none, none] [] w (self68 a5 a6 a7 a9 w)) (a5 : Int32) (a6 : Int32) (a7 : Int64) (a9 : Int32) (a10 : Int32) (a11 : Int32) (a12 : Int32) (a13 : Int32) (a15 : Int32) (a16 : Int32) (a17 : Int32) (a20 : Int32) (a21 : Int64) (a24 : Int32) (a25 : Int32) (a27 : Int32) (w : sm_Mem) : sm_Sim E (mi_la_law) 1079 [some (.ref 999), some (.ref 0), some (.ref 62), some (.ref 63), some (.ref 64), some (.int a5), some (.int a6), some (.long a7), none, some (.int a9), some (.int a10), some (.int a11), some (.int a12), some (.int a13), none, some (.int a15), some (.int a16), some (.int a17), none, none, some (.int a20), some (.long a21), none, none, some (.int a24), some (.int a25), none, some (.int a27), none, none, none, none, none, none, none, none, none, none, none, none, none, none, none, none, none] [] w (ff_la_law_1079 E self68 a5 a6 a7 a9 a10 a11 a12 a13 a15 a16 a17 a20 a21 a24 a25 a27 w) := ss_la_law_1079_f self68 hself68 sm_N a5 a6 a7 a9 a10 a11 a12 a13 a15 a16 a17 a20 a21 a24 a25 a27 w
noncomputable def ff_la_law_1062 (E : Nat × (Nat → Int32)) (self68 : Int32 → Int32 → Int64 → Int32 → sm_Mem → sm_R) (a5 : Int32) (a6 : Int32) (a7 : Int64) (a9 : Int32) (a10 : Int32) (a11 : Int32) (a12 : Int32) (a13 : Int32) (a15 : Int32) (a16 : Int32) (a17 : Int32) (a20 : Int32) (a21 : Int64) (a24 : Int32) (a25 : Int32) (w : sm_Mem) : sm_R := (sm_cI (ff_ho_row ((2 : Int32)) (a24) w) fun x197 w198 => (if x197 = a24 then ff_la_law_1079 E self68 (a5) (a6) (a7) (a9) (a10) (a11) (a12) (a13) (a15) (a16) (a17) (a20) (a21) (a24) (a25) ((0 : Int32)) w198 else (some (.int (0 : Int32), w198))))
set_option maxHeartbeats 4000000 in
set_option maxRecDepth 100000 in
theorem ss_la_law_1062 {E : Nat × (Nat → Int32)} (self68 : Int32 → Int32 → Int64 → Int32 → sm_Mem → sm_R) (hself68 : ∀ (a5 : Int32) (a6 : Int32) (a7 : Int64) (a9 : Int32) (w : sm_Mem), sm_Sim E (mi_la_law) 68 [some (.ref 999), some (.ref 0), some (.ref 62), some (.ref 63), some (.ref 64), some (.int a5), some (.int a6), some (.long a7), none, some (.int a9), none, none, none, none, none, none, none, none, none, none, none, none, none, none, none, none, none, none, none, none, none, none, none, none, none, none, none, none, none, none, none, none, none, none, none] [] w (self68 a5 a6 a7 a9 w)) (a5 : Int32) (a6 : Int32) (a7 : Int64) (a9 : Int32) (a10 : Int32) (a11 : Int32) (a12 : Int32) (a13 : Int32) (a15 : Int32) (a16 : Int32) (a17 : Int32) (a20 : Int32) (a21 : Int64) (a24 : Int32) (a25 : Int32) (w : sm_Mem) : sm_Sim E (mi_la_law) 1062 [some (.ref 999), some (.ref 0), some (.ref 62), some (.ref 63), some (.ref 64), some (.int a5), some (.int a6), some (.long a7), none, some (.int a9), some (.int a10), some (.int a11), some (.int a12), some (.int a13), none, some (.int a15), some (.int a16), some (.int a17), none, none, some (.int a20), some (.long a21), none, none, some (.int a24), some (.int a25), none, none, none, none, none, none, none, none, none, none, none, none, none, none, none, none, none, none, none] [] w (ff_la_law_1062 E self68 a5 a6 a7 a9 a10 a11 a12 a13 a15 a16 a17 a20 a21 a24 a25 w) := by
  unfold ff_la_law_1062
  refine sm_aload_n ii_la_law_1062 rfl ?_
  refine sm_iconst (2 : Int32) ii_la_law_1063 (by decide) ?_
  refine sm_iload ii_la_law_1064 rfl ?_
  refine sm_cvI [.int (2 : Int32), .int a24] [] rfl ii_la_law_1066 ml_la_114 (mf_ho_row) (mv_ho_row) (Nat.le_of_ble_eq_true rfl) rfl 6 rfl rfl rfl rfl (mc_ho_row ((2 : Int32)) (a24) w) (fun x197 w198 => ?_)
  refine sm_iload ii_la_law_1069 rfl ?_
  refine sm_icmp_eq 1076 ii_la_law_1071 (by decide) ?_ ?_
  · refine sm_iconst (0 : Int32) ii_la_law_1076 (by decide) ?_
    refine sm_istore [some (.ref 999), some (.ref 0), some (.ref 62), some (.ref 63), some (.ref 64), some (.int a5), some (.int a6), some (.long a7), none, some (.int a9), some (.int a10), some (.int a11), some (.int a12), some (.int a13), none, some (.int a15), some (.int a16), some (.int a17), none, none, some (.int a20), some (.long a21), none, none, some (.int a24), some (.int a25), none, some (.int (0 : Int32)), none, none, none, none, none, none, none, none, none, none, none, none, none, none, none, none, none] ii_la_law_1077 rfl rfl ?_
    exact ss_la_law_1079 self68 hself68 (a5) (a6) (a7) (a9) (a10) (a11) (a12) (a13) (a15) (a16) (a17) (a20) (a21) (a24) (a25) ((0 : Int32)) w198
  · refine sm_iconst (0 : Int32) ii_la_law_1074 (by decide) ?_
    exact sm_zret1 ii_la_law_1075 rfl (by decide)
noncomputable def ff_la_law_960 (E : Nat × (Nat → Int32)) (self68 : Int32 → Int32 → Int64 → Int32 → sm_Mem → sm_R) (self933 : Int32 → Int32 → Int64 → Int32 → Int32 → Int32 → Int32 → Int32 → Int32 → Int32 → Int32 → Int32 → Int64 → Int32 → Int32 → Int32 → Int32 → Int32 → Int32 → sm_Mem → sm_R) (a5 : Int32) (a6 : Int32) (a7 : Int64) (a9 : Int32) (a10 : Int32) (a11 : Int32) (a12 : Int32) (a13 : Int32) (a15 : Int32) (a16 : Int32) (a17 : Int32) (a20 : Int32) (a21 : Int64) (a23 : Int32) (a24 : Int32) (a25 : Int32) (a26 : Int32) (a27 : Int32) (a28 : Int32) (b0 : Int32) (w : sm_Mem) : sm_R := (if b0 < (0 : Int32) then (some (.int (0 : Int32), w)) else (if a5 ≤ b0 then (some (.int (0 : Int32), w)) else (Option.bind (sm_rd w 64 8 a28) fun x199 => (sm_cI (ff_ho_say (b0) (x199) w) fun x200 w201 => (if x200 = ((a13 + a28) + (1 : Int32)) then self933 (a5) (a6) (a7) (a9) (a10) (a11) (a12) (a13) (a15) (a16) (a17) (a20) (a21) (a23) (a24) (a25) (a26) ((a27 ||| ((1 : Int32) <<< (b0 &&& (31 : Int32))))) ((a28 + (1 : Int32))) w201 else (some (.int (0 : Int32), w201)))))))
set_option maxHeartbeats 4000000 in
set_option maxRecDepth 100000 in
theorem ss_la_law_960 {E : Nat × (Nat → Int32)} (self68 : Int32 → Int32 → Int64 → Int32 → sm_Mem → sm_R) (hself68 : ∀ (a5 : Int32) (a6 : Int32) (a7 : Int64) (a9 : Int32) (w : sm_Mem), sm_Sim E (mi_la_law) 68 [some (.ref 999), some (.ref 0), some (.ref 62), some (.ref 63), some (.ref 64), some (.int a5), some (.int a6), some (.long a7), none, some (.int a9), none, none, none, none, none, none, none, none, none, none, none, none, none, none, none, none, none, none, none, none, none, none, none, none, none, none, none, none, none, none, none, none, none, none, none] [] w (self68 a5 a6 a7 a9 w)) (self933 : Int32 → Int32 → Int64 → Int32 → Int32 → Int32 → Int32 → Int32 → Int32 → Int32 → Int32 → Int32 → Int64 → Int32 → Int32 → Int32 → Int32 → Int32 → Int32 → sm_Mem → sm_R) (hself933 : ∀ (a5 : Int32) (a6 : Int32) (a7 : Int64) (a9 : Int32) (a10 : Int32) (a11 : Int32) (a12 : Int32) (a13 : Int32) (a15 : Int32) (a16 : Int32) (a17 : Int32) (a20 : Int32) (a21 : Int64) (a23 : Int32) (a24 : Int32) (a25 : Int32) (a26 : Int32) (a27 : Int32) (a28 : Int32) (w : sm_Mem), sm_Sim E (mi_la_law) 933 [some (.ref 999), some (.ref 0), some (.ref 62), some (.ref 63), some (.ref 64), some (.int a5), some (.int a6), some (.long a7), none, some (.int a9), some (.int a10), some (.int a11), some (.int a12), some (.int a13), none, some (.int a15), some (.int a16), some (.int a17), none, none, some (.int a20), some (.long a21), none, some (.int a23), some (.int a24), some (.int a25), some (.int a26), some (.int a27), some (.int a28), none, none, none, none, none, none, none, none, none, none, none, none, none, none, none, none] [] w (self933 a5 a6 a7 a9 a10 a11 a12 a13 a15 a16 a17 a20 a21 a23 a24 a25 a26 a27 a28 w)) (a5 : Int32) (a6 : Int32) (a7 : Int64) (a9 : Int32) (a10 : Int32) (a11 : Int32) (a12 : Int32) (a13 : Int32) (a15 : Int32) (a16 : Int32) (a17 : Int32) (a20 : Int32) (a21 : Int64) (a23 : Int32) (a24 : Int32) (a25 : Int32) (a26 : Int32) (a27 : Int32) (a28 : Int32) (b0 : Int32) (w : sm_Mem) : sm_Sim E (mi_la_law) 960 [some (.ref 999), some (.ref 0), some (.ref 62), some (.ref 63), some (.ref 64), some (.int a5), some (.int a6), some (.long a7), none, some (.int a9), some (.int a10), some (.int a11), some (.int a12), some (.int a13), none, some (.int a15), some (.int a16), some (.int a17), none, none, some (.int a20), some (.long a21), none, some (.int a23), some (.int a24), some (.int a25), some (.int a26), some (.int a27), some (.int a28), none, none, none, none, none, none, none, none, none, none, none, none, none, none, none, none] [.int b0] w (ff_la_law_960 E self68 self933 a5 a6 a7 a9 a10 a11 a12 a13 a15 a16 a17 a20 a21 a23 a24 a25 a26 a27 a28 b0 w) := by
  unfold ff_la_law_960
  refine sm_istore [some (.ref 999), some (.ref 0), some (.ref 62), some (.ref 63), some (.ref 64), some (.int a5), some (.int a6), some (.long a7), none, some (.int a9), some (.int a10), some (.int a11), some (.int a12), some (.int a13), none, some (.int a15), some (.int a16), some (.int a17), none, none, some (.int a20), some (.long a21), none, some (.int a23), some (.int a24), some (.int a25), some (.int a26), some (.int a27), some (.int a28), some (.int b0), none, none, none, none, none, none, none, none, none, none, none, none, none, none, none] ii_la_law_960 rfl rfl ?_
  refine sm_iload ii_la_law_962 rfl ?_
  refine sm_if_lt 995 ii_la_law_964 (by decide) ?_ ?_
  · refine sm_iconst (0 : Int32) ii_la_law_995 (by decide) ?_
    exact sm_zret1 ii_la_law_996 rfl (by decide)
  · refine sm_iload ii_la_law_967 rfl ?_
    refine sm_iload ii_la_law_969 rfl ?_
    refine sm_icmp_ge 995 ii_la_law_971 (by decide) ?_ ?_
    · refine sm_iconst (0 : Int32) ii_la_law_995 (by decide) ?_
      exact sm_zret1 ii_la_law_996 rfl (by decide)
    · refine sm_aload_n ii_la_law_974 rfl ?_
      refine sm_iload ii_la_law_975 rfl ?_
      refine sm_aload ii_la_law_977 rfl ?_
      refine sm_iload ii_la_law_979 rfl ?_
      refine sm_iald ii_la_law_981 (k := 64) rfl (fun x199 => ?_)
      refine sm_cvI [.int b0, .int x199] [] rfl ii_la_law_982 ml_la_58 (mf_ho_say) (mv_ho_say) (Nat.le_of_ble_eq_true rfl) rfl 6 rfl rfl rfl rfl (mc_ho_say (b0) (x199) w) (fun x200 w201 => ?_)
      refine sm_iload ii_la_law_985 rfl ?_
      refine sm_iload ii_la_law_987 rfl ?_
      refine sm_iadd ii_la_law_989 ?_
      refine sm_iconst (1 : Int32) ii_la_law_990 (by decide) ?_
      refine sm_iadd ii_la_law_991 ?_
      refine sm_icmp_eq 997 ii_la_law_992 (by decide) ?_ ?_
      · refine sm_iload ii_la_law_997 rfl ?_
        refine sm_iconst (1 : Int32) ii_la_law_999 (by decide) ?_
        refine sm_iload ii_la_law_1000 rfl ?_
        refine sm_ishl ii_la_law_1002 ?_
        refine sm_ior ii_la_law_1003 ?_
        refine sm_istore [some (.ref 999), some (.ref 0), some (.ref 62), some (.ref 63), some (.ref 64), some (.int a5), some (.int a6), some (.long a7), none, some (.int a9), some (.int a10), some (.int a11), some (.int a12), some (.int a13), none, some (.int a15), some (.int a16), some (.int a17), none, none, some (.int a20), some (.long a21), none, some (.int a23), some (.int a24), some (.int a25), some (.int a26), some (.int (a27 ||| ((1 : Int32) <<< (b0 &&& (31 : Int32))))), some (.int a28), some (.int b0), none, none, none, none, none, none, none, none, none, none, none, none, none, none, none] ii_la_law_1004 rfl rfl ?_
        refine sm_iinc (a28 + (1 : Int32)) [some (.ref 999), some (.ref 0), some (.ref 62), some (.ref 63), some (.ref 64), some (.int a5), some (.int a6), some (.long a7), none, some (.int a9), some (.int a10), some (.int a11), some (.int a12), some (.int a13), none, some (.int a15), some (.int a16), some (.int a17), none, none, some (.int a20), some (.long a21), none, some (.int a23), some (.int a24), some (.int a25), some (.int a26), some (.int (a27 ||| ((1 : Int32) <<< (b0 &&& (31 : Int32))))), some (.int (a28 + (1 : Int32))), some (.int b0), none, none, none, none, none, none, none, none, none, none, none, none, none, none, none] ii_la_law_1006 rfl rfl rfl rfl ?_
        refine sm_goto 933 ii_la_law_1009 (by decide) ?_
        refine sm_msk [true, true, true, true, true, true, true, true, false, true, true, true, true, true, false, true, true, true, false, false, true, true, false, true, true, true, true, true, true, false, false, false, false, false, false, false, false, false, false, false, false, false, false, false, false] [some (.ref 999), some (.ref 0), some (.ref 62), some (.ref 63), some (.ref 64), some (.int a5), some (.int a6), some (.long a7), none, some (.int a9), some (.int a10), some (.int a11), some (.int a12), some (.int a13), none, some (.int a15), some (.int a16), some (.int a17), none, none, some (.int a20), some (.long a21), none, some (.int a23), some (.int a24), some (.int a25), some (.int a26), some (.int (a27 ||| ((1 : Int32) <<< (b0 &&& (31 : Int32))))), some (.int (a28 + (1 : Int32))), none, none, none, none, none, none, none, none, none, none, none, none, none, none, none, none] rfl ?_
        exact hself933 (a5) (a6) (a7) (a9) (a10) (a11) (a12) (a13) (a15) (a16) (a17) (a20) (a21) (a23) (a24) (a25) (a26) ((a27 ||| ((1 : Int32) <<< (b0 &&& (31 : Int32))))) ((a28 + (1 : Int32))) w201
      · refine sm_iconst (0 : Int32) ii_la_law_995 (by decide) ?_
        exact sm_zret1 ii_la_law_996 rfl (by decide)
noncomputable def ff_la_law_933_b (E : Nat × (Nat → Int32)) (self68 : Int32 → Int32 → Int64 → Int32 → sm_Mem → sm_R) (self933 : Int32 → Int32 → Int64 → Int32 → Int32 → Int32 → Int32 → Int32 → Int32 → Int32 → Int32 → Int32 → Int64 → Int32 → Int32 → Int32 → Int32 → Int32 → Int32 → sm_Mem → sm_R) (a5 : Int32) (a6 : Int32) (a7 : Int64) (a9 : Int32) (a10 : Int32) (a11 : Int32) (a12 : Int32) (a13 : Int32) (a15 : Int32) (a16 : Int32) (a17 : Int32) (a20 : Int32) (a21 : Int64) (a23 : Int32) (a24 : Int32) (a25 : Int32) (a26 : Int32) (a27 : Int32) (a28 : Int32) (w : sm_Mem) : sm_R := (if a20 ≤ a28 then (sm_cI (ff_la_bits (a27) w) fun x202 w203 => (if x202 = a26 then (if (a23 &&& (a27 ^^^ (-1 : Int32))) = (0 : Int32) then (sm_cI (ff_ho_at ((1 : Int32)) (a20) w203) fun x204 w205 => (if x204 = (-3 : Int32) then (if a20 ≤ (0 : Int32) then ff_la_law_1062 E self68 (a5) (a6) (a7) (a9) (a10) (a11) (a12) (a13) (a15) (a16) (a17) (a20) (a21) (a24) (a25) w205 else (sm_cI (ff_ho_undo (a11) w205) fun x206 w207 => (if x206 = a20 then ff_la_law_1062 E self68 (a5) (a6) (a7) (a9) (a10) (a11) (a12) (a13) (a15) (a16) (a17) (a20) (a21) (a24) (a25) w207 else (some (.int (0 : Int32), w207))))) else (some (.int (0 : Int32), w205)))) else (some (.int (0 : Int32), w203))) else (some (.int (0 : Int32), w203)))) else (sm_cI (ff_ho_at ((1 : Int32)) (a28) w) fun x208 w209 => (if x208 = (1 : Int32) then (sm_cI (ff_ho_asked  w209) fun x210 w211 => ff_la_law_960 E self68 self933 (a5) (a6) (a7) (a9) (a10) (a11) (a12) (a13) (a15) (a16) (a17) (a20) (a21) (a23) (a24) (a25) (a26) (a27) (a28) (x210) w211) else ff_la_law_960 E self68 self933 (a5) (a6) (a7) (a9) (a10) (a11) (a12) (a13) (a15) (a16) (a17) (a20) (a21) (a23) (a24) (a25) (a26) (a27) (a28) ((-99 : Int32)) w209)))
noncomputable def ff_la_law_933_f (E : Nat × (Nat → Int32)) (self68 : Int32 → Int32 → Int64 → Int32 → sm_Mem → sm_R) : Nat → Int32 → Int32 → Int64 → Int32 → Int32 → Int32 → Int32 → Int32 → Int32 → Int32 → Int32 → Int32 → Int64 → Int32 → Int32 → Int32 → Int32 → Int32 → Int32 → sm_Mem → sm_R
  | 0, _, _, _, _, _, _, _, _, _, _, _, _, _, _, _, _, _, _, _, _ => none
  | n + 1, a5, a6, a7, a9, a10, a11, a12, a13, a15, a16, a17, a20, a21, a23, a24, a25, a26, a27, a28, w => ff_la_law_933_b E self68 (ff_la_law_933_f E self68 n) a5 a6 a7 a9 a10 a11 a12 a13 a15 a16 a17 a20 a21 a23 a24 a25 a26 a27 a28 w
noncomputable def ff_la_law_933 (E : Nat × (Nat → Int32)) (self68 : Int32 → Int32 → Int64 → Int32 → sm_Mem → sm_R) (a5 : Int32) (a6 : Int32) (a7 : Int64) (a9 : Int32) (a10 : Int32) (a11 : Int32) (a12 : Int32) (a13 : Int32) (a15 : Int32) (a16 : Int32) (a17 : Int32) (a20 : Int32) (a21 : Int64) (a23 : Int32) (a24 : Int32) (a25 : Int32) (a26 : Int32) (a27 : Int32) (a28 : Int32) (w : sm_Mem) : sm_R := ff_la_law_933_f E self68 sm_N a5 a6 a7 a9 a10 a11 a12 a13 a15 a16 a17 a20 a21 a23 a24 a25 a26 a27 a28 w
set_option maxHeartbeats 4000000 in
set_option maxRecDepth 100000 in
theorem ss_la_law_933_b {E : Nat × (Nat → Int32)} (self68 : Int32 → Int32 → Int64 → Int32 → sm_Mem → sm_R) (hself68 : ∀ (a5 : Int32) (a6 : Int32) (a7 : Int64) (a9 : Int32) (w : sm_Mem), sm_Sim E (mi_la_law) 68 [some (.ref 999), some (.ref 0), some (.ref 62), some (.ref 63), some (.ref 64), some (.int a5), some (.int a6), some (.long a7), none, some (.int a9), none, none, none, none, none, none, none, none, none, none, none, none, none, none, none, none, none, none, none, none, none, none, none, none, none, none, none, none, none, none, none, none, none, none, none] [] w (self68 a5 a6 a7 a9 w)) (self933 : Int32 → Int32 → Int64 → Int32 → Int32 → Int32 → Int32 → Int32 → Int32 → Int32 → Int32 → Int32 → Int64 → Int32 → Int32 → Int32 → Int32 → Int32 → Int32 → sm_Mem → sm_R) (hself933 : ∀ (a5 : Int32) (a6 : Int32) (a7 : Int64) (a9 : Int32) (a10 : Int32) (a11 : Int32) (a12 : Int32) (a13 : Int32) (a15 : Int32) (a16 : Int32) (a17 : Int32) (a20 : Int32) (a21 : Int64) (a23 : Int32) (a24 : Int32) (a25 : Int32) (a26 : Int32) (a27 : Int32) (a28 : Int32) (w : sm_Mem), sm_Sim E (mi_la_law) 933 [some (.ref 999), some (.ref 0), some (.ref 62), some (.ref 63), some (.ref 64), some (.int a5), some (.int a6), some (.long a7), none, some (.int a9), some (.int a10), some (.int a11), some (.int a12), some (.int a13), none, some (.int a15), some (.int a16), some (.int a17), none, none, some (.int a20), some (.long a21), none, some (.int a23), some (.int a24), some (.int a25), some (.int a26), some (.int a27), some (.int a28), none, none, none, none, none, none, none, none, none, none, none, none, none, none, none, none] [] w (self933 a5 a6 a7 a9 a10 a11 a12 a13 a15 a16 a17 a20 a21 a23 a24 a25 a26 a27 a28 w)) (a5 : Int32) (a6 : Int32) (a7 : Int64) (a9 : Int32) (a10 : Int32) (a11 : Int32) (a12 : Int32) (a13 : Int32) (a15 : Int32) (a16 : Int32) (a17 : Int32) (a20 : Int32) (a21 : Int64) (a23 : Int32) (a24 : Int32) (a25 : Int32) (a26 : Int32) (a27 : Int32) (a28 : Int32) (w : sm_Mem) : sm_Sim E (mi_la_law) 933 [some (.ref 999), some (.ref 0), some (.ref 62), some (.ref 63), some (.ref 64), some (.int a5), some (.int a6), some (.long a7), none, some (.int a9), some (.int a10), some (.int a11), some (.int a12), some (.int a13), none, some (.int a15), some (.int a16), some (.int a17), none, none, some (.int a20), some (.long a21), none, some (.int a23), some (.int a24), some (.int a25), some (.int a26), some (.int a27), some (.int a28), none, none, none, none, none, none, none, none, none, none, none, none, none, none, none, none] [] w (ff_la_law_933_b E self68 self933 a5 a6 a7 a9 a10 a11 a12 a13 a15 a16 a17 a20 a21 a23 a24 a25 a26 a27 a28 w) := by
  unfold ff_la_law_933_b
  refine sm_iload ii_la_law_933 rfl ?_
  refine sm_iload ii_la_law_935 rfl ?_
  refine sm_icmp_ge 1012 ii_la_law_937 (by decide) ?_ ?_
  · refine sm_iload ii_la_law_1012 rfl ?_
    refine sm_csI [.int a27] [] rfl ii_la_law_1014 ml_la_134 (mf_la_bits) (mv_la_bits) (Nat.le_of_ble_eq_true rfl) rfl rfl rfl (mc_la_bits (a27) w) (fun x202 w203 => ?_)
    refine sm_iload ii_la_law_1017 rfl ?_
    refine sm_icmp_ne 1060 ii_la_law_1019 (by decide) ?_ ?_
    · refine sm_iload ii_la_law_1022 rfl ?_
      refine sm_iload ii_la_law_1024 rfl ?_
      refine sm_iconst (-1 : Int32) ii_la_law_1026 (by decide) ?_
      refine sm_ixor ii_la_law_1027 ?_
      refine sm_iand ii_la_law_1028 ?_
      refine sm_if_ne 1060 ii_la_law_1029 (by decide) ?_ ?_
      · refine sm_aload_n ii_la_law_1032 rfl ?_
        refine sm_iconst (1 : Int32) ii_la_law_1033 (by decide) ?_
        refine sm_iload ii_la_law_1034 rfl ?_
        refine sm_cvI [.int (1 : Int32), .int a20] [] rfl ii_la_law_1036 ml_la_137 (mf_ho_at) (mv_ho_at) (Nat.le_of_ble_eq_true rfl) rfl 6 rfl rfl rfl rfl (mc_ho_at ((1 : Int32)) (a20) w203) (fun x204 w205 => ?_)
        refine sm_bipush (-3 : Int32) ii_la_law_1039 (by decide) ?_
        refine sm_icmp_ne 1060 ii_la_law_1041 (by decide) ?_ ?_
        · refine sm_iload ii_la_law_1044 rfl ?_
          refine sm_if_le 1062 ii_la_law_1046 (by decide) ?_ ?_
          · refine sm_msk [true, true, true, true, true, true, true, true, false, true, true, true, true, true, false, true, true, true, false, false, true, true, false, false, true, true, false, false, false, false, false, false, false, false, false, false, false, false, false, false, false, false, false, false, false] [some (.ref 999), some (.ref 0), some (.ref 62), some (.ref 63), some (.ref 64), some (.int a5), some (.int a6), some (.long a7), none, some (.int a9), some (.int a10), some (.int a11), some (.int a12), some (.int a13), none, some (.int a15), some (.int a16), some (.int a17), none, none, some (.int a20), some (.long a21), none, none, some (.int a24), some (.int a25), none, none, none, none, none, none, none, none, none, none, none, none, none, none, none, none, none, none, none] rfl ?_
            exact ss_la_law_1062 self68 hself68 (a5) (a6) (a7) (a9) (a10) (a11) (a12) (a13) (a15) (a16) (a17) (a20) (a21) (a24) (a25) w205
          · refine sm_aload_n ii_la_law_1049 rfl ?_
            refine sm_iload ii_la_law_1050 rfl ?_
            refine sm_cvI [.int a11] [] rfl ii_la_law_1052 ml_la_111 (mf_ho_undo) (mv_ho_undo) (Nat.le_of_ble_eq_true rfl) rfl 6 rfl rfl rfl rfl (mc_ho_undo (a11) w205) (fun x206 w207 => ?_)
            refine sm_iload ii_la_law_1055 rfl ?_
            refine sm_icmp_eq 1062 ii_la_law_1057 (by decide) ?_ ?_
            · refine sm_msk [true, true, true, true, true, true, true, true, false, true, true, true, true, true, false, true, true, true, false, false, true, true, false, false, true, true, false, false, false, false, false, false, false, false, false, false, false, false, false, false, false, false, false, false, false] [some (.ref 999), some (.ref 0), some (.ref 62), some (.ref 63), some (.ref 64), some (.int a5), some (.int a6), some (.long a7), none, some (.int a9), some (.int a10), some (.int a11), some (.int a12), some (.int a13), none, some (.int a15), some (.int a16), some (.int a17), none, none, some (.int a20), some (.long a21), none, none, some (.int a24), some (.int a25), none, none, none, none, none, none, none, none, none, none, none, none, none, none, none, none, none, none, none] rfl ?_
              exact ss_la_law_1062 self68 hself68 (a5) (a6) (a7) (a9) (a10) (a11) (a12) (a13) (a15) (a16) (a17) (a20) (a21) (a24) (a25) w207
            · refine sm_iconst (0 : Int32) ii_la_law_1060 (by decide) ?_
              exact sm_zret1 ii_la_law_1061 rfl (by decide)
        · refine sm_iconst (0 : Int32) ii_la_law_1060 (by decide) ?_
          exact sm_zret1 ii_la_law_1061 rfl (by decide)
      · refine sm_iconst (0 : Int32) ii_la_law_1060 (by decide) ?_
        exact sm_zret1 ii_la_law_1061 rfl (by decide)
    · refine sm_iconst (0 : Int32) ii_la_law_1060 (by decide) ?_
      exact sm_zret1 ii_la_law_1061 rfl (by decide)
  · refine sm_aload_n ii_la_law_940 rfl ?_
    refine sm_iconst (1 : Int32) ii_la_law_941 (by decide) ?_
    refine sm_iload ii_la_law_942 rfl ?_
    refine sm_cvI [.int (1 : Int32), .int a28] [] rfl ii_la_law_944 ml_la_137 (mf_ho_at) (mv_ho_at) (Nat.le_of_ble_eq_true rfl) rfl 6 rfl rfl rfl rfl (mc_ho_at ((1 : Int32)) (a28) w) (fun x208 w209 => ?_)
    refine sm_iconst (1 : Int32) ii_la_law_947 (by decide) ?_
    refine sm_icmp_ne 958 ii_la_law_948 (by decide) ?_ ?_
    · refine sm_aload_n ii_la_law_951 rfl ?_
      refine sm_cvI [] [] rfl ii_la_law_952 ml_la_78 (mf_ho_asked) (mv_ho_asked) (Nat.le_of_ble_eq_true rfl) rfl 6 rfl rfl rfl rfl (mc_ho_asked  w209) (fun x210 w211 => ?_)
      refine sm_goto 960 ii_la_law_955 (by decide) ?_
      exact ss_la_law_960 self68 hself68 self933 hself933 (a5) (a6) (a7) (a9) (a10) (a11) (a12) (a13) (a15) (a16) (a17) (a20) (a21) (a23) (a24) (a25) (a26) (a27) (a28) (x210) w211
    · refine sm_bipush (-99 : Int32) ii_la_law_958 (by decide) ?_
      exact ss_la_law_960 self68 hself68 self933 hself933 (a5) (a6) (a7) (a9) (a10) (a11) (a12) (a13) (a15) (a16) (a17) (a20) (a21) (a23) (a24) (a25) (a26) (a27) (a28) ((-99 : Int32)) w209
set_option maxHeartbeats 4000000 in
set_option maxRecDepth 100000 in
theorem ss_la_law_933_f {E : Nat × (Nat → Int32)} (self68 : Int32 → Int32 → Int64 → Int32 → sm_Mem → sm_R) (hself68 : ∀ (a5 : Int32) (a6 : Int32) (a7 : Int64) (a9 : Int32) (w : sm_Mem), sm_Sim E (mi_la_law) 68 [some (.ref 999), some (.ref 0), some (.ref 62), some (.ref 63), some (.ref 64), some (.int a5), some (.int a6), some (.long a7), none, some (.int a9), none, none, none, none, none, none, none, none, none, none, none, none, none, none, none, none, none, none, none, none, none, none, none, none, none, none, none, none, none, none, none, none, none, none, none] [] w (self68 a5 a6 a7 a9 w)) : ∀ (n : Nat) (a5 : Int32) (a6 : Int32) (a7 : Int64) (a9 : Int32) (a10 : Int32) (a11 : Int32) (a12 : Int32) (a13 : Int32) (a15 : Int32) (a16 : Int32) (a17 : Int32) (a20 : Int32) (a21 : Int64) (a23 : Int32) (a24 : Int32) (a25 : Int32) (a26 : Int32) (a27 : Int32) (a28 : Int32) (w : sm_Mem), sm_Sim E (mi_la_law) 933 [some (.ref 999), some (.ref 0), some (.ref 62), some (.ref 63), some (.ref 64), some (.int a5), some (.int a6), some (.long a7), none, some (.int a9), some (.int a10), some (.int a11), some (.int a12), some (.int a13), none, some (.int a15), some (.int a16), some (.int a17), none, none, some (.int a20), some (.long a21), none, some (.int a23), some (.int a24), some (.int a25), some (.int a26), some (.int a27), some (.int a28), none, none, none, none, none, none, none, none, none, none, none, none, none, none, none, none] [] w (ff_la_law_933_f E self68 n a5 a6 a7 a9 a10 a11 a12 a13 a15 a16 a17 a20 a21 a23 a24 a25 a26 a27 a28 w)
  | 0, _, _, _, _, _, _, _, _, _, _, _, _, _, _, _, _, _, _, _, _ => fun _ _ h => by cases h
  | n + 1, a5, a6, a7, a9, a10, a11, a12, a13, a15, a16, a17, a20, a21, a23, a24, a25, a26, a27, a28, w => ss_la_law_933_b self68 hself68 _ (ss_la_law_933_f self68 hself68 n) a5 a6 a7 a9 a10 a11 a12 a13 a15 a16 a17 a20 a21 a23 a24 a25 a26 a27 a28 w
set_option maxHeartbeats 4000000 in
set_option maxRecDepth 100000 in
theorem ss_la_law_933 {E : Nat × (Nat → Int32)} (self68 : Int32 → Int32 → Int64 → Int32 → sm_Mem → sm_R) (hself68 : ∀ (a5 : Int32) (a6 : Int32) (a7 : Int64) (a9 : Int32) (w : sm_Mem), sm_Sim E (mi_la_law) 68 [some (.ref 999), some (.ref 0), some (.ref 62), some (.ref 63), some (.ref 64), some (.int a5), some (.int a6), some (.long a7), none, some (.int a9), none, none, none, none, none, none, none, none, none, none, none, none, none, none, none, none, none, none, none, none, none, none, none, none, none, none, none, none, none, none, none, none, none, none, none] [] w (self68 a5 a6 a7 a9 w)) (a5 : Int32) (a6 : Int32) (a7 : Int64) (a9 : Int32) (a10 : Int32) (a11 : Int32) (a12 : Int32) (a13 : Int32) (a15 : Int32) (a16 : Int32) (a17 : Int32) (a20 : Int32) (a21 : Int64) (a23 : Int32) (a24 : Int32) (a25 : Int32) (a26 : Int32) (a27 : Int32) (a28 : Int32) (w : sm_Mem) : sm_Sim E (mi_la_law) 933 [some (.ref 999), some (.ref 0), some (.ref 62), some (.ref 63), some (.ref 64), some (.int a5), some (.int a6), some (.long a7), none, some (.int a9), some (.int a10), some (.int a11), some (.int a12), some (.int a13), none, some (.int a15), some (.int a16), some (.int a17), none, none, some (.int a20), some (.long a21), none, some (.int a23), some (.int a24), some (.int a25), some (.int a26), some (.int a27), some (.int a28), none, none, none, none, none, none, none, none, none, none, none, none, none, none, none, none] [] w (ff_la_law_933 E self68 a5 a6 a7 a9 a10 a11 a12 a13 a15 a16 a17 a20 a21 a23 a24 a25 a26 a27 a28 w) := ss_la_law_933_f self68 hself68 sm_N a5 a6 a7 a9 a10 a11 a12 a13 a15 a16 a17 a20 a21 a23 a24 a25 a26 a27 a28 w
noncomputable def ff_la_law_908 (E : Nat × (Nat → Int32)) (self68 : Int32 → Int32 → Int64 → Int32 → sm_Mem → sm_R) (a5 : Int32) (a6 : Int32) (a7 : Int64) (a9 : Int32) (a10 : Int32) (a11 : Int32) (a12 : Int32) (a13 : Int32) (a15 : Int32) (a16 : Int32) (a17 : Int32) (a20 : Int32) (a21 : Int64) (a23 : Int32) (a24 : Int32) (a25 : Int32) (a26 : Int32) (w : sm_Mem) : sm_R := (sm_cI (ff_la_bits (a23) w) fun x212 w213 => (if x212 ≤ a20 then (if (lg_cmp a21 (0 : Int64)) ≤ (0 : Int32) then ff_la_law_1062 E self68 (a5) (a6) (a7) (a9) (a10) (a11) (a12) (a13) (a15) (a16) (a17) (a20) (a21) (a24) (a25) w213 else ff_la_law_933 E self68 (a5) (a6) (a7) (a9) (a10) (a11) (a12) (a13) (a15) (a16) (a17) (a20) (a21) (a23) (a24) (a25) (a26) ((0 : Int32)) ((0 : Int32)) w213) else (some (.int (0 : Int32), w213))))
set_option maxHeartbeats 4000000 in
set_option maxRecDepth 100000 in
theorem ss_la_law_908 {E : Nat × (Nat → Int32)} (self68 : Int32 → Int32 → Int64 → Int32 → sm_Mem → sm_R) (hself68 : ∀ (a5 : Int32) (a6 : Int32) (a7 : Int64) (a9 : Int32) (w : sm_Mem), sm_Sim E (mi_la_law) 68 [some (.ref 999), some (.ref 0), some (.ref 62), some (.ref 63), some (.ref 64), some (.int a5), some (.int a6), some (.long a7), none, some (.int a9), none, none, none, none, none, none, none, none, none, none, none, none, none, none, none, none, none, none, none, none, none, none, none, none, none, none, none, none, none, none, none, none, none, none, none] [] w (self68 a5 a6 a7 a9 w)) (a5 : Int32) (a6 : Int32) (a7 : Int64) (a9 : Int32) (a10 : Int32) (a11 : Int32) (a12 : Int32) (a13 : Int32) (a15 : Int32) (a16 : Int32) (a17 : Int32) (a20 : Int32) (a21 : Int64) (a23 : Int32) (a24 : Int32) (a25 : Int32) (a26 : Int32) (w : sm_Mem) : sm_Sim E (mi_la_law) 908 [some (.ref 999), some (.ref 0), some (.ref 62), some (.ref 63), some (.ref 64), some (.int a5), some (.int a6), some (.long a7), none, some (.int a9), some (.int a10), some (.int a11), some (.int a12), some (.int a13), none, some (.int a15), some (.int a16), some (.int a17), none, none, some (.int a20), some (.long a21), none, some (.int a23), some (.int a24), some (.int a25), some (.int a26), none, none, none, none, none, none, none, none, none, none, none, none, none, none, none, none, none, none] [] w (ff_la_law_908 E self68 a5 a6 a7 a9 a10 a11 a12 a13 a15 a16 a17 a20 a21 a23 a24 a25 a26 w) := by
  unfold ff_la_law_908
  refine sm_iload ii_la_law_908 rfl ?_
  refine sm_csI [.int a23] [] rfl ii_la_law_910 ml_la_134 (mf_la_bits) (mv_la_bits) (Nat.le_of_ble_eq_true rfl) rfl rfl rfl (mc_la_bits (a23) w) (fun x212 w213 => ?_)
  refine sm_iload ii_la_law_913 rfl ?_
  refine sm_icmp_le 920 ii_la_law_915 (by decide) ?_ ?_
  · refine sm_lload ii_la_law_920 rfl ?_
    refine sm_lconst (0 : Int64) ii_la_law_922 (by decide) ?_
    refine sm_lcmp ii_la_law_923 ?_
    refine sm_if_le 1062 ii_la_law_924 (by decide) ?_ ?_
    · refine sm_msk [true, true, true, true, true, true, true, true, false, true, true, true, true, true, false, true, true, true, false, false, true, true, false, false, true, true, false, false, false, false, false, false, false, false, false, false, false, false, false, false, false, false, false, false, false] [some (.ref 999), some (.ref 0), some (.ref 62), some (.ref 63), some (.ref 64), some (.int a5), some (.int a6), some (.long a7), none, some (.int a9), some (.int a10), some (.int a11), some (.int a12), some (.int a13), none, some (.int a15), some (.int a16), some (.int a17), none, none, some (.int a20), some (.long a21), none, none, some (.int a24), some (.int a25), none, none, none, none, none, none, none, none, none, none, none, none, none, none, none, none, none, none, none] rfl ?_
      exact ss_la_law_1062 self68 hself68 (a5) (a6) (a7) (a9) (a10) (a11) (a12) (a13) (a15) (a16) (a17) (a20) (a21) (a24) (a25) w213
    · refine sm_iconst (0 : Int32) ii_la_law_927 (by decide) ?_
      refine sm_istore [some (.ref 999), some (.ref 0), some (.ref 62), some (.ref 63), some (.ref 64), some (.int a5), some (.int a6), some (.long a7), none, some (.int a9), some (.int a10), some (.int a11), some (.int a12), some (.int a13), none, some (.int a15), some (.int a16), some (.int a17), none, none, some (.int a20), some (.long a21), none, some (.int a23), some (.int a24), some (.int a25), some (.int a26), some (.int (0 : Int32)), none, none, none, none, none, none, none, none, none, none, none, none, none, none, none, none, none] ii_la_law_928 rfl rfl ?_
      refine sm_iconst (0 : Int32) ii_la_law_930 (by decide) ?_
      refine sm_istore [some (.ref 999), some (.ref 0), some (.ref 62), some (.ref 63), some (.ref 64), some (.int a5), some (.int a6), some (.long a7), none, some (.int a9), some (.int a10), some (.int a11), some (.int a12), some (.int a13), none, some (.int a15), some (.int a16), some (.int a17), none, none, some (.int a20), some (.long a21), none, some (.int a23), some (.int a24), some (.int a25), some (.int a26), some (.int (0 : Int32)), some (.int (0 : Int32)), none, none, none, none, none, none, none, none, none, none, none, none, none, none, none, none] ii_la_law_931 rfl rfl ?_
      exact ss_la_law_933 self68 hself68 (a5) (a6) (a7) (a9) (a10) (a11) (a12) (a13) (a15) (a16) (a17) (a20) (a21) (a23) (a24) (a25) (a26) ((0 : Int32)) ((0 : Int32)) w213
  · refine sm_iconst (0 : Int32) ii_la_law_918 (by decide) ?_
    exact sm_zret1 ii_la_law_919 rfl (by decide)
noncomputable def ff_la_law_869 (E : Nat × (Nat → Int32)) (self68 : Int32 → Int32 → Int64 → Int32 → sm_Mem → sm_R) (a5 : Int32) (a6 : Int32) (a7 : Int64) (a9 : Int32) (a10 : Int32) (a11 : Int32) (a12 : Int32) (a13 : Int32) (a15 : Int32) (a16 : Int32) (a17 : Int32) (a20 : Int32) (a21 : Int64) (a23 : Int32) (a24 : Int32) (a25 : Int32) (a26 : Int32) (b0 : Int32) (b1 : Int32) (w : sm_Mem) : sm_R := (if b0 = b1 then (if a20 < a26 then (some (.int (0 : Int32), w)) else (if a5 < a26 then (some (.int (0 : Int32), w)) else (if (a23 &&& (a6 ^^^ (-1 : Int32))) = (0 : Int32) then (if (lg_cmp a21 (0 : Int64)) = (0 : Int32) then (if a23 = (0 : Int32) then ff_la_law_908 E self68 (a5) (a6) (a7) (a9) (a10) (a11) (a12) (a13) (a15) (a16) (a17) (a20) (a21) (a23) (a24) (a25) (a26) w else (some (.int (0 : Int32), w))) else ff_la_law_908 E self68 (a5) (a6) (a7) (a9) (a10) (a11) (a12) (a13) (a15) (a16) (a17) (a20) (a21) (a23) (a24) (a25) (a26) w) else (some (.int (0 : Int32), w))))) else (some (.int (0 : Int32), w)))
set_option maxHeartbeats 4000000 in
set_option maxRecDepth 100000 in
theorem ss_la_law_869 {E : Nat × (Nat → Int32)} (self68 : Int32 → Int32 → Int64 → Int32 → sm_Mem → sm_R) (hself68 : ∀ (a5 : Int32) (a6 : Int32) (a7 : Int64) (a9 : Int32) (w : sm_Mem), sm_Sim E (mi_la_law) 68 [some (.ref 999), some (.ref 0), some (.ref 62), some (.ref 63), some (.ref 64), some (.int a5), some (.int a6), some (.long a7), none, some (.int a9), none, none, none, none, none, none, none, none, none, none, none, none, none, none, none, none, none, none, none, none, none, none, none, none, none, none, none, none, none, none, none, none, none, none, none] [] w (self68 a5 a6 a7 a9 w)) (a5 : Int32) (a6 : Int32) (a7 : Int64) (a9 : Int32) (a10 : Int32) (a11 : Int32) (a12 : Int32) (a13 : Int32) (a15 : Int32) (a16 : Int32) (a17 : Int32) (a20 : Int32) (a21 : Int64) (a23 : Int32) (a24 : Int32) (a25 : Int32) (a26 : Int32) (b0 : Int32) (b1 : Int32) (w : sm_Mem) : sm_Sim E (mi_la_law) 869 [some (.ref 999), some (.ref 0), some (.ref 62), some (.ref 63), some (.ref 64), some (.int a5), some (.int a6), some (.long a7), none, some (.int a9), some (.int a10), some (.int a11), some (.int a12), some (.int a13), none, some (.int a15), some (.int a16), some (.int a17), none, none, some (.int a20), some (.long a21), none, some (.int a23), some (.int a24), some (.int a25), some (.int a26), none, none, none, none, none, none, none, none, none, none, none, none, none, none, none, none, none, none] [.int b1, .int b0] w (ff_la_law_869 E self68 a5 a6 a7 a9 a10 a11 a12 a13 a15 a16 a17 a20 a21 a23 a24 a25 a26 b0 b1 w) := by
  unfold ff_la_law_869
  refine sm_icmp_ne 918 ii_la_law_869 (by decide) ?_ ?_
  · refine sm_iload ii_la_law_872 rfl ?_
    refine sm_iload ii_la_law_874 rfl ?_
    refine sm_icmp_gt 918 ii_la_law_876 (by decide) ?_ ?_
    · refine sm_iconst (0 : Int32) ii_la_law_918 (by decide) ?_
      exact sm_zret1 ii_la_law_919 rfl (by decide)
    · refine sm_iload ii_la_law_879 rfl ?_
      refine sm_iload ii_la_law_881 rfl ?_
      refine sm_icmp_gt 918 ii_la_law_883 (by decide) ?_ ?_
      · refine sm_iconst (0 : Int32) ii_la_law_918 (by decide) ?_
        exact sm_zret1 ii_la_law_919 rfl (by decide)
      · refine sm_iload ii_la_law_886 rfl ?_
        refine sm_iload ii_la_law_888 rfl ?_
        refine sm_iconst (-1 : Int32) ii_la_law_890 (by decide) ?_
        refine sm_ixor ii_la_law_891 ?_
        refine sm_iand ii_la_law_892 ?_
        refine sm_if_ne 918 ii_la_law_893 (by decide) ?_ ?_
        · refine sm_lload ii_la_law_896 rfl ?_
          refine sm_lconst (0 : Int64) ii_la_law_898 (by decide) ?_
          refine sm_lcmp ii_la_law_899 ?_
          refine sm_if_ne 908 ii_la_law_900 (by decide) ?_ ?_
          · refine sm_iload ii_la_law_903 rfl ?_
            refine sm_if_ne 918 ii_la_law_905 (by decide) ?_ ?_
            · exact ss_la_law_908 self68 hself68 (a5) (a6) (a7) (a9) (a10) (a11) (a12) (a13) (a15) (a16) (a17) (a20) (a21) (a23) (a24) (a25) (a26) w
            · refine sm_iconst (0 : Int32) ii_la_law_918 (by decide) ?_
              exact sm_zret1 ii_la_law_919 rfl (by decide)
          · exact ss_la_law_908 self68 hself68 (a5) (a6) (a7) (a9) (a10) (a11) (a12) (a13) (a15) (a16) (a17) (a20) (a21) (a23) (a24) (a25) (a26) w
        · refine sm_iconst (0 : Int32) ii_la_law_918 (by decide) ?_
          exact sm_zret1 ii_la_law_919 rfl (by decide)
  · refine sm_iconst (0 : Int32) ii_la_law_918 (by decide) ?_
    exact sm_zret1 ii_la_law_919 rfl (by decide)
noncomputable def ff_la_law_857 (E : Nat × (Nat → Int32)) (self68 : Int32 → Int32 → Int64 → Int32 → sm_Mem → sm_R) (a5 : Int32) (a6 : Int32) (a7 : Int64) (a9 : Int32) (a10 : Int32) (a11 : Int32) (a12 : Int32) (a13 : Int32) (a15 : Int32) (a16 : Int32) (a17 : Int32) (a20 : Int32) (a21 : Int64) (a23 : Int32) (a24 : Int32) (a25 : Int32) (a26 : Int32) (b0 : Int32) (w : sm_Mem) : sm_R := (if (lg_cmp a21 (0 : Int64)) = (0 : Int32) then ff_la_law_869 E self68 (a5) (a6) (a7) (a9) (a10) (a11) (a12) (a13) (a15) (a16) (a17) (a20) (a21) (a23) (a24) (a25) (a26) (b0) ((1 : Int32)) w else ff_la_law_869 E self68 (a5) (a6) (a7) (a9) (a10) (a11) (a12) (a13) (a15) (a16) (a17) (a20) (a21) (a23) (a24) (a25) (a26) (b0) ((0 : Int32)) w)
set_option maxHeartbeats 4000000 in
set_option maxRecDepth 100000 in
theorem ss_la_law_857 {E : Nat × (Nat → Int32)} (self68 : Int32 → Int32 → Int64 → Int32 → sm_Mem → sm_R) (hself68 : ∀ (a5 : Int32) (a6 : Int32) (a7 : Int64) (a9 : Int32) (w : sm_Mem), sm_Sim E (mi_la_law) 68 [some (.ref 999), some (.ref 0), some (.ref 62), some (.ref 63), some (.ref 64), some (.int a5), some (.int a6), some (.long a7), none, some (.int a9), none, none, none, none, none, none, none, none, none, none, none, none, none, none, none, none, none, none, none, none, none, none, none, none, none, none, none, none, none, none, none, none, none, none, none] [] w (self68 a5 a6 a7 a9 w)) (a5 : Int32) (a6 : Int32) (a7 : Int64) (a9 : Int32) (a10 : Int32) (a11 : Int32) (a12 : Int32) (a13 : Int32) (a15 : Int32) (a16 : Int32) (a17 : Int32) (a20 : Int32) (a21 : Int64) (a23 : Int32) (a24 : Int32) (a25 : Int32) (a26 : Int32) (b0 : Int32) (w : sm_Mem) : sm_Sim E (mi_la_law) 857 [some (.ref 999), some (.ref 0), some (.ref 62), some (.ref 63), some (.ref 64), some (.int a5), some (.int a6), some (.long a7), none, some (.int a9), some (.int a10), some (.int a11), some (.int a12), some (.int a13), none, some (.int a15), some (.int a16), some (.int a17), none, none, some (.int a20), some (.long a21), none, some (.int a23), some (.int a24), some (.int a25), some (.int a26), none, none, none, none, none, none, none, none, none, none, none, none, none, none, none, none, none, none] [.int b0] w (ff_la_law_857 E self68 a5 a6 a7 a9 a10 a11 a12 a13 a15 a16 a17 a20 a21 a23 a24 a25 a26 b0 w) := by
  unfold ff_la_law_857
  refine sm_lload ii_la_law_857 rfl ?_
  refine sm_lconst (0 : Int64) ii_la_law_859 (by decide) ?_
  refine sm_lcmp ii_la_law_860 ?_
  refine sm_if_ne 868 ii_la_law_861 (by decide) ?_ ?_
  · refine sm_iconst (1 : Int32) ii_la_law_864 (by decide) ?_
    refine sm_goto 869 ii_la_law_865 (by decide) ?_
    exact ss_la_law_869 self68 hself68 (a5) (a6) (a7) (a9) (a10) (a11) (a12) (a13) (a15) (a16) (a17) (a20) (a21) (a23) (a24) (a25) (a26) (b0) ((1 : Int32)) w
  · refine sm_iconst (0 : Int32) ii_la_law_868 (by decide) ?_
    exact ss_la_law_869 self68 hself68 (a5) (a6) (a7) (a9) (a10) (a11) (a12) (a13) (a15) (a16) (a17) (a20) (a21) (a23) (a24) (a25) (a26) (b0) ((0 : Int32)) w
noncomputable def ff_la_law_847 (E : Nat × (Nat → Int32)) (self68 : Int32 → Int32 → Int64 → Int32 → sm_Mem → sm_R) (a5 : Int32) (a6 : Int32) (a7 : Int64) (a9 : Int32) (a10 : Int32) (a11 : Int32) (a12 : Int32) (a13 : Int32) (a15 : Int32) (a16 : Int32) (a17 : Int32) (a20 : Int32) (a21 : Int64) (a23 : Int32) (a24 : Int32) (a25 : Int32) (a26 : Int32) (w : sm_Mem) : sm_R := (if (0 : Int32) ≤ a26 then ff_la_law_857 E self68 (a5) (a6) (a7) (a9) (a10) (a11) (a12) (a13) (a15) (a16) (a17) (a20) (a21) (a23) (a24) (a25) (a26) ((0 : Int32)) w else ff_la_law_857 E self68 (a5) (a6) (a7) (a9) (a10) (a11) (a12) (a13) (a15) (a16) (a17) (a20) (a21) (a23) (a24) (a25) (a26) ((1 : Int32)) w)
set_option maxHeartbeats 4000000 in
set_option maxRecDepth 100000 in
theorem ss_la_law_847 {E : Nat × (Nat → Int32)} (self68 : Int32 → Int32 → Int64 → Int32 → sm_Mem → sm_R) (hself68 : ∀ (a5 : Int32) (a6 : Int32) (a7 : Int64) (a9 : Int32) (w : sm_Mem), sm_Sim E (mi_la_law) 68 [some (.ref 999), some (.ref 0), some (.ref 62), some (.ref 63), some (.ref 64), some (.int a5), some (.int a6), some (.long a7), none, some (.int a9), none, none, none, none, none, none, none, none, none, none, none, none, none, none, none, none, none, none, none, none, none, none, none, none, none, none, none, none, none, none, none, none, none, none, none] [] w (self68 a5 a6 a7 a9 w)) (a5 : Int32) (a6 : Int32) (a7 : Int64) (a9 : Int32) (a10 : Int32) (a11 : Int32) (a12 : Int32) (a13 : Int32) (a15 : Int32) (a16 : Int32) (a17 : Int32) (a20 : Int32) (a21 : Int64) (a23 : Int32) (a24 : Int32) (a25 : Int32) (a26 : Int32) (w : sm_Mem) : sm_Sim E (mi_la_law) 847 [some (.ref 999), some (.ref 0), some (.ref 62), some (.ref 63), some (.ref 64), some (.int a5), some (.int a6), some (.long a7), none, some (.int a9), some (.int a10), some (.int a11), some (.int a12), some (.int a13), none, some (.int a15), some (.int a16), some (.int a17), none, none, some (.int a20), some (.long a21), none, some (.int a23), some (.int a24), some (.int a25), some (.int a26), none, none, none, none, none, none, none, none, none, none, none, none, none, none, none, none, none, none] [] w (ff_la_law_847 E self68 a5 a6 a7 a9 a10 a11 a12 a13 a15 a16 a17 a20 a21 a23 a24 a25 a26 w) := by
  unfold ff_la_law_847
  refine sm_iload ii_la_law_847 rfl ?_
  refine sm_if_ge 856 ii_la_law_849 (by decide) ?_ ?_
  · refine sm_iconst (0 : Int32) ii_la_law_856 (by decide) ?_
    exact ss_la_law_857 self68 hself68 (a5) (a6) (a7) (a9) (a10) (a11) (a12) (a13) (a15) (a16) (a17) (a20) (a21) (a23) (a24) (a25) (a26) ((0 : Int32)) w
  · refine sm_iconst (1 : Int32) ii_la_law_852 (by decide) ?_
    refine sm_goto 857 ii_la_law_853 (by decide) ?_
    exact ss_la_law_857 self68 hself68 (a5) (a6) (a7) (a9) (a10) (a11) (a12) (a13) (a15) (a16) (a17) (a20) (a21) (a23) (a24) (a25) (a26) ((1 : Int32)) w
noncomputable def ff_la_law_828 (E : Nat × (Nat → Int32)) (self68 : Int32 → Int32 → Int64 → Int32 → sm_Mem → sm_R) (a5 : Int32) (a6 : Int32) (a7 : Int64) (a9 : Int32) (a10 : Int32) (a11 : Int32) (a12 : Int32) (a13 : Int32) (a15 : Int32) (a16 : Int32) (a17 : Int32) (a20 : Int32) (a21 : Int64) (a23 : Int32) (a24 : Int32) (a25 : Int32) (a26 : Int32) (b0 : Int32) (b1 : Int32) (w : sm_Mem) : sm_R := (if b0 = b1 then (if a24 = a20 then (if (lg_cmp (Int32.toInt64 a25) a21) = (0 : Int32) then ff_la_law_847 E self68 (a5) (a6) (a7) (a9) (a10) (a11) (a12) (a13) (a15) (a16) (a17) (a20) (a21) (a23) (a24) (a25) (a26) w else (some (.int (0 : Int32), w))) else ff_la_law_847 E self68 (a5) (a6) (a7) (a9) (a10) (a11) (a12) (a13) (a15) (a16) (a17) (a20) (a21) (a23) (a24) (a25) (a26) w) else (some (.int (0 : Int32), w)))
set_option maxHeartbeats 4000000 in
set_option maxRecDepth 100000 in
theorem ss_la_law_828 {E : Nat × (Nat → Int32)} (self68 : Int32 → Int32 → Int64 → Int32 → sm_Mem → sm_R) (hself68 : ∀ (a5 : Int32) (a6 : Int32) (a7 : Int64) (a9 : Int32) (w : sm_Mem), sm_Sim E (mi_la_law) 68 [some (.ref 999), some (.ref 0), some (.ref 62), some (.ref 63), some (.ref 64), some (.int a5), some (.int a6), some (.long a7), none, some (.int a9), none, none, none, none, none, none, none, none, none, none, none, none, none, none, none, none, none, none, none, none, none, none, none, none, none, none, none, none, none, none, none, none, none, none, none] [] w (self68 a5 a6 a7 a9 w)) (a5 : Int32) (a6 : Int32) (a7 : Int64) (a9 : Int32) (a10 : Int32) (a11 : Int32) (a12 : Int32) (a13 : Int32) (a15 : Int32) (a16 : Int32) (a17 : Int32) (a20 : Int32) (a21 : Int64) (a23 : Int32) (a24 : Int32) (a25 : Int32) (a26 : Int32) (b0 : Int32) (b1 : Int32) (w : sm_Mem) : sm_Sim E (mi_la_law) 828 [some (.ref 999), some (.ref 0), some (.ref 62), some (.ref 63), some (.ref 64), some (.int a5), some (.int a6), some (.long a7), none, some (.int a9), some (.int a10), some (.int a11), some (.int a12), some (.int a13), none, some (.int a15), some (.int a16), some (.int a17), none, none, some (.int a20), some (.long a21), none, some (.int a23), some (.int a24), some (.int a25), some (.int a26), none, none, none, none, none, none, none, none, none, none, none, none, none, none, none, none, none, none] [.int b1, .int b0] w (ff_la_law_828 E self68 a5 a6 a7 a9 a10 a11 a12 a13 a15 a16 a17 a20 a21 a23 a24 a25 a26 b0 b1 w) := by
  unfold ff_la_law_828
  refine sm_icmp_ne 918 ii_la_law_828 (by decide) ?_ ?_
  · refine sm_iload ii_la_law_831 rfl ?_
    refine sm_iload ii_la_law_833 rfl ?_
    refine sm_icmp_ne 847 ii_la_law_835 (by decide) ?_ ?_
    · refine sm_iload ii_la_law_838 rfl ?_
      refine sm_i2l ii_la_law_840 ?_
      refine sm_lload ii_la_law_841 rfl ?_
      refine sm_lcmp ii_la_law_843 ?_
      refine sm_if_ne 918 ii_la_law_844 (by decide) ?_ ?_
      · exact ss_la_law_847 self68 hself68 (a5) (a6) (a7) (a9) (a10) (a11) (a12) (a13) (a15) (a16) (a17) (a20) (a21) (a23) (a24) (a25) (a26) w
      · refine sm_iconst (0 : Int32) ii_la_law_918 (by decide) ?_
        exact sm_zret1 ii_la_law_919 rfl (by decide)
    · exact ss_la_law_847 self68 hself68 (a5) (a6) (a7) (a9) (a10) (a11) (a12) (a13) (a15) (a16) (a17) (a20) (a21) (a23) (a24) (a25) (a26) w
  · refine sm_iconst (0 : Int32) ii_la_law_918 (by decide) ?_
    exact sm_zret1 ii_la_law_919 rfl (by decide)
noncomputable def ff_la_law_816 (E : Nat × (Nat → Int32)) (self68 : Int32 → Int32 → Int64 → Int32 → sm_Mem → sm_R) (a5 : Int32) (a6 : Int32) (a7 : Int64) (a9 : Int32) (a10 : Int32) (a11 : Int32) (a12 : Int32) (a13 : Int32) (a15 : Int32) (a16 : Int32) (a17 : Int32) (a20 : Int32) (a21 : Int64) (a23 : Int32) (a24 : Int32) (a25 : Int32) (a26 : Int32) (b0 : Int32) (w : sm_Mem) : sm_R := (if a24 = a20 then ff_la_law_828 E self68 (a5) (a6) (a7) (a9) (a10) (a11) (a12) (a13) (a15) (a16) (a17) (a20) (a21) (a23) (a24) (a25) (a26) (b0) ((1 : Int32)) w else ff_la_law_828 E self68 (a5) (a6) (a7) (a9) (a10) (a11) (a12) (a13) (a15) (a16) (a17) (a20) (a21) (a23) (a24) (a25) (a26) (b0) ((0 : Int32)) w)
set_option maxHeartbeats 4000000 in
set_option maxRecDepth 100000 in
theorem ss_la_law_816 {E : Nat × (Nat → Int32)} (self68 : Int32 → Int32 → Int64 → Int32 → sm_Mem → sm_R) (hself68 : ∀ (a5 : Int32) (a6 : Int32) (a7 : Int64) (a9 : Int32) (w : sm_Mem), sm_Sim E (mi_la_law) 68 [some (.ref 999), some (.ref 0), some (.ref 62), some (.ref 63), some (.ref 64), some (.int a5), some (.int a6), some (.long a7), none, some (.int a9), none, none, none, none, none, none, none, none, none, none, none, none, none, none, none, none, none, none, none, none, none, none, none, none, none, none, none, none, none, none, none, none, none, none, none] [] w (self68 a5 a6 a7 a9 w)) (a5 : Int32) (a6 : Int32) (a7 : Int64) (a9 : Int32) (a10 : Int32) (a11 : Int32) (a12 : Int32) (a13 : Int32) (a15 : Int32) (a16 : Int32) (a17 : Int32) (a20 : Int32) (a21 : Int64) (a23 : Int32) (a24 : Int32) (a25 : Int32) (a26 : Int32) (b0 : Int32) (w : sm_Mem) : sm_Sim E (mi_la_law) 816 [some (.ref 999), some (.ref 0), some (.ref 62), some (.ref 63), some (.ref 64), some (.int a5), some (.int a6), some (.long a7), none, some (.int a9), some (.int a10), some (.int a11), some (.int a12), some (.int a13), none, some (.int a15), some (.int a16), some (.int a17), none, none, some (.int a20), some (.long a21), none, some (.int a23), some (.int a24), some (.int a25), some (.int a26), none, none, none, none, none, none, none, none, none, none, none, none, none, none, none, none, none, none] [.int b0] w (ff_la_law_816 E self68 a5 a6 a7 a9 a10 a11 a12 a13 a15 a16 a17 a20 a21 a23 a24 a25 a26 b0 w) := by
  unfold ff_la_law_816
  refine sm_iload ii_la_law_816 rfl ?_
  refine sm_iload ii_la_law_818 rfl ?_
  refine sm_icmp_ne 827 ii_la_law_820 (by decide) ?_ ?_
  · refine sm_iconst (1 : Int32) ii_la_law_823 (by decide) ?_
    refine sm_goto 828 ii_la_law_824 (by decide) ?_
    exact ss_la_law_828 self68 hself68 (a5) (a6) (a7) (a9) (a10) (a11) (a12) (a13) (a15) (a16) (a17) (a20) (a21) (a23) (a24) (a25) (a26) (b0) ((1 : Int32)) w
  · refine sm_iconst (0 : Int32) ii_la_law_827 (by decide) ?_
    exact ss_la_law_828 self68 hself68 (a5) (a6) (a7) (a9) (a10) (a11) (a12) (a13) (a15) (a16) (a17) (a20) (a21) (a23) (a24) (a25) (a26) (b0) ((0 : Int32)) w
noncomputable def ff_la_law_750 (E : Nat × (Nat → Int32)) (self68 : Int32 → Int32 → Int64 → Int32 → sm_Mem → sm_R) (a5 : Int32) (a6 : Int32) (a7 : Int64) (a9 : Int32) (a10 : Int32) (a11 : Int32) (a12 : Int32) (a13 : Int32) (a15 : Int32) (a16 : Int32) (a17 : Int32) (a20 : Int32) (b0 : Int64) (w : sm_Mem) : sm_R := (sm_cI (ff_ho_asked  w) fun x214 w215 => (sm_cI (ff_ho_far ((0 : Int32)) w215) fun x216 w217 => (sm_cI (ff_ho_asked  w217) fun x218 w219 => (sm_cI (ff_ho_few ((0 : Int32)) ((1 : Int32)) w219) fun x220 w221 => (if (lg_cmp b0 (0 : Int64)) < (0 : Int32) then (some (.int (0 : Int32), w221)) else (if x216 < (0 : Int32) then (some (.int (0 : Int32), w221)) else (if a20 < x216 then (some (.int (0 : Int32), w221)) else (if x218 < (1 : Int32) then (some (.int (0 : Int32), w221)) else (if (lg_cmp b0 (0 : Int64)) ≤ (0 : Int32) then ff_la_law_816 E self68 (a5) (a6) (a7) (a9) (a10) (a11) (a12) (a13) (a15) (a16) (a17) (a20) (b0) (x214) (x216) (x218) (x220) ((0 : Int32)) w221 else ff_la_law_816 E self68 (a5) (a6) (a7) (a9) (a10) (a11) (a12) (a13) (a15) (a16) (a17) (a20) (b0) (x214) (x216) (x218) (x220) ((1 : Int32)) w221)))))))))
set_option maxHeartbeats 4000000 in
set_option maxRecDepth 100000 in
theorem ss_la_law_750 {E : Nat × (Nat → Int32)} (self68 : Int32 → Int32 → Int64 → Int32 → sm_Mem → sm_R) (hself68 : ∀ (a5 : Int32) (a6 : Int32) (a7 : Int64) (a9 : Int32) (w : sm_Mem), sm_Sim E (mi_la_law) 68 [some (.ref 999), some (.ref 0), some (.ref 62), some (.ref 63), some (.ref 64), some (.int a5), some (.int a6), some (.long a7), none, some (.int a9), none, none, none, none, none, none, none, none, none, none, none, none, none, none, none, none, none, none, none, none, none, none, none, none, none, none, none, none, none, none, none, none, none, none, none] [] w (self68 a5 a6 a7 a9 w)) (a5 : Int32) (a6 : Int32) (a7 : Int64) (a9 : Int32) (a10 : Int32) (a11 : Int32) (a12 : Int32) (a13 : Int32) (a15 : Int32) (a16 : Int32) (a17 : Int32) (a20 : Int32) (b0 : Int64) (w : sm_Mem) : sm_Sim E (mi_la_law) 750 [some (.ref 999), some (.ref 0), some (.ref 62), some (.ref 63), some (.ref 64), some (.int a5), some (.int a6), some (.long a7), none, some (.int a9), some (.int a10), some (.int a11), some (.int a12), some (.int a13), none, some (.int a15), some (.int a16), some (.int a17), none, none, some (.int a20), none, none, none, none, none, none, none, none, none, none, none, none, none, none, none, none, none, none, none, none, none, none, none, none] [.long b0] w (ff_la_law_750 E self68 a5 a6 a7 a9 a10 a11 a12 a13 a15 a16 a17 a20 b0 w) := by
  unfold ff_la_law_750
  refine sm_lstore [some (.ref 999), some (.ref 0), some (.ref 62), some (.ref 63), some (.ref 64), some (.int a5), some (.int a6), some (.long a7), none, some (.int a9), some (.int a10), some (.int a11), some (.int a12), some (.int a13), none, some (.int a15), some (.int a16), some (.int a17), none, none, some (.int a20), some (.long b0), none, none, none, none, none, none, none, none, none, none, none, none, none, none, none, none, none, none, none, none, none, none, none] ii_la_law_750 rfl rfl ?_
  refine sm_aload_n ii_la_law_752 rfl ?_
  refine sm_cvI [] [] rfl ii_la_law_753 ml_la_78 (mf_ho_asked) (mv_ho_asked) (Nat.le_of_ble_eq_true rfl) rfl 6 rfl rfl rfl rfl (mc_ho_asked  w) (fun x214 w215 => ?_)
  refine sm_istore [some (.ref 999), some (.ref 0), some (.ref 62), some (.ref 63), some (.ref 64), some (.int a5), some (.int a6), some (.long a7), none, some (.int a9), some (.int a10), some (.int a11), some (.int a12), some (.int a13), none, some (.int a15), some (.int a16), some (.int a17), none, none, some (.int a20), some (.long b0), none, some (.int x214), none, none, none, none, none, none, none, none, none, none, none, none, none, none, none, none, none, none, none, none, none] ii_la_law_756 rfl rfl ?_
  refine sm_aload_n ii_la_law_758 rfl ?_
  refine sm_iconst (0 : Int32) ii_la_law_759 (by decide) ?_
  refine sm_cvI [.int (0 : Int32)] [] rfl ii_la_law_760 ml_la_128 (mf_ho_far) (mv_ho_far) (Nat.le_of_ble_eq_true rfl) rfl 6 rfl rfl rfl rfl (mc_ho_far ((0 : Int32)) w215) (fun x216 w217 => ?_)
  refine sm_istore [some (.ref 999), some (.ref 0), some (.ref 62), some (.ref 63), some (.ref 64), some (.int a5), some (.int a6), some (.long a7), none, some (.int a9), some (.int a10), some (.int a11), some (.int a12), some (.int a13), none, some (.int a15), some (.int a16), some (.int a17), none, none, some (.int a20), some (.long b0), none, some (.int x214), some (.int x216), none, none, none, none, none, none, none, none, none, none, none, none, none, none, none, none, none, none, none, none] ii_la_law_763 rfl rfl ?_
  refine sm_aload_n ii_la_law_765 rfl ?_
  refine sm_cvI [] [] rfl ii_la_law_766 ml_la_78 (mf_ho_asked) (mv_ho_asked) (Nat.le_of_ble_eq_true rfl) rfl 6 rfl rfl rfl rfl (mc_ho_asked  w217) (fun x218 w219 => ?_)
  refine sm_istore [some (.ref 999), some (.ref 0), some (.ref 62), some (.ref 63), some (.ref 64), some (.int a5), some (.int a6), some (.long a7), none, some (.int a9), some (.int a10), some (.int a11), some (.int a12), some (.int a13), none, some (.int a15), some (.int a16), some (.int a17), none, none, some (.int a20), some (.long b0), none, some (.int x214), some (.int x216), some (.int x218), none, none, none, none, none, none, none, none, none, none, none, none, none, none, none, none, none, none, none] ii_la_law_769 rfl rfl ?_
  refine sm_aload_n ii_la_law_771 rfl ?_
  refine sm_iconst (0 : Int32) ii_la_law_772 (by decide) ?_
  refine sm_iconst (1 : Int32) ii_la_law_773 (by decide) ?_
  refine sm_cvI [.int (0 : Int32), .int (1 : Int32)] [] rfl ii_la_law_774 ml_la_131 (mf_ho_few) (mv_ho_few) (Nat.le_of_ble_eq_true rfl) rfl 6 rfl rfl rfl rfl (mc_ho_few ((0 : Int32)) ((1 : Int32)) w219) (fun x220 w221 => ?_)
  refine sm_istore [some (.ref 999), some (.ref 0), some (.ref 62), some (.ref 63), some (.ref 64), some (.int a5), some (.int a6), some (.long a7), none, some (.int a9), some (.int a10), some (.int a11), some (.int a12), some (.int a13), none, some (.int a15), some (.int a16), some (.int a17), none, none, some (.int a20), some (.long b0), none, some (.int x214), some (.int x216), some (.int x218), some (.int x220), none, none, none, none, none, none, none, none, none, none, none, none, none, none, none, none, none, none] ii_la_law_777 rfl rfl ?_
  refine sm_lload ii_la_law_779 rfl ?_
  refine sm_lconst (0 : Int64) ii_la_law_781 (by decide) ?_
  refine sm_lcmp ii_la_law_782 ?_
  refine sm_if_lt 918 ii_la_law_783 (by decide) ?_ ?_
  · refine sm_iconst (0 : Int32) ii_la_law_918 (by decide) ?_
    exact sm_zret1 ii_la_law_919 rfl (by decide)
  · refine sm_iload ii_la_law_786 rfl ?_
    refine sm_if_lt 918 ii_la_law_788 (by decide) ?_ ?_
    · refine sm_iconst (0 : Int32) ii_la_law_918 (by decide) ?_
      exact sm_zret1 ii_la_law_919 rfl (by decide)
    · refine sm_iload ii_la_law_791 rfl ?_
      refine sm_iload ii_la_law_793 rfl ?_
      refine sm_icmp_gt 918 ii_la_law_795 (by decide) ?_ ?_
      · refine sm_iconst (0 : Int32) ii_la_law_918 (by decide) ?_
        exact sm_zret1 ii_la_law_919 rfl (by decide)
      · refine sm_iload ii_la_law_798 rfl ?_
        refine sm_iconst (1 : Int32) ii_la_law_800 (by decide) ?_
        refine sm_icmp_lt 918 ii_la_law_801 (by decide) ?_ ?_
        · refine sm_iconst (0 : Int32) ii_la_law_918 (by decide) ?_
          exact sm_zret1 ii_la_law_919 rfl (by decide)
        · refine sm_lload ii_la_law_804 rfl ?_
          refine sm_lconst (0 : Int64) ii_la_law_806 (by decide) ?_
          refine sm_lcmp ii_la_law_807 ?_
          refine sm_if_le 815 ii_la_law_808 (by decide) ?_ ?_
          · refine sm_iconst (0 : Int32) ii_la_law_815 (by decide) ?_
            exact ss_la_law_816 self68 hself68 (a5) (a6) (a7) (a9) (a10) (a11) (a12) (a13) (a15) (a16) (a17) (a20) (b0) (x214) (x216) (x218) (x220) ((0 : Int32)) w221
          · refine sm_iconst (1 : Int32) ii_la_law_811 (by decide) ?_
            refine sm_goto 816 ii_la_law_812 (by decide) ?_
            exact ss_la_law_816 self68 hself68 (a5) (a6) (a7) (a9) (a10) (a11) (a12) (a13) (a15) (a16) (a17) (a20) (b0) (x214) (x216) (x218) (x220) ((1 : Int32)) w221
noncomputable def ff_la_law_676_b (E : Nat × (Nat → Int32)) (self68 : Int32 → Int32 → Int64 → Int32 → sm_Mem → sm_R) (self676 : Int32 → Int32 → Int64 → Int32 → Int32 → Int32 → Int32 → Int32 → Int32 → Int32 → Int32 → Int32 → Int32 → sm_Mem → sm_R) (a5 : Int32) (a6 : Int32) (a7 : Int64) (a9 : Int32) (a10 : Int32) (a11 : Int32) (a12 : Int32) (a13 : Int32) (a15 : Int32) (a16 : Int32) (a17 : Int32) (a20 : Int32) (a21 : Int32) (w : sm_Mem) : sm_R := (if a20 ≤ a21 then (sm_cI (ff_ho_ways ((0 : Int32)) w) fun x222 w223 => (if x222 = (1 : Int32) then (sm_cL (ff_ho_upper  w223) fun x224 w225 => ff_la_law_750 E self68 (a5) (a6) (a7) (a9) (a10) (a11) (a12) (a13) (a15) (a16) (a17) (a20) (x224) w225) else ff_la_law_750 E self68 (a5) (a6) (a7) (a9) (a10) (a11) (a12) (a13) (a15) (a16) (a17) (a20) ((-1 : Int64)) w223)) else (sm_cI (ff_la_cell E (((13 : Int32) + a9)) w) fun x226 w227 => (sm_cI (ff_la_low ((x226 >>> (((5 : Int32) * a21) &&& (31 : Int32)))) ((6 : Int32)) w227) fun x228 w229 => (Option.bind (sm_wr w229 64 8 a21 x228) fun w230 => (Option.bind (sm_rd w230 64 8 a21) fun x231 => (sm_cI (ff_ho_lay ((0 : Int32)) (a21) (x231) w230) fun x232 w233 => (if x232 = (1 : Int32) then self676 (a5) (a6) (a7) (a9) (a10) (a11) (a12) (a13) (a15) (a16) (a17) (a20) ((a21 + (1 : Int32))) w233 else (some (.int (0 : Int32), w233)))))))))
noncomputable def ff_la_law_676_f (E : Nat × (Nat → Int32)) (self68 : Int32 → Int32 → Int64 → Int32 → sm_Mem → sm_R) : Nat → Int32 → Int32 → Int64 → Int32 → Int32 → Int32 → Int32 → Int32 → Int32 → Int32 → Int32 → Int32 → Int32 → sm_Mem → sm_R
  | 0, _, _, _, _, _, _, _, _, _, _, _, _, _, _ => none
  | n + 1, a5, a6, a7, a9, a10, a11, a12, a13, a15, a16, a17, a20, a21, w => ff_la_law_676_b E self68 (ff_la_law_676_f E self68 n) a5 a6 a7 a9 a10 a11 a12 a13 a15 a16 a17 a20 a21 w
noncomputable def ff_la_law_676 (E : Nat × (Nat → Int32)) (self68 : Int32 → Int32 → Int64 → Int32 → sm_Mem → sm_R) (a5 : Int32) (a6 : Int32) (a7 : Int64) (a9 : Int32) (a10 : Int32) (a11 : Int32) (a12 : Int32) (a13 : Int32) (a15 : Int32) (a16 : Int32) (a17 : Int32) (a20 : Int32) (a21 : Int32) (w : sm_Mem) : sm_R := ff_la_law_676_f E self68 sm_N a5 a6 a7 a9 a10 a11 a12 a13 a15 a16 a17 a20 a21 w
set_option maxHeartbeats 4000000 in
set_option maxRecDepth 100000 in
theorem ss_la_law_676_b {E : Nat × (Nat → Int32)} (self68 : Int32 → Int32 → Int64 → Int32 → sm_Mem → sm_R) (hself68 : ∀ (a5 : Int32) (a6 : Int32) (a7 : Int64) (a9 : Int32) (w : sm_Mem), sm_Sim E (mi_la_law) 68 [some (.ref 999), some (.ref 0), some (.ref 62), some (.ref 63), some (.ref 64), some (.int a5), some (.int a6), some (.long a7), none, some (.int a9), none, none, none, none, none, none, none, none, none, none, none, none, none, none, none, none, none, none, none, none, none, none, none, none, none, none, none, none, none, none, none, none, none, none, none] [] w (self68 a5 a6 a7 a9 w)) (self676 : Int32 → Int32 → Int64 → Int32 → Int32 → Int32 → Int32 → Int32 → Int32 → Int32 → Int32 → Int32 → Int32 → sm_Mem → sm_R) (hself676 : ∀ (a5 : Int32) (a6 : Int32) (a7 : Int64) (a9 : Int32) (a10 : Int32) (a11 : Int32) (a12 : Int32) (a13 : Int32) (a15 : Int32) (a16 : Int32) (a17 : Int32) (a20 : Int32) (a21 : Int32) (w : sm_Mem), sm_Sim E (mi_la_law) 676 [some (.ref 999), some (.ref 0), some (.ref 62), some (.ref 63), some (.ref 64), some (.int a5), some (.int a6), some (.long a7), none, some (.int a9), some (.int a10), some (.int a11), some (.int a12), some (.int a13), none, some (.int a15), some (.int a16), some (.int a17), none, none, some (.int a20), some (.int a21), none, none, none, none, none, none, none, none, none, none, none, none, none, none, none, none, none, none, none, none, none, none, none] [] w (self676 a5 a6 a7 a9 a10 a11 a12 a13 a15 a16 a17 a20 a21 w)) (a5 : Int32) (a6 : Int32) (a7 : Int64) (a9 : Int32) (a10 : Int32) (a11 : Int32) (a12 : Int32) (a13 : Int32) (a15 : Int32) (a16 : Int32) (a17 : Int32) (a20 : Int32) (a21 : Int32) (w : sm_Mem) : sm_Sim E (mi_la_law) 676 [some (.ref 999), some (.ref 0), some (.ref 62), some (.ref 63), some (.ref 64), some (.int a5), some (.int a6), some (.long a7), none, some (.int a9), some (.int a10), some (.int a11), some (.int a12), some (.int a13), none, some (.int a15), some (.int a16), some (.int a17), none, none, some (.int a20), some (.int a21), none, none, none, none, none, none, none, none, none, none, none, none, none, none, none, none, none, none, none, none, none, none, none] [] w (ff_la_law_676_b E self68 self676 a5 a6 a7 a9 a10 a11 a12 a13 a15 a16 a17 a20 a21 w) := by
  unfold ff_la_law_676_b
  refine sm_iload ii_la_law_676 rfl ?_
  refine sm_iload ii_la_law_678 rfl ?_
  refine sm_icmp_ge 731 ii_la_law_680 (by decide) ?_ ?_
  · refine sm_aload_n ii_la_law_731 rfl ?_
    refine sm_iconst (0 : Int32) ii_la_law_732 (by decide) ?_
    refine sm_cvI [.int (0 : Int32)] [] rfl ii_la_law_733 ml_la_120 (mf_ho_ways) (mv_ho_ways) (Nat.le_of_ble_eq_true rfl) rfl 6 rfl rfl rfl rfl (mc_ho_ways ((0 : Int32)) w) (fun x222 w223 => ?_)
    refine sm_iconst (1 : Int32) ii_la_law_736 (by decide) ?_
    refine sm_icmp_ne 747 ii_la_law_737 (by decide) ?_ ?_
    · refine sm_aload_n ii_la_law_740 rfl ?_
      refine sm_cvL [] [] rfl ii_la_law_741 ml_la_123 (mf_ho_upper) (mv_ho_upper) (Nat.le_of_ble_eq_true rfl) rfl 6 rfl rfl rfl rfl (mc_ho_upper  w223) (fun x224 w225 => ?_)
      refine sm_goto 750 ii_la_law_744 (by decide) ?_
      refine sm_msk [true, true, true, true, true, true, true, true, false, true, true, true, true, true, false, true, true, true, false, false, true, false, false, false, false, false, false, false, false, false, false, false, false, false, false, false, false, false, false, false, false, false, false, false, false] [some (.ref 999), some (.ref 0), some (.ref 62), some (.ref 63), some (.ref 64), some (.int a5), some (.int a6), some (.long a7), none, some (.int a9), some (.int a10), some (.int a11), some (.int a12), some (.int a13), none, some (.int a15), some (.int a16), some (.int a17), none, none, some (.int a20), none, none, none, none, none, none, none, none, none, none, none, none, none, none, none, none, none, none, none, none, none, none, none, none] rfl ?_
      exact ss_la_law_750 self68 hself68 (a5) (a6) (a7) (a9) (a10) (a11) (a12) (a13) (a15) (a16) (a17) (a20) (x224) w225
    · refine sm_ldc2 (-1 : Int64) ii_la_law_747 (List.mem_of_getElem? (i := 875) (by decide +kernel)) ?_
      refine sm_msk [true, true, true, true, true, true, true, true, false, true, true, true, true, true, false, true, true, true, false, false, true, false, false, false, false, false, false, false, false, false, false, false, false, false, false, false, false, false, false, false, false, false, false, false, false] [some (.ref 999), some (.ref 0), some (.ref 62), some (.ref 63), some (.ref 64), some (.int a5), some (.int a6), some (.long a7), none, some (.int a9), some (.int a10), some (.int a11), some (.int a12), some (.int a13), none, some (.int a15), some (.int a16), some (.int a17), none, none, some (.int a20), none, none, none, none, none, none, none, none, none, none, none, none, none, none, none, none, none, none, none, none, none, none, none, none] rfl ?_
      exact ss_la_law_750 self68 hself68 (a5) (a6) (a7) (a9) (a10) (a11) (a12) (a13) (a15) (a16) (a17) (a20) ((-1 : Int64)) w223
  · refine sm_aload ii_la_law_683 rfl ?_
    refine sm_iload ii_la_law_685 rfl ?_
    refine sm_aload_n ii_la_law_687 rfl ?_
    refine sm_bipush (13 : Int32) ii_la_law_688 (by decide) ?_
    refine sm_iload ii_la_law_690 rfl ?_
    refine sm_iadd ii_la_law_692 ?_
    refine sm_csI [.ref 999, .int ((13 : Int32) + a9)] [.int a21, .ref 64] rfl ii_la_law_693 ml_la_9 (mf_la_cell) (mv_la_cell) (Nat.le_of_ble_eq_true rfl) rfl rfl rfl (mc_la_cell (((13 : Int32) + a9)) w) (fun x226 w227 => ?_)
    refine sm_iconst (5 : Int32) ii_la_law_696 (by decide) ?_
    refine sm_iload ii_la_law_697 rfl ?_
    refine sm_imul ii_la_law_699 ?_
    refine sm_ishr ii_la_law_700 ?_
    refine sm_bipush (6 : Int32) ii_la_law_701 (by decide) ?_
    refine sm_csI [.int (x226 >>> (((5 : Int32) * a21) &&& (31 : Int32))), .int (6 : Int32)] [.int a21, .ref 64] rfl ii_la_law_703 ml_la_15 (mf_la_low) (mv_la_low) (Nat.le_of_ble_eq_true rfl) rfl rfl rfl (mc_la_low ((x226 >>> (((5 : Int32) * a21) &&& (31 : Int32)))) ((6 : Int32)) w227) (fun x228 w229 => ?_)
    refine sm_iast ii_la_law_706 (k := 64) rfl (fun w230 => ?_)
    refine sm_aload_n ii_la_law_707 rfl ?_
    refine sm_iconst (0 : Int32) ii_la_law_708 (by decide) ?_
    refine sm_iload ii_la_law_709 rfl ?_
    refine sm_aload ii_la_law_711 rfl ?_
    refine sm_iload ii_la_law_713 rfl ?_
    refine sm_iald ii_la_law_715 (k := 64) rfl (fun x231 => ?_)
    refine sm_cvI [.int (0 : Int32), .int a21, .int x231] [] rfl ii_la_law_716 ml_la_117 (mf_ho_lay) (mv_ho_lay) (Nat.le_of_ble_eq_true rfl) rfl 6 rfl rfl rfl rfl (mc_ho_lay ((0 : Int32)) (a21) (x231) w230) (fun x232 w233 => ?_)
    refine sm_iconst (1 : Int32) ii_la_law_719 (by decide) ?_
    refine sm_icmp_eq 725 ii_la_law_720 (by decide) ?_ ?_
    · refine sm_iinc (a21 + (1 : Int32)) [some (.ref 999), some (.ref 0), some (.ref 62), some (.ref 63), some (.ref 64), some (.int a5), some (.int a6), some (.long a7), none, some (.int a9), some (.int a10), some (.int a11), some (.int a12), some (.int a13), none, some (.int a15), some (.int a16), some (.int a17), none, none, some (.int a20), some (.int (a21 + (1 : Int32))), none, none, none, none, none, none, none, none, none, none, none, none, none, none, none, none, none, none, none, none, none, none, none] ii_la_law_725 rfl rfl rfl rfl ?_
      refine sm_goto 676 ii_la_law_728 (by decide) ?_
      exact hself676 (a5) (a6) (a7) (a9) (a10) (a11) (a12) (a13) (a15) (a16) (a17) (a20) ((a21 + (1 : Int32))) w233
    · refine sm_iconst (0 : Int32) ii_la_law_723 (by decide) ?_
      exact sm_zret1 ii_la_law_724 rfl (by decide)
set_option maxHeartbeats 4000000 in
set_option maxRecDepth 100000 in
theorem ss_la_law_676_f {E : Nat × (Nat → Int32)} (self68 : Int32 → Int32 → Int64 → Int32 → sm_Mem → sm_R) (hself68 : ∀ (a5 : Int32) (a6 : Int32) (a7 : Int64) (a9 : Int32) (w : sm_Mem), sm_Sim E (mi_la_law) 68 [some (.ref 999), some (.ref 0), some (.ref 62), some (.ref 63), some (.ref 64), some (.int a5), some (.int a6), some (.long a7), none, some (.int a9), none, none, none, none, none, none, none, none, none, none, none, none, none, none, none, none, none, none, none, none, none, none, none, none, none, none, none, none, none, none, none, none, none, none, none] [] w (self68 a5 a6 a7 a9 w)) : ∀ (n : Nat) (a5 : Int32) (a6 : Int32) (a7 : Int64) (a9 : Int32) (a10 : Int32) (a11 : Int32) (a12 : Int32) (a13 : Int32) (a15 : Int32) (a16 : Int32) (a17 : Int32) (a20 : Int32) (a21 : Int32) (w : sm_Mem), sm_Sim E (mi_la_law) 676 [some (.ref 999), some (.ref 0), some (.ref 62), some (.ref 63), some (.ref 64), some (.int a5), some (.int a6), some (.long a7), none, some (.int a9), some (.int a10), some (.int a11), some (.int a12), some (.int a13), none, some (.int a15), some (.int a16), some (.int a17), none, none, some (.int a20), some (.int a21), none, none, none, none, none, none, none, none, none, none, none, none, none, none, none, none, none, none, none, none, none, none, none] [] w (ff_la_law_676_f E self68 n a5 a6 a7 a9 a10 a11 a12 a13 a15 a16 a17 a20 a21 w)
  | 0, _, _, _, _, _, _, _, _, _, _, _, _, _, _ => fun _ _ h => by cases h
  | n + 1, a5, a6, a7, a9, a10, a11, a12, a13, a15, a16, a17, a20, a21, w => ss_la_law_676_b self68 hself68 _ (ss_la_law_676_f self68 hself68 n) a5 a6 a7 a9 a10 a11 a12 a13 a15 a16 a17 a20 a21 w
set_option maxHeartbeats 4000000 in
set_option maxRecDepth 100000 in
theorem ss_la_law_676 {E : Nat × (Nat → Int32)} (self68 : Int32 → Int32 → Int64 → Int32 → sm_Mem → sm_R) (hself68 : ∀ (a5 : Int32) (a6 : Int32) (a7 : Int64) (a9 : Int32) (w : sm_Mem), sm_Sim E (mi_la_law) 68 [some (.ref 999), some (.ref 0), some (.ref 62), some (.ref 63), some (.ref 64), some (.int a5), some (.int a6), some (.long a7), none, some (.int a9), none, none, none, none, none, none, none, none, none, none, none, none, none, none, none, none, none, none, none, none, none, none, none, none, none, none, none, none, none, none, none, none, none, none, none] [] w (self68 a5 a6 a7 a9 w)) (a5 : Int32) (a6 : Int32) (a7 : Int64) (a9 : Int32) (a10 : Int32) (a11 : Int32) (a12 : Int32) (a13 : Int32) (a15 : Int32) (a16 : Int32) (a17 : Int32) (a20 : Int32) (a21 : Int32) (w : sm_Mem) : sm_Sim E (mi_la_law) 676 [some (.ref 999), some (.ref 0), some (.ref 62), some (.ref 63), some (.ref 64), some (.int a5), some (.int a6), some (.long a7), none, some (.int a9), some (.int a10), some (.int a11), some (.int a12), some (.int a13), none, some (.int a15), some (.int a16), some (.int a17), none, none, some (.int a20), some (.int a21), none, none, none, none, none, none, none, none, none, none, none, none, none, none, none, none, none, none, none, none, none, none, none] [] w (ff_la_law_676 E self68 a5 a6 a7 a9 a10 a11 a12 a13 a15 a16 a17 a20 a21 w) := ss_la_law_676_f self68 hself68 sm_N a5 a6 a7 a9 a10 a11 a12 a13 a15 a16 a17 a20 a21 w
noncomputable def ff_la_law_651 (E : Nat × (Nat → Int32)) (self68 : Int32 → Int32 → Int64 → Int32 → sm_Mem → sm_R) (a5 : Int32) (a6 : Int32) (a7 : Int64) (a9 : Int32) (a10 : Int32) (a11 : Int32) (a12 : Int32) (a13 : Int32) (a15 : Int32) (a16 : Int32) (a17 : Int32) (w : sm_Mem) : sm_R := (sm_cI (ff_la_low (a10) ((5 : Int32)) w) fun x234 w235 => (sm_cI (ff_ho_row ((0 : Int32)) (x234) w235) fun x236 w237 => (if x236 = x234 then ff_la_law_676 E self68 (a5) (a6) (a7) (a9) (a10) (a11) (a12) (a13) (a15) (a16) (a17) (x234) ((0 : Int32)) w237 else (some (.int (0 : Int32), w237)))))
set_option maxHeartbeats 4000000 in
set_option maxRecDepth 100000 in
theorem ss_la_law_651 {E : Nat × (Nat → Int32)} (self68 : Int32 → Int32 → Int64 → Int32 → sm_Mem → sm_R) (hself68 : ∀ (a5 : Int32) (a6 : Int32) (a7 : Int64) (a9 : Int32) (w : sm_Mem), sm_Sim E (mi_la_law) 68 [some (.ref 999), some (.ref 0), some (.ref 62), some (.ref 63), some (.ref 64), some (.int a5), some (.int a6), some (.long a7), none, some (.int a9), none, none, none, none, none, none, none, none, none, none, none, none, none, none, none, none, none, none, none, none, none, none, none, none, none, none, none, none, none, none, none, none, none, none, none] [] w (self68 a5 a6 a7 a9 w)) (a5 : Int32) (a6 : Int32) (a7 : Int64) (a9 : Int32) (a10 : Int32) (a11 : Int32) (a12 : Int32) (a13 : Int32) (a15 : Int32) (a16 : Int32) (a17 : Int32) (w : sm_Mem) : sm_Sim E (mi_la_law) 651 [some (.ref 999), some (.ref 0), some (.ref 62), some (.ref 63), some (.ref 64), some (.int a5), some (.int a6), some (.long a7), none, some (.int a9), some (.int a10), some (.int a11), some (.int a12), some (.int a13), none, some (.int a15), some (.int a16), some (.int a17), none, none, none, none, none, none, none, none, none, none, none, none, none, none, none, none, none, none, none, none, none, none, none, none, none, none, none] [] w (ff_la_law_651 E self68 a5 a6 a7 a9 a10 a11 a12 a13 a15 a16 a17 w) := by
  unfold ff_la_law_651
  refine sm_iload ii_la_law_651 rfl ?_
  refine sm_iconst (5 : Int32) ii_la_law_653 (by decide) ?_
  refine sm_csI [.int a10, .int (5 : Int32)] [] rfl ii_la_law_654 ml_la_15 (mf_la_low) (mv_la_low) (Nat.le_of_ble_eq_true rfl) rfl rfl rfl (mc_la_low (a10) ((5 : Int32)) w) (fun x234 w235 => ?_)
  refine sm_istore [some (.ref 999), some (.ref 0), some (.ref 62), some (.ref 63), some (.ref 64), some (.int a5), some (.int a6), some (.long a7), none, some (.int a9), some (.int a10), some (.int a11), some (.int a12), some (.int a13), none, some (.int a15), some (.int a16), some (.int a17), none, none, some (.int x234), none, none, none, none, none, none, none, none, none, none, none, none, none, none, none, none, none, none, none, none, none, none, none, none] ii_la_law_657 rfl rfl ?_
  refine sm_aload_n ii_la_law_659 rfl ?_
  refine sm_iconst (0 : Int32) ii_la_law_660 (by decide) ?_
  refine sm_iload ii_la_law_661 rfl ?_
  refine sm_cvI [.int (0 : Int32), .int x234] [] rfl ii_la_law_663 ml_la_114 (mf_ho_row) (mv_ho_row) (Nat.le_of_ble_eq_true rfl) rfl 6 rfl rfl rfl rfl (mc_ho_row ((0 : Int32)) (x234) w235) (fun x236 w237 => ?_)
  refine sm_iload ii_la_law_666 rfl ?_
  refine sm_icmp_eq 673 ii_la_law_668 (by decide) ?_ ?_
  · refine sm_iconst (0 : Int32) ii_la_law_673 (by decide) ?_
    refine sm_istore [some (.ref 999), some (.ref 0), some (.ref 62), some (.ref 63), some (.ref 64), some (.int a5), some (.int a6), some (.long a7), none, some (.int a9), some (.int a10), some (.int a11), some (.int a12), some (.int a13), none, some (.int a15), some (.int a16), some (.int a17), none, none, some (.int x234), some (.int (0 : Int32)), none, none, none, none, none, none, none, none, none, none, none, none, none, none, none, none, none, none, none, none, none, none, none] ii_la_law_674 rfl rfl ?_
    exact ss_la_law_676 self68 hself68 (a5) (a6) (a7) (a9) (a10) (a11) (a12) (a13) (a15) (a16) (a17) (x234) ((0 : Int32)) w237
  · refine sm_iconst (0 : Int32) ii_la_law_671 (by decide) ?_
    exact sm_zret1 ii_la_law_672 rfl (by decide)
noncomputable def ff_la_law_601 (E : Nat × (Nat → Int32)) (self68 : Int32 → Int32 → Int64 → Int32 → sm_Mem → sm_R) (a5 : Int32) (a6 : Int32) (a7 : Int64) (a9 : Int32) (a10 : Int32) (a11 : Int32) (a12 : Int32) (a13 : Int32) (a14 : Int32) (a15 : Int32) (a16 : Int32) (a17 : Int32) (b0 : Int32) (b1 : Int32) (w : sm_Mem) : sm_R := (if b0 = b1 then (if a13 ≤ (0 : Int32) then ff_la_law_651 E self68 (a5) (a6) (a7) (a9) (a10) (a11) (a12) (a13) (a15) (a16) (a17) w else (sm_cI (ff_ho_count ((3 : Int32)) w) fun x238 w239 => (if x238 = (0 : Int32) then (sm_cI (ff_ho_count ((4 : Int32)) w239) fun x240 w241 => (if x240 = (a14 + (1 : Int32)) then (sm_cI (ff_ho_undo (a11) w241) fun x242 w243 => (if x242 = (1 : Int32) then (sm_cI (ff_ho_count ((3 : Int32)) w243) fun x244 w245 => (if x244 = a13 then ff_la_law_651 E self68 (a5) (a6) (a7) (a9) (a10) (a11) (a12) (a13) (a15) (a16) (a17) w245 else (some (.int (0 : Int32), w245)))) else (some (.int (0 : Int32), w243)))) else (some (.int (0 : Int32), w241)))) else (some (.int (0 : Int32), w239))))) else (some (.int (0 : Int32), w)))
set_option maxHeartbeats 4000000 in
set_option maxRecDepth 100000 in
theorem ss_la_law_601 {E : Nat × (Nat → Int32)} (self68 : Int32 → Int32 → Int64 → Int32 → sm_Mem → sm_R) (hself68 : ∀ (a5 : Int32) (a6 : Int32) (a7 : Int64) (a9 : Int32) (w : sm_Mem), sm_Sim E (mi_la_law) 68 [some (.ref 999), some (.ref 0), some (.ref 62), some (.ref 63), some (.ref 64), some (.int a5), some (.int a6), some (.long a7), none, some (.int a9), none, none, none, none, none, none, none, none, none, none, none, none, none, none, none, none, none, none, none, none, none, none, none, none, none, none, none, none, none, none, none, none, none, none, none] [] w (self68 a5 a6 a7 a9 w)) (a5 : Int32) (a6 : Int32) (a7 : Int64) (a9 : Int32) (a10 : Int32) (a11 : Int32) (a12 : Int32) (a13 : Int32) (a14 : Int32) (a15 : Int32) (a16 : Int32) (a17 : Int32) (b0 : Int32) (b1 : Int32) (w : sm_Mem) : sm_Sim E (mi_la_law) 601 [some (.ref 999), some (.ref 0), some (.ref 62), some (.ref 63), some (.ref 64), some (.int a5), some (.int a6), some (.long a7), none, some (.int a9), some (.int a10), some (.int a11), some (.int a12), some (.int a13), some (.int a14), some (.int a15), some (.int a16), some (.int a17), none, none, none, none, none, none, none, none, none, none, none, none, none, none, none, none, none, none, none, none, none, none, none, none, none, none, none] [.int b1, .int b0] w (ff_la_law_601 E self68 a5 a6 a7 a9 a10 a11 a12 a13 a14 a15 a16 a17 b0 b1 w) := by
  unfold ff_la_law_601
  refine sm_icmp_ne 649 ii_la_law_601 (by decide) ?_ ?_
  · refine sm_iload ii_la_law_604 rfl ?_
    refine sm_if_le 651 ii_la_law_606 (by decide) ?_ ?_
    · refine sm_msk [true, true, true, true, true, true, true, true, false, true, true, true, true, true, false, true, true, true, false, false, false, false, false, false, false, false, false, false, false, false, false, false, false, false, false, false, false, false, false, false, false, false, false, false, false] [some (.ref 999), some (.ref 0), some (.ref 62), some (.ref 63), some (.ref 64), some (.int a5), some (.int a6), some (.long a7), none, some (.int a9), some (.int a10), some (.int a11), some (.int a12), some (.int a13), none, some (.int a15), some (.int a16), some (.int a17), none, none, none, none, none, none, none, none, none, none, none, none, none, none, none, none, none, none, none, none, none, none, none, none, none, none, none] rfl ?_
      exact ss_la_law_651 self68 hself68 (a5) (a6) (a7) (a9) (a10) (a11) (a12) (a13) (a15) (a16) (a17) w
    · refine sm_aload_n ii_la_law_609 rfl ?_
      refine sm_iconst (3 : Int32) ii_la_law_610 (by decide) ?_
      refine sm_cvI [.int (3 : Int32)] [] rfl ii_la_law_611 ml_la_96 (mf_ho_count) (mv_ho_count) (Nat.le_of_ble_eq_true rfl) rfl 6 rfl rfl rfl rfl (mc_ho_count ((3 : Int32)) w) (fun x238 w239 => ?_)
      refine sm_if_ne 649 ii_la_law_614 (by decide) ?_ ?_
      · refine sm_aload_n ii_la_law_617 rfl ?_
        refine sm_iconst (4 : Int32) ii_la_law_618 (by decide) ?_
        refine sm_cvI [.int (4 : Int32)] [] rfl ii_la_law_619 ml_la_96 (mf_ho_count) (mv_ho_count) (Nat.le_of_ble_eq_true rfl) rfl 6 rfl rfl rfl rfl (mc_ho_count ((4 : Int32)) w239) (fun x240 w241 => ?_)
        refine sm_iload ii_la_law_622 rfl ?_
        refine sm_iconst (1 : Int32) ii_la_law_624 (by decide) ?_
        refine sm_iadd ii_la_law_625 ?_
        refine sm_icmp_ne 649 ii_la_law_626 (by decide) ?_ ?_
        · refine sm_aload_n ii_la_law_629 rfl ?_
          refine sm_iload ii_la_law_630 rfl ?_
          refine sm_cvI [.int a11] [] rfl ii_la_law_632 ml_la_111 (mf_ho_undo) (mv_ho_undo) (Nat.le_of_ble_eq_true rfl) rfl 6 rfl rfl rfl rfl (mc_ho_undo (a11) w241) (fun x242 w243 => ?_)
          refine sm_iconst (1 : Int32) ii_la_law_635 (by decide) ?_
          refine sm_icmp_ne 649 ii_la_law_636 (by decide) ?_ ?_
          · refine sm_aload_n ii_la_law_639 rfl ?_
            refine sm_iconst (3 : Int32) ii_la_law_640 (by decide) ?_
            refine sm_cvI [.int (3 : Int32)] [] rfl ii_la_law_641 ml_la_96 (mf_ho_count) (mv_ho_count) (Nat.le_of_ble_eq_true rfl) rfl 6 rfl rfl rfl rfl (mc_ho_count ((3 : Int32)) w243) (fun x244 w245 => ?_)
            refine sm_iload ii_la_law_644 rfl ?_
            refine sm_icmp_eq 651 ii_la_law_646 (by decide) ?_ ?_
            · refine sm_msk [true, true, true, true, true, true, true, true, false, true, true, true, true, true, false, true, true, true, false, false, false, false, false, false, false, false, false, false, false, false, false, false, false, false, false, false, false, false, false, false, false, false, false, false, false] [some (.ref 999), some (.ref 0), some (.ref 62), some (.ref 63), some (.ref 64), some (.int a5), some (.int a6), some (.long a7), none, some (.int a9), some (.int a10), some (.int a11), some (.int a12), some (.int a13), none, some (.int a15), some (.int a16), some (.int a17), none, none, none, none, none, none, none, none, none, none, none, none, none, none, none, none, none, none, none, none, none, none, none, none, none, none, none] rfl ?_
              exact ss_la_law_651 self68 hself68 (a5) (a6) (a7) (a9) (a10) (a11) (a12) (a13) (a15) (a16) (a17) w245
            · refine sm_iconst (0 : Int32) ii_la_law_649 (by decide) ?_
              exact sm_zret1 ii_la_law_650 rfl (by decide)
          · refine sm_iconst (0 : Int32) ii_la_law_649 (by decide) ?_
            exact sm_zret1 ii_la_law_650 rfl (by decide)
        · refine sm_iconst (0 : Int32) ii_la_law_649 (by decide) ?_
          exact sm_zret1 ii_la_law_650 rfl (by decide)
      · refine sm_iconst (0 : Int32) ii_la_law_649 (by decide) ?_
        exact sm_zret1 ii_la_law_650 rfl (by decide)
  · refine sm_iconst (0 : Int32) ii_la_law_649 (by decide) ?_
    exact sm_zret1 ii_la_law_650 rfl (by decide)
noncomputable def ff_la_law_533_b (E : Nat × (Nat → Int32)) (self68 : Int32 → Int32 → Int64 → Int32 → sm_Mem → sm_R) (self533 : Int32 → Int32 → Int64 → Int32 → Int32 → Int32 → Int32 → Int32 → Int32 → Int32 → Int32 → Int32 → Int32 → sm_Mem → sm_R) (a5 : Int32) (a6 : Int32) (a7 : Int64) (a9 : Int32) (a10 : Int32) (a11 : Int32) (a12 : Int32) (a13 : Int32) (a14 : Int32) (a15 : Int32) (a16 : Int32) (a17 : Int32) (a20 : Int32) (w : sm_Mem) : sm_R := (if a5 ≤ a20 then (sm_cI (ff_ho_undo (a11) w) fun x246 w247 => (if x246 = (1 : Int32) then (sm_cI (ff_ho_count ((5 : Int32)) w247) fun x248 w249 => (if x248 = a15 then (sm_cI (ff_ho_end  w249) fun x250 w251 => (if a13 = (0 : Int32) then ff_la_law_601 E self68 (a5) (a6) (a7) (a9) (a10) (a11) (a12) (a13) (a14) (a15) (a16) (a17) (x250) ((-4 : Int32)) w251 else ff_la_law_601 E self68 (a5) (a6) (a7) (a9) (a10) (a11) (a12) (a13) (a14) (a15) (a16) (a17) (x250) (a13) w251)) else (some (.int (0 : Int32), w249)))) else (some (.int (0 : Int32), w247)))) else (sm_cI (ff_la_told (a20) ((4 : Int32)) w) fun x252 w253 => (sm_cI (ff_la_told (a20) ((3 : Int32)) w253) fun x254 w255 => (if x252 = x254 then self533 (a5) (a6) (a7) (a9) (a10) (a11) (a12) (a13) (a14) (a15) (a16) (a17) ((a20 + (1 : Int32))) w255 else (some (.int (0 : Int32), w255))))))
noncomputable def ff_la_law_533_f (E : Nat × (Nat → Int32)) (self68 : Int32 → Int32 → Int64 → Int32 → sm_Mem → sm_R) : Nat → Int32 → Int32 → Int64 → Int32 → Int32 → Int32 → Int32 → Int32 → Int32 → Int32 → Int32 → Int32 → Int32 → sm_Mem → sm_R
  | 0, _, _, _, _, _, _, _, _, _, _, _, _, _, _ => none
  | n + 1, a5, a6, a7, a9, a10, a11, a12, a13, a14, a15, a16, a17, a20, w => ff_la_law_533_b E self68 (ff_la_law_533_f E self68 n) a5 a6 a7 a9 a10 a11 a12 a13 a14 a15 a16 a17 a20 w
noncomputable def ff_la_law_533 (E : Nat × (Nat → Int32)) (self68 : Int32 → Int32 → Int64 → Int32 → sm_Mem → sm_R) (a5 : Int32) (a6 : Int32) (a7 : Int64) (a9 : Int32) (a10 : Int32) (a11 : Int32) (a12 : Int32) (a13 : Int32) (a14 : Int32) (a15 : Int32) (a16 : Int32) (a17 : Int32) (a20 : Int32) (w : sm_Mem) : sm_R := ff_la_law_533_f E self68 sm_N a5 a6 a7 a9 a10 a11 a12 a13 a14 a15 a16 a17 a20 w
set_option maxHeartbeats 4000000 in
set_option maxRecDepth 100000 in
theorem ss_la_law_533_b {E : Nat × (Nat → Int32)} (self68 : Int32 → Int32 → Int64 → Int32 → sm_Mem → sm_R) (hself68 : ∀ (a5 : Int32) (a6 : Int32) (a7 : Int64) (a9 : Int32) (w : sm_Mem), sm_Sim E (mi_la_law) 68 [some (.ref 999), some (.ref 0), some (.ref 62), some (.ref 63), some (.ref 64), some (.int a5), some (.int a6), some (.long a7), none, some (.int a9), none, none, none, none, none, none, none, none, none, none, none, none, none, none, none, none, none, none, none, none, none, none, none, none, none, none, none, none, none, none, none, none, none, none, none] [] w (self68 a5 a6 a7 a9 w)) (self533 : Int32 → Int32 → Int64 → Int32 → Int32 → Int32 → Int32 → Int32 → Int32 → Int32 → Int32 → Int32 → Int32 → sm_Mem → sm_R) (hself533 : ∀ (a5 : Int32) (a6 : Int32) (a7 : Int64) (a9 : Int32) (a10 : Int32) (a11 : Int32) (a12 : Int32) (a13 : Int32) (a14 : Int32) (a15 : Int32) (a16 : Int32) (a17 : Int32) (a20 : Int32) (w : sm_Mem), sm_Sim E (mi_la_law) 533 [some (.ref 999), some (.ref 0), some (.ref 62), some (.ref 63), some (.ref 64), some (.int a5), some (.int a6), some (.long a7), none, some (.int a9), some (.int a10), some (.int a11), some (.int a12), some (.int a13), some (.int a14), some (.int a15), some (.int a16), some (.int a17), none, none, some (.int a20), none, none, none, none, none, none, none, none, none, none, none, none, none, none, none, none, none, none, none, none, none, none, none, none] [] w (self533 a5 a6 a7 a9 a10 a11 a12 a13 a14 a15 a16 a17 a20 w)) (a5 : Int32) (a6 : Int32) (a7 : Int64) (a9 : Int32) (a10 : Int32) (a11 : Int32) (a12 : Int32) (a13 : Int32) (a14 : Int32) (a15 : Int32) (a16 : Int32) (a17 : Int32) (a20 : Int32) (w : sm_Mem) : sm_Sim E (mi_la_law) 533 [some (.ref 999), some (.ref 0), some (.ref 62), some (.ref 63), some (.ref 64), some (.int a5), some (.int a6), some (.long a7), none, some (.int a9), some (.int a10), some (.int a11), some (.int a12), some (.int a13), some (.int a14), some (.int a15), some (.int a16), some (.int a17), none, none, some (.int a20), none, none, none, none, none, none, none, none, none, none, none, none, none, none, none, none, none, none, none, none, none, none, none, none] [] w (ff_la_law_533_b E self68 self533 a5 a6 a7 a9 a10 a11 a12 a13 a14 a15 a16 a17 a20 w) := by
  unfold ff_la_law_533_b
  refine sm_iload ii_la_law_533 rfl ?_
  refine sm_iload ii_la_law_535 rfl ?_
  refine sm_icmp_ge 565 ii_la_law_537 (by decide) ?_ ?_
  · refine sm_aload_n ii_la_law_565 rfl ?_
    refine sm_iload ii_la_law_566 rfl ?_
    refine sm_cvI [.int a11] [] rfl ii_la_law_568 ml_la_111 (mf_ho_undo) (mv_ho_undo) (Nat.le_of_ble_eq_true rfl) rfl 6 rfl rfl rfl rfl (mc_ho_undo (a11) w) (fun x246 w247 => ?_)
    refine sm_iconst (1 : Int32) ii_la_law_571 (by decide) ?_
    refine sm_icmp_ne 649 ii_la_law_572 (by decide) ?_ ?_
    · refine sm_aload_n ii_la_law_575 rfl ?_
      refine sm_iconst (5 : Int32) ii_la_law_576 (by decide) ?_
      refine sm_cvI [.int (5 : Int32)] [] rfl ii_la_law_577 ml_la_96 (mf_ho_count) (mv_ho_count) (Nat.le_of_ble_eq_true rfl) rfl 6 rfl rfl rfl rfl (mc_ho_count ((5 : Int32)) w247) (fun x248 w249 => ?_)
      refine sm_iload ii_la_law_580 rfl ?_
      refine sm_icmp_ne 649 ii_la_law_582 (by decide) ?_ ?_
      · refine sm_aload_n ii_la_law_585 rfl ?_
        refine sm_cvI [] [] rfl ii_la_law_586 ml_la_70 (mf_ho_end) (mv_ho_end) (Nat.le_of_ble_eq_true rfl) rfl 6 rfl rfl rfl rfl (mc_ho_end  w249) (fun x250 w251 => ?_)
        refine sm_iload ii_la_law_589 rfl ?_
        refine sm_if_ne 599 ii_la_law_591 (by decide) ?_ ?_
        · refine sm_bipush (-4 : Int32) ii_la_law_594 (by decide) ?_
          refine sm_goto 601 ii_la_law_596 (by decide) ?_
          refine sm_msk [true, true, true, true, true, true, true, true, false, true, true, true, true, true, true, true, true, true, false, false, false, false, false, false, false, false, false, false, false, false, false, false, false, false, false, false, false, false, false, false, false, false, false, false, false] [some (.ref 999), some (.ref 0), some (.ref 62), some (.ref 63), some (.ref 64), some (.int a5), some (.int a6), some (.long a7), none, some (.int a9), some (.int a10), some (.int a11), some (.int a12), some (.int a13), some (.int a14), some (.int a15), some (.int a16), some (.int a17), none, none, none, none, none, none, none, none, none, none, none, none, none, none, none, none, none, none, none, none, none, none, none, none, none, none, none] rfl ?_
          exact ss_la_law_601 self68 hself68 (a5) (a6) (a7) (a9) (a10) (a11) (a12) (a13) (a14) (a15) (a16) (a17) (x250) ((-4 : Int32)) w251
        · refine sm_iload ii_la_law_599 rfl ?_
          refine sm_msk [true, true, true, true, true, true, true, true, false, true, true, true, true, true, true, true, true, true, false, false, false, false, false, false, false, false, false, false, false, false, false, false, false, false, false, false, false, false, false, false, false, false, false, false, false] [some (.ref 999), some (.ref 0), some (.ref 62), some (.ref 63), some (.ref 64), some (.int a5), some (.int a6), some (.long a7), none, some (.int a9), some (.int a10), some (.int a11), some (.int a12), some (.int a13), some (.int a14), some (.int a15), some (.int a16), some (.int a17), none, none, none, none, none, none, none, none, none, none, none, none, none, none, none, none, none, none, none, none, none, none, none, none, none, none, none] rfl ?_
          exact ss_la_law_601 self68 hself68 (a5) (a6) (a7) (a9) (a10) (a11) (a12) (a13) (a14) (a15) (a16) (a17) (x250) (a13) w251
      · refine sm_iconst (0 : Int32) ii_la_law_649 (by decide) ?_
        exact sm_zret1 ii_la_law_650 rfl (by decide)
    · refine sm_iconst (0 : Int32) ii_la_law_649 (by decide) ?_
      exact sm_zret1 ii_la_law_650 rfl (by decide)
  · refine sm_aload_n ii_la_law_540 rfl ?_
    refine sm_iload ii_la_law_541 rfl ?_
    refine sm_iconst (4 : Int32) ii_la_law_543 (by decide) ?_
    refine sm_csI [.ref 0, .int a20, .int (4 : Int32)] [] rfl ii_la_law_544 ml_la_102 (mf_la_told) (mv_la_told) (Nat.le_of_ble_eq_true rfl) rfl rfl rfl (mc_la_told (a20) ((4 : Int32)) w) (fun x252 w253 => ?_)
    refine sm_aload_n ii_la_law_547 rfl ?_
    refine sm_iload ii_la_law_548 rfl ?_
    refine sm_iconst (3 : Int32) ii_la_law_550 (by decide) ?_
    refine sm_csI [.ref 0, .int a20, .int (3 : Int32)] [.int x252] rfl ii_la_law_551 ml_la_102 (mf_la_told) (mv_la_told) (Nat.le_of_ble_eq_true rfl) rfl rfl rfl (mc_la_told (a20) ((3 : Int32)) w253) (fun x254 w255 => ?_)
    refine sm_icmp_eq 559 ii_la_law_554 (by decide) ?_ ?_
    · refine sm_iinc (a20 + (1 : Int32)) [some (.ref 999), some (.ref 0), some (.ref 62), some (.ref 63), some (.ref 64), some (.int a5), some (.int a6), some (.long a7), none, some (.int a9), some (.int a10), some (.int a11), some (.int a12), some (.int a13), some (.int a14), some (.int a15), some (.int a16), some (.int a17), none, none, some (.int (a20 + (1 : Int32))), none, none, none, none, none, none, none, none, none, none, none, none, none, none, none, none, none, none, none, none, none, none, none, none] ii_la_law_559 rfl rfl rfl rfl ?_
      refine sm_goto 533 ii_la_law_562 (by decide) ?_
      exact hself533 (a5) (a6) (a7) (a9) (a10) (a11) (a12) (a13) (a14) (a15) (a16) (a17) ((a20 + (1 : Int32))) w255
    · refine sm_iconst (0 : Int32) ii_la_law_557 (by decide) ?_
      exact sm_zret1 ii_la_law_558 rfl (by decide)
set_option maxHeartbeats 4000000 in
set_option maxRecDepth 100000 in
theorem ss_la_law_533_f {E : Nat × (Nat → Int32)} (self68 : Int32 → Int32 → Int64 → Int32 → sm_Mem → sm_R) (hself68 : ∀ (a5 : Int32) (a6 : Int32) (a7 : Int64) (a9 : Int32) (w : sm_Mem), sm_Sim E (mi_la_law) 68 [some (.ref 999), some (.ref 0), some (.ref 62), some (.ref 63), some (.ref 64), some (.int a5), some (.int a6), some (.long a7), none, some (.int a9), none, none, none, none, none, none, none, none, none, none, none, none, none, none, none, none, none, none, none, none, none, none, none, none, none, none, none, none, none, none, none, none, none, none, none] [] w (self68 a5 a6 a7 a9 w)) : ∀ (n : Nat) (a5 : Int32) (a6 : Int32) (a7 : Int64) (a9 : Int32) (a10 : Int32) (a11 : Int32) (a12 : Int32) (a13 : Int32) (a14 : Int32) (a15 : Int32) (a16 : Int32) (a17 : Int32) (a20 : Int32) (w : sm_Mem), sm_Sim E (mi_la_law) 533 [some (.ref 999), some (.ref 0), some (.ref 62), some (.ref 63), some (.ref 64), some (.int a5), some (.int a6), some (.long a7), none, some (.int a9), some (.int a10), some (.int a11), some (.int a12), some (.int a13), some (.int a14), some (.int a15), some (.int a16), some (.int a17), none, none, some (.int a20), none, none, none, none, none, none, none, none, none, none, none, none, none, none, none, none, none, none, none, none, none, none, none, none] [] w (ff_la_law_533_f E self68 n a5 a6 a7 a9 a10 a11 a12 a13 a14 a15 a16 a17 a20 w)
  | 0, _, _, _, _, _, _, _, _, _, _, _, _, _, _ => fun _ _ h => by cases h
  | n + 1, a5, a6, a7, a9, a10, a11, a12, a13, a14, a15, a16, a17, a20, w => ss_la_law_533_b self68 hself68 _ (ss_la_law_533_f self68 hself68 n) a5 a6 a7 a9 a10 a11 a12 a13 a14 a15 a16 a17 a20 w
set_option maxHeartbeats 4000000 in
set_option maxRecDepth 100000 in
theorem ss_la_law_533 {E : Nat × (Nat → Int32)} (self68 : Int32 → Int32 → Int64 → Int32 → sm_Mem → sm_R) (hself68 : ∀ (a5 : Int32) (a6 : Int32) (a7 : Int64) (a9 : Int32) (w : sm_Mem), sm_Sim E (mi_la_law) 68 [some (.ref 999), some (.ref 0), some (.ref 62), some (.ref 63), some (.ref 64), some (.int a5), some (.int a6), some (.long a7), none, some (.int a9), none, none, none, none, none, none, none, none, none, none, none, none, none, none, none, none, none, none, none, none, none, none, none, none, none, none, none, none, none, none, none, none, none, none, none] [] w (self68 a5 a6 a7 a9 w)) (a5 : Int32) (a6 : Int32) (a7 : Int64) (a9 : Int32) (a10 : Int32) (a11 : Int32) (a12 : Int32) (a13 : Int32) (a14 : Int32) (a15 : Int32) (a16 : Int32) (a17 : Int32) (a20 : Int32) (w : sm_Mem) : sm_Sim E (mi_la_law) 533 [some (.ref 999), some (.ref 0), some (.ref 62), some (.ref 63), some (.ref 64), some (.int a5), some (.int a6), some (.long a7), none, some (.int a9), some (.int a10), some (.int a11), some (.int a12), some (.int a13), some (.int a14), some (.int a15), some (.int a16), some (.int a17), none, none, some (.int a20), none, none, none, none, none, none, none, none, none, none, none, none, none, none, none, none, none, none, none, none, none, none, none, none] [] w (ff_la_law_533 E self68 a5 a6 a7 a9 a10 a11 a12 a13 a14 a15 a16 a17 a20 w) := ss_la_law_533_f self68 hself68 sm_N a5 a6 a7 a9 a10 a11 a12 a13 a14 a15 a16 a17 a20 w
noncomputable def ff_la_law_397 (E : Nat × (Nat → Int32)) (self68 : Int32 → Int32 → Int64 → Int32 → sm_Mem → sm_R) (self248 : Int32 → Int32 → Int64 → Int32 → Int32 → Int32 → Int32 → Int32 → Int32 → Int32 → Int32 → Int32 → Int32 → Int32 → Int32 → sm_Mem → sm_R) (self325 : Int32 → Int32 → Int64 → Int32 → Int32 → Int32 → Int32 → Int32 → Int32 → Int32 → Int32 → Int32 → Int32 → Int32 → Int32 → Int32 → Int32 → Int32 → sm_Mem → sm_R) (a5 : Int32) (a6 : Int32) (a7 : Int64) (a9 : Int32) (a10 : Int32) (a11 : Int32) (a12 : Int32) (a13 : Int32) (a14 : Int32) (a15 : Int32) (a16 : Int32) (a17 : Int32) (a18 : Int32) (a19 : Int32) (a20 : Int32) (a21 : Int32) (a22 : Int32) (a23 : Int32) (a24 : Int32) (b0 : Int32) (b1 : Int32) (w : sm_Mem) : sm_R := (if b0 = b1 then (if a24 = (0 : Int32) then self325 (a5) (a6) (a7) (a9) (a10) (a11) (a12) (a13) (a14) (a15) (a16) (a17) (a18) (a19) (a20) (a21) (a22) ((a23 + (1 : Int32))) w else (sm_cI (ff_ho_said (a13) w) fun x256 w257 => (if x256 = a23 then (sm_cI (ff_ho_asked  w257) fun x258 w259 => (if x258 = a20 then (sm_cI (ff_la_told (a20) ((4 : Int32)) w259) fun x260 w261 => (if x260 = (a21 - (1 : Int32)) then (sm_cI (ff_ho_count ((5 : Int32)) w261) fun x262 w263 => (if x262 = (a15 - (1 : Int32)) then (sm_cI (ff_ho_what (a20) w263) fun x264 w265 => (if x264 = (0 : Int32) then (sm_cI (ff_ho_undo (a11) w265) fun x266 w267 => (if x266 = (1 : Int32) then (sm_cI (ff_la_told (a20) ((4 : Int32)) w267) fun x268 w269 => (if x268 = a21 then self325 (a5) (a6) (a7) (a9) (a10) (a11) (a12) (a13) (a14) (a15) (a16) (a17) (a18) (a19) (a20) (a21) (a22) ((a23 + (1 : Int32))) w269 else (some (.int (0 : Int32), w269)))) else (some (.int (0 : Int32), w267)))) else (some (.int (0 : Int32), w265)))) else (some (.int (0 : Int32), w263)))) else (some (.int (0 : Int32), w261)))) else (some (.int (0 : Int32), w259)))) else (some (.int (0 : Int32), w257))))) else (some (.int (0 : Int32), w)))
set_option maxHeartbeats 4000000 in
set_option maxRecDepth 100000 in
theorem ss_la_law_397 {E : Nat × (Nat → Int32)} (self68 : Int32 → Int32 → Int64 → Int32 → sm_Mem → sm_R) (hself68 : ∀ (a5 : Int32) (a6 : Int32) (a7 : Int64) (a9 : Int32) (w : sm_Mem), sm_Sim E (mi_la_law) 68 [some (.ref 999), some (.ref 0), some (.ref 62), some (.ref 63), some (.ref 64), some (.int a5), some (.int a6), some (.long a7), none, some (.int a9), none, none, none, none, none, none, none, none, none, none, none, none, none, none, none, none, none, none, none, none, none, none, none, none, none, none, none, none, none, none, none, none, none, none, none] [] w (self68 a5 a6 a7 a9 w)) (self248 : Int32 → Int32 → Int64 → Int32 → Int32 → Int32 → Int32 → Int32 → Int32 → Int32 → Int32 → Int32 → Int32 → Int32 → Int32 → sm_Mem → sm_R) (hself248 : ∀ (a5 : Int32) (a6 : Int32) (a7 : Int64) (a9 : Int32) (a10 : Int32) (a11 : Int32) (a12 : Int32) (a13 : Int32) (a14 : Int32) (a15 : Int32) (a16 : Int32) (a17 : Int32) (a18 : Int32) (a19 : Int32) (a20 : Int32) (w : sm_Mem), sm_Sim E (mi_la_law) 248 [some (.ref 999), some (.ref 0), some (.ref 62), some (.ref 63), some (.ref 64), some (.int a5), some (.int a6), some (.long a7), none, some (.int a9), some (.int a10), some (.int a11), some (.int a12), some (.int a13), some (.int a14), some (.int a15), some (.int a16), some (.int a17), some (.int a18), some (.int a19), some (.int a20), none, none, none, none, none, none, none, none, none, none, none, none, none, none, none, none, none, none, none, none, none, none, none, none] [] w (self248 a5 a6 a7 a9 a10 a11 a12 a13 a14 a15 a16 a17 a18 a19 a20 w)) (self325 : Int32 → Int32 → Int64 → Int32 → Int32 → Int32 → Int32 → Int32 → Int32 → Int32 → Int32 → Int32 → Int32 → Int32 → Int32 → Int32 → Int32 → Int32 → sm_Mem → sm_R) (hself325 : ∀ (a5 : Int32) (a6 : Int32) (a7 : Int64) (a9 : Int32) (a10 : Int32) (a11 : Int32) (a12 : Int32) (a13 : Int32) (a14 : Int32) (a15 : Int32) (a16 : Int32) (a17 : Int32) (a18 : Int32) (a19 : Int32) (a20 : Int32) (a21 : Int32) (a22 : Int32) (a23 : Int32) (w : sm_Mem), sm_Sim E (mi_la_law) 325 [some (.ref 999), some (.ref 0), some (.ref 62), some (.ref 63), some (.ref 64), some (.int a5), some (.int a6), some (.long a7), none, some (.int a9), some (.int a10), some (.int a11), some (.int a12), some (.int a13), some (.int a14), some (.int a15), some (.int a16), some (.int a17), some (.int a18), some (.int a19), some (.int a20), some (.int a21), some (.int a22), some (.int a23), none, none, none, none, none, none, none, none, none, none, none, none, none, none, none, none, none, none, none, none, none] [] w (self325 a5 a6 a7 a9 a10 a11 a12 a13 a14 a15 a16 a17 a18 a19 a20 a21 a22 a23 w)) (a5 : Int32) (a6 : Int32) (a7 : Int64) (a9 : Int32) (a10 : Int32) (a11 : Int32) (a12 : Int32) (a13 : Int32) (a14 : Int32) (a15 : Int32) (a16 : Int32) (a17 : Int32) (a18 : Int32) (a19 : Int32) (a20 : Int32) (a21 : Int32) (a22 : Int32) (a23 : Int32) (a24 : Int32) (b0 : Int32) (b1 : Int32) (w : sm_Mem) : sm_Sim E (mi_la_law) 397 [some (.ref 999), some (.ref 0), some (.ref 62), some (.ref 63), some (.ref 64), some (.int a5), some (.int a6), some (.long a7), none, some (.int a9), some (.int a10), some (.int a11), some (.int a12), some (.int a13), some (.int a14), some (.int a15), some (.int a16), some (.int a17), some (.int a18), some (.int a19), some (.int a20), some (.int a21), some (.int a22), some (.int a23), some (.int a24), none, none, none, none, none, none, none, none, none, none, none, none, none, none, none, none, none, none, none, none] [.int b1, .int b0] w (ff_la_law_397 E self68 self248 self325 a5 a6 a7 a9 a10 a11 a12 a13 a14 a15 a16 a17 a18 a19 a20 a21 a22 a23 a24 b0 b1 w) := by
  unfold ff_la_law_397
  refine sm_icmp_eq 402 ii_la_law_397 (by decide) ?_ ?_
  · refine sm_iload ii_la_law_402 rfl ?_
    refine sm_if_eq 486 ii_la_law_404 (by decide) ?_ ?_
    · refine sm_iinc (a23 + (1 : Int32)) [some (.ref 999), some (.ref 0), some (.ref 62), some (.ref 63), some (.ref 64), some (.int a5), some (.int a6), some (.long a7), none, some (.int a9), some (.int a10), some (.int a11), some (.int a12), some (.int a13), some (.int a14), some (.int a15), some (.int a16), some (.int a17), some (.int a18), some (.int a19), some (.int a20), some (.int a21), some (.int a22), some (.int (a23 + (1 : Int32))), some (.int a24), none, none, none, none, none, none, none, none, none, none, none, none, none, none, none, none, none, none, none, none] ii_la_law_486 rfl rfl rfl rfl ?_
      refine sm_goto 325 ii_la_law_489 (by decide) ?_
      refine sm_msk [true, true, true, true, true, true, true, true, false, true, true, true, true, true, true, true, true, true, true, true, true, true, true, true, false, false, false, false, false, false, false, false, false, false, false, false, false, false, false, false, false, false, false, false, false] [some (.ref 999), some (.ref 0), some (.ref 62), some (.ref 63), some (.ref 64), some (.int a5), some (.int a6), some (.long a7), none, some (.int a9), some (.int a10), some (.int a11), some (.int a12), some (.int a13), some (.int a14), some (.int a15), some (.int a16), some (.int a17), some (.int a18), some (.int a19), some (.int a20), some (.int a21), some (.int a22), some (.int (a23 + (1 : Int32))), none, none, none, none, none, none, none, none, none, none, none, none, none, none, none, none, none, none, none, none, none] rfl ?_
      exact hself325 (a5) (a6) (a7) (a9) (a10) (a11) (a12) (a13) (a14) (a15) (a16) (a17) (a18) (a19) (a20) (a21) (a22) ((a23 + (1 : Int32))) w
    · refine sm_aload_n ii_la_law_407 rfl ?_
      refine sm_iload ii_la_law_408 rfl ?_
      refine sm_cvI [.int a13] [] rfl ii_la_law_410 ml_la_99 (mf_ho_said) (mv_ho_said) (Nat.le_of_ble_eq_true rfl) rfl 6 rfl rfl rfl rfl (mc_ho_said (a13) w) (fun x256 w257 => ?_)
      refine sm_iload ii_la_law_413 rfl ?_
      refine sm_icmp_ne 484 ii_la_law_415 (by decide) ?_ ?_
      · refine sm_aload_n ii_la_law_418 rfl ?_
        refine sm_cvI [] [] rfl ii_la_law_419 ml_la_78 (mf_ho_asked) (mv_ho_asked) (Nat.le_of_ble_eq_true rfl) rfl 6 rfl rfl rfl rfl (mc_ho_asked  w257) (fun x258 w259 => ?_)
        refine sm_iload ii_la_law_422 rfl ?_
        refine sm_icmp_ne 484 ii_la_law_424 (by decide) ?_ ?_
        · refine sm_aload_n ii_la_law_427 rfl ?_
          refine sm_iload ii_la_law_428 rfl ?_
          refine sm_iconst (4 : Int32) ii_la_law_430 (by decide) ?_
          refine sm_csI [.ref 0, .int a20, .int (4 : Int32)] [] rfl ii_la_law_431 ml_la_102 (mf_la_told) (mv_la_told) (Nat.le_of_ble_eq_true rfl) rfl rfl rfl (mc_la_told (a20) ((4 : Int32)) w259) (fun x260 w261 => ?_)
          refine sm_iload ii_la_law_434 rfl ?_
          refine sm_iconst (1 : Int32) ii_la_law_436 (by decide) ?_
          refine sm_isub ii_la_law_437 ?_
          refine sm_icmp_ne 484 ii_la_law_438 (by decide) ?_ ?_
          · refine sm_aload_n ii_la_law_441 rfl ?_
            refine sm_iconst (5 : Int32) ii_la_law_442 (by decide) ?_
            refine sm_cvI [.int (5 : Int32)] [] rfl ii_la_law_443 ml_la_96 (mf_ho_count) (mv_ho_count) (Nat.le_of_ble_eq_true rfl) rfl 6 rfl rfl rfl rfl (mc_ho_count ((5 : Int32)) w261) (fun x262 w263 => ?_)
            refine sm_iload ii_la_law_446 rfl ?_
            refine sm_iconst (1 : Int32) ii_la_law_448 (by decide) ?_
            refine sm_isub ii_la_law_449 ?_
            refine sm_icmp_ne 484 ii_la_law_450 (by decide) ?_ ?_
            · refine sm_aload_n ii_la_law_453 rfl ?_
              refine sm_iload ii_la_law_454 rfl ?_
              refine sm_cvI [.int a20] [] rfl ii_la_law_456 ml_la_106 (mf_ho_what) (mv_ho_what) (Nat.le_of_ble_eq_true rfl) rfl 6 rfl rfl rfl rfl (mc_ho_what (a20) w263) (fun x264 w265 => ?_)
              refine sm_if_ne 484 ii_la_law_459 (by decide) ?_ ?_
              · refine sm_aload_n ii_la_law_462 rfl ?_
                refine sm_iload ii_la_law_463 rfl ?_
                refine sm_cvI [.int a11] [] rfl ii_la_law_465 ml_la_111 (mf_ho_undo) (mv_ho_undo) (Nat.le_of_ble_eq_true rfl) rfl 6 rfl rfl rfl rfl (mc_ho_undo (a11) w265) (fun x266 w267 => ?_)
                refine sm_iconst (1 : Int32) ii_la_law_468 (by decide) ?_
                refine sm_icmp_ne 484 ii_la_law_469 (by decide) ?_ ?_
                · refine sm_aload_n ii_la_law_472 rfl ?_
                  refine sm_iload ii_la_law_473 rfl ?_
                  refine sm_iconst (4 : Int32) ii_la_law_475 (by decide) ?_
                  refine sm_csI [.ref 0, .int a20, .int (4 : Int32)] [] rfl ii_la_law_476 ml_la_102 (mf_la_told) (mv_la_told) (Nat.le_of_ble_eq_true rfl) rfl rfl rfl (mc_la_told (a20) ((4 : Int32)) w267) (fun x268 w269 => ?_)
                  refine sm_iload ii_la_law_479 rfl ?_
                  refine sm_icmp_eq 486 ii_la_law_481 (by decide) ?_ ?_
                  · refine sm_iinc (a23 + (1 : Int32)) [some (.ref 999), some (.ref 0), some (.ref 62), some (.ref 63), some (.ref 64), some (.int a5), some (.int a6), some (.long a7), none, some (.int a9), some (.int a10), some (.int a11), some (.int a12), some (.int a13), some (.int a14), some (.int a15), some (.int a16), some (.int a17), some (.int a18), some (.int a19), some (.int a20), some (.int a21), some (.int a22), some (.int (a23 + (1 : Int32))), some (.int a24), none, none, none, none, none, none, none, none, none, none, none, none, none, none, none, none, none, none, none, none] ii_la_law_486 rfl rfl rfl rfl ?_
                    refine sm_goto 325 ii_la_law_489 (by decide) ?_
                    refine sm_msk [true, true, true, true, true, true, true, true, false, true, true, true, true, true, true, true, true, true, true, true, true, true, true, true, false, false, false, false, false, false, false, false, false, false, false, false, false, false, false, false, false, false, false, false, false] [some (.ref 999), some (.ref 0), some (.ref 62), some (.ref 63), some (.ref 64), some (.int a5), some (.int a6), some (.long a7), none, some (.int a9), some (.int a10), some (.int a11), some (.int a12), some (.int a13), some (.int a14), some (.int a15), some (.int a16), some (.int a17), some (.int a18), some (.int a19), some (.int a20), some (.int a21), some (.int a22), some (.int (a23 + (1 : Int32))), none, none, none, none, none, none, none, none, none, none, none, none, none, none, none, none, none, none, none, none, none] rfl ?_
                    exact hself325 (a5) (a6) (a7) (a9) (a10) (a11) (a12) (a13) (a14) (a15) (a16) (a17) (a18) (a19) (a20) (a21) (a22) ((a23 + (1 : Int32))) w269
                  · refine sm_iconst (0 : Int32) ii_la_law_484 (by decide) ?_
                    exact sm_zret1 ii_la_law_485 rfl (by decide)
                · refine sm_iconst (0 : Int32) ii_la_law_484 (by decide) ?_
                  exact sm_zret1 ii_la_law_485 rfl (by decide)
              · refine sm_iconst (0 : Int32) ii_la_law_484 (by decide) ?_
                exact sm_zret1 ii_la_law_485 rfl (by decide)
            · refine sm_iconst (0 : Int32) ii_la_law_484 (by decide) ?_
              exact sm_zret1 ii_la_law_485 rfl (by decide)
          · refine sm_iconst (0 : Int32) ii_la_law_484 (by decide) ?_
            exact sm_zret1 ii_la_law_485 rfl (by decide)
        · refine sm_iconst (0 : Int32) ii_la_law_484 (by decide) ?_
          exact sm_zret1 ii_la_law_485 rfl (by decide)
      · refine sm_iconst (0 : Int32) ii_la_law_484 (by decide) ?_
        exact sm_zret1 ii_la_law_485 rfl (by decide)
  · refine sm_iconst (0 : Int32) ii_la_law_400 (by decide) ?_
    exact sm_zret1 ii_la_law_401 rfl (by decide)
noncomputable def ff_la_law_372 (E : Nat × (Nat → Int32)) (self68 : Int32 → Int32 → Int64 → Int32 → sm_Mem → sm_R) (self248 : Int32 → Int32 → Int64 → Int32 → Int32 → Int32 → Int32 → Int32 → Int32 → Int32 → Int32 → Int32 → Int32 → Int32 → Int32 → sm_Mem → sm_R) (self325 : Int32 → Int32 → Int64 → Int32 → Int32 → Int32 → Int32 → Int32 → Int32 → Int32 → Int32 → Int32 → Int32 → Int32 → Int32 → Int32 → Int32 → Int32 → sm_Mem → sm_R) (a5 : Int32) (a6 : Int32) (a7 : Int64) (a9 : Int32) (a10 : Int32) (a11 : Int32) (a12 : Int32) (a13 : Int32) (a14 : Int32) (a15 : Int32) (a16 : Int32) (a17 : Int32) (a18 : Int32) (a19 : Int32) (a20 : Int32) (a21 : Int32) (a22 : Int32) (a23 : Int32) (a24 : Int32) (b0 : Int32) (b1 : Int32) (w : sm_Mem) : sm_R := (if b0 = b1 then (sm_cI (ff_ho_say (a20) (a23) w) fun x270 w271 => (if a24 = (0 : Int32) then ff_la_law_397 E self68 self248 self325 (a5) (a6) (a7) (a9) (a10) (a11) (a12) (a13) (a14) (a15) (a16) (a17) (a18) (a19) (a20) (a21) (a22) (a23) (a24) (x270) ((-4 : Int32)) w271 else ff_la_law_397 E self68 self248 self325 (a5) (a6) (a7) (a9) (a10) (a11) (a12) (a13) (a14) (a15) (a16) (a17) (a18) (a19) (a20) (a21) (a22) (a23) (a24) (x270) ((a13 + (1 : Int32))) w271)) else (some (.int (0 : Int32), w)))
set_option maxHeartbeats 4000000 in
set_option maxRecDepth 100000 in
theorem ss_la_law_372 {E : Nat × (Nat → Int32)} (self68 : Int32 → Int32 → Int64 → Int32 → sm_Mem → sm_R) (hself68 : ∀ (a5 : Int32) (a6 : Int32) (a7 : Int64) (a9 : Int32) (w : sm_Mem), sm_Sim E (mi_la_law) 68 [some (.ref 999), some (.ref 0), some (.ref 62), some (.ref 63), some (.ref 64), some (.int a5), some (.int a6), some (.long a7), none, some (.int a9), none, none, none, none, none, none, none, none, none, none, none, none, none, none, none, none, none, none, none, none, none, none, none, none, none, none, none, none, none, none, none, none, none, none, none] [] w (self68 a5 a6 a7 a9 w)) (self248 : Int32 → Int32 → Int64 → Int32 → Int32 → Int32 → Int32 → Int32 → Int32 → Int32 → Int32 → Int32 → Int32 → Int32 → Int32 → sm_Mem → sm_R) (hself248 : ∀ (a5 : Int32) (a6 : Int32) (a7 : Int64) (a9 : Int32) (a10 : Int32) (a11 : Int32) (a12 : Int32) (a13 : Int32) (a14 : Int32) (a15 : Int32) (a16 : Int32) (a17 : Int32) (a18 : Int32) (a19 : Int32) (a20 : Int32) (w : sm_Mem), sm_Sim E (mi_la_law) 248 [some (.ref 999), some (.ref 0), some (.ref 62), some (.ref 63), some (.ref 64), some (.int a5), some (.int a6), some (.long a7), none, some (.int a9), some (.int a10), some (.int a11), some (.int a12), some (.int a13), some (.int a14), some (.int a15), some (.int a16), some (.int a17), some (.int a18), some (.int a19), some (.int a20), none, none, none, none, none, none, none, none, none, none, none, none, none, none, none, none, none, none, none, none, none, none, none, none] [] w (self248 a5 a6 a7 a9 a10 a11 a12 a13 a14 a15 a16 a17 a18 a19 a20 w)) (self325 : Int32 → Int32 → Int64 → Int32 → Int32 → Int32 → Int32 → Int32 → Int32 → Int32 → Int32 → Int32 → Int32 → Int32 → Int32 → Int32 → Int32 → Int32 → sm_Mem → sm_R) (hself325 : ∀ (a5 : Int32) (a6 : Int32) (a7 : Int64) (a9 : Int32) (a10 : Int32) (a11 : Int32) (a12 : Int32) (a13 : Int32) (a14 : Int32) (a15 : Int32) (a16 : Int32) (a17 : Int32) (a18 : Int32) (a19 : Int32) (a20 : Int32) (a21 : Int32) (a22 : Int32) (a23 : Int32) (w : sm_Mem), sm_Sim E (mi_la_law) 325 [some (.ref 999), some (.ref 0), some (.ref 62), some (.ref 63), some (.ref 64), some (.int a5), some (.int a6), some (.long a7), none, some (.int a9), some (.int a10), some (.int a11), some (.int a12), some (.int a13), some (.int a14), some (.int a15), some (.int a16), some (.int a17), some (.int a18), some (.int a19), some (.int a20), some (.int a21), some (.int a22), some (.int a23), none, none, none, none, none, none, none, none, none, none, none, none, none, none, none, none, none, none, none, none, none] [] w (self325 a5 a6 a7 a9 a10 a11 a12 a13 a14 a15 a16 a17 a18 a19 a20 a21 a22 a23 w)) (a5 : Int32) (a6 : Int32) (a7 : Int64) (a9 : Int32) (a10 : Int32) (a11 : Int32) (a12 : Int32) (a13 : Int32) (a14 : Int32) (a15 : Int32) (a16 : Int32) (a17 : Int32) (a18 : Int32) (a19 : Int32) (a20 : Int32) (a21 : Int32) (a22 : Int32) (a23 : Int32) (a24 : Int32) (b0 : Int32) (b1 : Int32) (w : sm_Mem) : sm_Sim E (mi_la_law) 372 [some (.ref 999), some (.ref 0), some (.ref 62), some (.ref 63), some (.ref 64), some (.int a5), some (.int a6), some (.long a7), none, some (.int a9), some (.int a10), some (.int a11), some (.int a12), some (.int a13), some (.int a14), some (.int a15), some (.int a16), some (.int a17), some (.int a18), some (.int a19), some (.int a20), some (.int a21), some (.int a22), some (.int a23), some (.int a24), none, none, none, none, none, none, none, none, none, none, none, none, none, none, none, none, none, none, none, none] [.int b1, .int b0] w (ff_la_law_372 E self68 self248 self325 a5 a6 a7 a9 a10 a11 a12 a13 a14 a15 a16 a17 a18 a19 a20 a21 a22 a23 a24 b0 b1 w) := by
  unfold ff_la_law_372
  refine sm_icmp_ne 400 ii_la_law_372 (by decide) ?_ ?_
  · refine sm_aload_n ii_la_law_375 rfl ?_
    refine sm_iload ii_la_law_376 rfl ?_
    refine sm_iload ii_la_law_378 rfl ?_
    refine sm_cvI [.int a20, .int a23] [] rfl ii_la_law_380 ml_la_58 (mf_ho_say) (mv_ho_say) (Nat.le_of_ble_eq_true rfl) rfl 6 rfl rfl rfl rfl (mc_ho_say (a20) (a23) w) (fun x270 w271 => ?_)
    refine sm_iload ii_la_law_383 rfl ?_
    refine sm_if_eq 395 ii_la_law_385 (by decide) ?_ ?_
    · refine sm_bipush (-4 : Int32) ii_la_law_395 (by decide) ?_
      exact ss_la_law_397 self68 hself68 self248 hself248 self325 hself325 (a5) (a6) (a7) (a9) (a10) (a11) (a12) (a13) (a14) (a15) (a16) (a17) (a18) (a19) (a20) (a21) (a22) (a23) (a24) (x270) ((-4 : Int32)) w271
    · refine sm_iload ii_la_law_388 rfl ?_
      refine sm_iconst (1 : Int32) ii_la_law_390 (by decide) ?_
      refine sm_iadd ii_la_law_391 ?_
      refine sm_goto 397 ii_la_law_392 (by decide) ?_
      exact ss_la_law_397 self68 hself68 self248 hself248 self325 hself325 (a5) (a6) (a7) (a9) (a10) (a11) (a12) (a13) (a14) (a15) (a16) (a17) (a18) (a19) (a20) (a21) (a22) (a23) (a24) (x270) ((a13 + (1 : Int32))) w271
  · refine sm_iconst (0 : Int32) ii_la_law_400 (by decide) ?_
    exact sm_zret1 ii_la_law_401 rfl (by decide)
noncomputable def ff_la_law_348 (E : Nat × (Nat → Int32)) (self68 : Int32 → Int32 → Int64 → Int32 → sm_Mem → sm_R) (self248 : Int32 → Int32 → Int64 → Int32 → Int32 → Int32 → Int32 → Int32 → Int32 → Int32 → Int32 → Int32 → Int32 → Int32 → Int32 → sm_Mem → sm_R) (self325 : Int32 → Int32 → Int64 → Int32 → Int32 → Int32 → Int32 → Int32 → Int32 → Int32 → Int32 → Int32 → Int32 → Int32 → Int32 → Int32 → Int32 → Int32 → sm_Mem → sm_R) (a5 : Int32) (a6 : Int32) (a7 : Int64) (a9 : Int32) (a10 : Int32) (a11 : Int32) (a12 : Int32) (a13 : Int32) (a14 : Int32) (a15 : Int32) (a16 : Int32) (a17 : Int32) (a18 : Int32) (a19 : Int32) (a20 : Int32) (a21 : Int32) (a22 : Int32) (a23 : Int32) (b0 : Int32) (w : sm_Mem) : sm_R := (sm_cI (ff_ho_who (a23) w) fun x272 w273 => (if ((x272 >>> (a20 &&& (31 : Int32))) &&& (1 : Int32)) = (1 : Int32) then ff_la_law_372 E self68 self248 self325 (a5) (a6) (a7) (a9) (a10) (a11) (a12) (a13) (a14) (a15) (a16) (a17) (a18) (a19) (a20) (a21) (a22) (a23) (b0) (b0) ((1 : Int32)) w273 else ff_la_law_372 E self68 self248 self325 (a5) (a6) (a7) (a9) (a10) (a11) (a12) (a13) (a14) (a15) (a16) (a17) (a18) (a19) (a20) (a21) (a22) (a23) (b0) (b0) ((0 : Int32)) w273))
set_option maxHeartbeats 4000000 in
set_option maxRecDepth 100000 in
theorem ss_la_law_348 {E : Nat × (Nat → Int32)} (self68 : Int32 → Int32 → Int64 → Int32 → sm_Mem → sm_R) (hself68 : ∀ (a5 : Int32) (a6 : Int32) (a7 : Int64) (a9 : Int32) (w : sm_Mem), sm_Sim E (mi_la_law) 68 [some (.ref 999), some (.ref 0), some (.ref 62), some (.ref 63), some (.ref 64), some (.int a5), some (.int a6), some (.long a7), none, some (.int a9), none, none, none, none, none, none, none, none, none, none, none, none, none, none, none, none, none, none, none, none, none, none, none, none, none, none, none, none, none, none, none, none, none, none, none] [] w (self68 a5 a6 a7 a9 w)) (self248 : Int32 → Int32 → Int64 → Int32 → Int32 → Int32 → Int32 → Int32 → Int32 → Int32 → Int32 → Int32 → Int32 → Int32 → Int32 → sm_Mem → sm_R) (hself248 : ∀ (a5 : Int32) (a6 : Int32) (a7 : Int64) (a9 : Int32) (a10 : Int32) (a11 : Int32) (a12 : Int32) (a13 : Int32) (a14 : Int32) (a15 : Int32) (a16 : Int32) (a17 : Int32) (a18 : Int32) (a19 : Int32) (a20 : Int32) (w : sm_Mem), sm_Sim E (mi_la_law) 248 [some (.ref 999), some (.ref 0), some (.ref 62), some (.ref 63), some (.ref 64), some (.int a5), some (.int a6), some (.long a7), none, some (.int a9), some (.int a10), some (.int a11), some (.int a12), some (.int a13), some (.int a14), some (.int a15), some (.int a16), some (.int a17), some (.int a18), some (.int a19), some (.int a20), none, none, none, none, none, none, none, none, none, none, none, none, none, none, none, none, none, none, none, none, none, none, none, none] [] w (self248 a5 a6 a7 a9 a10 a11 a12 a13 a14 a15 a16 a17 a18 a19 a20 w)) (self325 : Int32 → Int32 → Int64 → Int32 → Int32 → Int32 → Int32 → Int32 → Int32 → Int32 → Int32 → Int32 → Int32 → Int32 → Int32 → Int32 → Int32 → Int32 → sm_Mem → sm_R) (hself325 : ∀ (a5 : Int32) (a6 : Int32) (a7 : Int64) (a9 : Int32) (a10 : Int32) (a11 : Int32) (a12 : Int32) (a13 : Int32) (a14 : Int32) (a15 : Int32) (a16 : Int32) (a17 : Int32) (a18 : Int32) (a19 : Int32) (a20 : Int32) (a21 : Int32) (a22 : Int32) (a23 : Int32) (w : sm_Mem), sm_Sim E (mi_la_law) 325 [some (.ref 999), some (.ref 0), some (.ref 62), some (.ref 63), some (.ref 64), some (.int a5), some (.int a6), some (.long a7), none, some (.int a9), some (.int a10), some (.int a11), some (.int a12), some (.int a13), some (.int a14), some (.int a15), some (.int a16), some (.int a17), some (.int a18), some (.int a19), some (.int a20), some (.int a21), some (.int a22), some (.int a23), none, none, none, none, none, none, none, none, none, none, none, none, none, none, none, none, none, none, none, none, none] [] w (self325 a5 a6 a7 a9 a10 a11 a12 a13 a14 a15 a16 a17 a18 a19 a20 a21 a22 a23 w)) (a5 : Int32) (a6 : Int32) (a7 : Int64) (a9 : Int32) (a10 : Int32) (a11 : Int32) (a12 : Int32) (a13 : Int32) (a14 : Int32) (a15 : Int32) (a16 : Int32) (a17 : Int32) (a18 : Int32) (a19 : Int32) (a20 : Int32) (a21 : Int32) (a22 : Int32) (a23 : Int32) (b0 : Int32) (w : sm_Mem) : sm_Sim E (mi_la_law) 348 [some (.ref 999), some (.ref 0), some (.ref 62), some (.ref 63), some (.ref 64), some (.int a5), some (.int a6), some (.long a7), none, some (.int a9), some (.int a10), some (.int a11), some (.int a12), some (.int a13), some (.int a14), some (.int a15), some (.int a16), some (.int a17), some (.int a18), some (.int a19), some (.int a20), some (.int a21), some (.int a22), some (.int a23), none, none, none, none, none, none, none, none, none, none, none, none, none, none, none, none, none, none, none, none, none] [.int b0] w (ff_la_law_348 E self68 self248 self325 a5 a6 a7 a9 a10 a11 a12 a13 a14 a15 a16 a17 a18 a19 a20 a21 a22 a23 b0 w) := by
  unfold ff_la_law_348
  refine sm_istore [some (.ref 999), some (.ref 0), some (.ref 62), some (.ref 63), some (.ref 64), some (.int a5), some (.int a6), some (.long a7), none, some (.int a9), some (.int a10), some (.int a11), some (.int a12), some (.int a13), some (.int a14), some (.int a15), some (.int a16), some (.int a17), some (.int a18), some (.int a19), some (.int a20), some (.int a21), some (.int a22), some (.int a23), some (.int b0), none, none, none, none, none, none, none, none, none, none, none, none, none, none, none, none, none, none, none, none] ii_la_law_348 rfl rfl ?_
  refine sm_iload ii_la_law_350 rfl ?_
  refine sm_aload_n ii_la_law_352 rfl ?_
  refine sm_iload ii_la_law_353 rfl ?_
  refine sm_cvI [.int a23] [.int b0] rfl ii_la_law_355 ml_la_108 (mf_ho_who) (mv_ho_who) (Nat.le_of_ble_eq_true rfl) rfl 6 rfl rfl rfl rfl (mc_ho_who (a23) w) (fun x272 w273 => ?_)
  refine sm_iload ii_la_law_358 rfl ?_
  refine sm_ishr ii_la_law_360 ?_
  refine sm_iconst (1 : Int32) ii_la_law_361 (by decide) ?_
  refine sm_iand ii_la_law_362 ?_
  refine sm_iconst (1 : Int32) ii_la_law_363 (by decide) ?_
  refine sm_icmp_ne 371 ii_la_law_364 (by decide) ?_ ?_
  · refine sm_iconst (1 : Int32) ii_la_law_367 (by decide) ?_
    refine sm_goto 372 ii_la_law_368 (by decide) ?_
    exact ss_la_law_372 self68 hself68 self248 hself248 self325 hself325 (a5) (a6) (a7) (a9) (a10) (a11) (a12) (a13) (a14) (a15) (a16) (a17) (a18) (a19) (a20) (a21) (a22) (a23) (b0) (b0) ((1 : Int32)) w273
  · refine sm_iconst (0 : Int32) ii_la_law_371 (by decide) ?_
    exact ss_la_law_372 self68 hself68 self248 hself248 self325 hself325 (a5) (a6) (a7) (a9) (a10) (a11) (a12) (a13) (a14) (a15) (a16) (a17) (a18) (a19) (a20) (a21) (a22) (a23) (b0) (b0) ((0 : Int32)) w273
noncomputable def ff_la_law_325_b (E : Nat × (Nat → Int32)) (self68 : Int32 → Int32 → Int64 → Int32 → sm_Mem → sm_R) (self248 : Int32 → Int32 → Int64 → Int32 → Int32 → Int32 → Int32 → Int32 → Int32 → Int32 → Int32 → Int32 → Int32 → Int32 → Int32 → sm_Mem → sm_R) (self325 : Int32 → Int32 → Int64 → Int32 → Int32 → Int32 → Int32 → Int32 → Int32 → Int32 → Int32 → Int32 → Int32 → Int32 → Int32 → Int32 → Int32 → Int32 → sm_Mem → sm_R) (a5 : Int32) (a6 : Int32) (a7 : Int64) (a9 : Int32) (a10 : Int32) (a11 : Int32) (a12 : Int32) (a13 : Int32) (a14 : Int32) (a15 : Int32) (a16 : Int32) (a17 : Int32) (a18 : Int32) (a19 : Int32) (a20 : Int32) (a21 : Int32) (a22 : Int32) (a23 : Int32) (w : sm_Mem) : sm_R := (if (6 : Int32) ≤ a23 then self248 (a5) (a6) (a7) (a9) (a10) (a11) (a12) (a13) (a14) (a15) (a16) (a17) (a18) (a19) ((a20 + (1 : Int32))) w else (if ((a22 >>> (a23 &&& (31 : Int32))) &&& (1 : Int32)) = (1 : Int32) then ff_la_law_348 E self68 self248 self325 (a5) (a6) (a7) (a9) (a10) (a11) (a12) (a13) (a14) (a15) (a16) (a17) (a18) (a19) (a20) (a21) (a22) (a23) ((1 : Int32)) w else ff_la_law_348 E self68 self248 self325 (a5) (a6) (a7) (a9) (a10) (a11) (a12) (a13) (a14) (a15) (a16) (a17) (a18) (a19) (a20) (a21) (a22) (a23) ((0 : Int32)) w))
noncomputable def ff_la_law_325_f (E : Nat × (Nat → Int32)) (self68 : Int32 → Int32 → Int64 → Int32 → sm_Mem → sm_R) (self248 : Int32 → Int32 → Int64 → Int32 → Int32 → Int32 → Int32 → Int32 → Int32 → Int32 → Int32 → Int32 → Int32 → Int32 → Int32 → sm_Mem → sm_R) : Nat → Int32 → Int32 → Int64 → Int32 → Int32 → Int32 → Int32 → Int32 → Int32 → Int32 → Int32 → Int32 → Int32 → Int32 → Int32 → Int32 → Int32 → Int32 → sm_Mem → sm_R
  | 0, _, _, _, _, _, _, _, _, _, _, _, _, _, _, _, _, _, _, _ => none
  | n + 1, a5, a6, a7, a9, a10, a11, a12, a13, a14, a15, a16, a17, a18, a19, a20, a21, a22, a23, w => ff_la_law_325_b E self68 self248 (ff_la_law_325_f E self68 self248 n) a5 a6 a7 a9 a10 a11 a12 a13 a14 a15 a16 a17 a18 a19 a20 a21 a22 a23 w
noncomputable def ff_la_law_325 (E : Nat × (Nat → Int32)) (self68 : Int32 → Int32 → Int64 → Int32 → sm_Mem → sm_R) (self248 : Int32 → Int32 → Int64 → Int32 → Int32 → Int32 → Int32 → Int32 → Int32 → Int32 → Int32 → Int32 → Int32 → Int32 → Int32 → sm_Mem → sm_R) (a5 : Int32) (a6 : Int32) (a7 : Int64) (a9 : Int32) (a10 : Int32) (a11 : Int32) (a12 : Int32) (a13 : Int32) (a14 : Int32) (a15 : Int32) (a16 : Int32) (a17 : Int32) (a18 : Int32) (a19 : Int32) (a20 : Int32) (a21 : Int32) (a22 : Int32) (a23 : Int32) (w : sm_Mem) : sm_R := ff_la_law_325_f E self68 self248 sm_N a5 a6 a7 a9 a10 a11 a12 a13 a14 a15 a16 a17 a18 a19 a20 a21 a22 a23 w
set_option maxHeartbeats 4000000 in
set_option maxRecDepth 100000 in
theorem ss_la_law_325_b {E : Nat × (Nat → Int32)} (self68 : Int32 → Int32 → Int64 → Int32 → sm_Mem → sm_R) (hself68 : ∀ (a5 : Int32) (a6 : Int32) (a7 : Int64) (a9 : Int32) (w : sm_Mem), sm_Sim E (mi_la_law) 68 [some (.ref 999), some (.ref 0), some (.ref 62), some (.ref 63), some (.ref 64), some (.int a5), some (.int a6), some (.long a7), none, some (.int a9), none, none, none, none, none, none, none, none, none, none, none, none, none, none, none, none, none, none, none, none, none, none, none, none, none, none, none, none, none, none, none, none, none, none, none] [] w (self68 a5 a6 a7 a9 w)) (self248 : Int32 → Int32 → Int64 → Int32 → Int32 → Int32 → Int32 → Int32 → Int32 → Int32 → Int32 → Int32 → Int32 → Int32 → Int32 → sm_Mem → sm_R) (hself248 : ∀ (a5 : Int32) (a6 : Int32) (a7 : Int64) (a9 : Int32) (a10 : Int32) (a11 : Int32) (a12 : Int32) (a13 : Int32) (a14 : Int32) (a15 : Int32) (a16 : Int32) (a17 : Int32) (a18 : Int32) (a19 : Int32) (a20 : Int32) (w : sm_Mem), sm_Sim E (mi_la_law) 248 [some (.ref 999), some (.ref 0), some (.ref 62), some (.ref 63), some (.ref 64), some (.int a5), some (.int a6), some (.long a7), none, some (.int a9), some (.int a10), some (.int a11), some (.int a12), some (.int a13), some (.int a14), some (.int a15), some (.int a16), some (.int a17), some (.int a18), some (.int a19), some (.int a20), none, none, none, none, none, none, none, none, none, none, none, none, none, none, none, none, none, none, none, none, none, none, none, none] [] w (self248 a5 a6 a7 a9 a10 a11 a12 a13 a14 a15 a16 a17 a18 a19 a20 w)) (self325 : Int32 → Int32 → Int64 → Int32 → Int32 → Int32 → Int32 → Int32 → Int32 → Int32 → Int32 → Int32 → Int32 → Int32 → Int32 → Int32 → Int32 → Int32 → sm_Mem → sm_R) (hself325 : ∀ (a5 : Int32) (a6 : Int32) (a7 : Int64) (a9 : Int32) (a10 : Int32) (a11 : Int32) (a12 : Int32) (a13 : Int32) (a14 : Int32) (a15 : Int32) (a16 : Int32) (a17 : Int32) (a18 : Int32) (a19 : Int32) (a20 : Int32) (a21 : Int32) (a22 : Int32) (a23 : Int32) (w : sm_Mem), sm_Sim E (mi_la_law) 325 [some (.ref 999), some (.ref 0), some (.ref 62), some (.ref 63), some (.ref 64), some (.int a5), some (.int a6), some (.long a7), none, some (.int a9), some (.int a10), some (.int a11), some (.int a12), some (.int a13), some (.int a14), some (.int a15), some (.int a16), some (.int a17), some (.int a18), some (.int a19), some (.int a20), some (.int a21), some (.int a22), some (.int a23), none, none, none, none, none, none, none, none, none, none, none, none, none, none, none, none, none, none, none, none, none] [] w (self325 a5 a6 a7 a9 a10 a11 a12 a13 a14 a15 a16 a17 a18 a19 a20 a21 a22 a23 w)) (a5 : Int32) (a6 : Int32) (a7 : Int64) (a9 : Int32) (a10 : Int32) (a11 : Int32) (a12 : Int32) (a13 : Int32) (a14 : Int32) (a15 : Int32) (a16 : Int32) (a17 : Int32) (a18 : Int32) (a19 : Int32) (a20 : Int32) (a21 : Int32) (a22 : Int32) (a23 : Int32) (w : sm_Mem) : sm_Sim E (mi_la_law) 325 [some (.ref 999), some (.ref 0), some (.ref 62), some (.ref 63), some (.ref 64), some (.int a5), some (.int a6), some (.long a7), none, some (.int a9), some (.int a10), some (.int a11), some (.int a12), some (.int a13), some (.int a14), some (.int a15), some (.int a16), some (.int a17), some (.int a18), some (.int a19), some (.int a20), some (.int a21), some (.int a22), some (.int a23), none, none, none, none, none, none, none, none, none, none, none, none, none, none, none, none, none, none, none, none, none] [] w (ff_la_law_325_b E self68 self248 self325 a5 a6 a7 a9 a10 a11 a12 a13 a14 a15 a16 a17 a18 a19 a20 a21 a22 a23 w) := by
  unfold ff_la_law_325_b
  refine sm_iload ii_la_law_325 rfl ?_
  refine sm_bipush (6 : Int32) ii_la_law_327 (by decide) ?_
  refine sm_icmp_ge 492 ii_la_law_329 (by decide) ?_ ?_
  · refine sm_iinc (a20 + (1 : Int32)) [some (.ref 999), some (.ref 0), some (.ref 62), some (.ref 63), some (.ref 64), some (.int a5), some (.int a6), some (.long a7), none, some (.int a9), some (.int a10), some (.int a11), some (.int a12), some (.int a13), some (.int a14), some (.int a15), some (.int a16), some (.int a17), some (.int a18), some (.int a19), some (.int (a20 + (1 : Int32))), some (.int a21), some (.int a22), some (.int a23), none, none, none, none, none, none, none, none, none, none, none, none, none, none, none, none, none, none, none, none, none] ii_la_law_492 rfl rfl rfl rfl ?_
    refine sm_goto 248 ii_la_law_495 (by decide) ?_
    refine sm_msk [true, true, true, true, true, true, true, true, false, true, true, true, true, true, true, true, true, true, true, true, true, false, false, false, false, false, false, false, false, false, false, false, false, false, false, false, false, false, false, false, false, false, false, false, false] [some (.ref 999), some (.ref 0), some (.ref 62), some (.ref 63), some (.ref 64), some (.int a5), some (.int a6), some (.long a7), none, some (.int a9), some (.int a10), some (.int a11), some (.int a12), some (.int a13), some (.int a14), some (.int a15), some (.int a16), some (.int a17), some (.int a18), some (.int a19), some (.int (a20 + (1 : Int32))), none, none, none, none, none, none, none, none, none, none, none, none, none, none, none, none, none, none, none, none, none, none, none, none] rfl ?_
    exact hself248 (a5) (a6) (a7) (a9) (a10) (a11) (a12) (a13) (a14) (a15) (a16) (a17) (a18) (a19) ((a20 + (1 : Int32))) w
  · refine sm_iload ii_la_law_332 rfl ?_
    refine sm_iload ii_la_law_334 rfl ?_
    refine sm_ishr ii_la_law_336 ?_
    refine sm_iconst (1 : Int32) ii_la_law_337 (by decide) ?_
    refine sm_iand ii_la_law_338 ?_
    refine sm_iconst (1 : Int32) ii_la_law_339 (by decide) ?_
    refine sm_icmp_ne 347 ii_la_law_340 (by decide) ?_ ?_
    · refine sm_iconst (1 : Int32) ii_la_law_343 (by decide) ?_
      refine sm_goto 348 ii_la_law_344 (by decide) ?_
      exact ss_la_law_348 self68 hself68 self248 hself248 self325 hself325 (a5) (a6) (a7) (a9) (a10) (a11) (a12) (a13) (a14) (a15) (a16) (a17) (a18) (a19) (a20) (a21) (a22) (a23) ((1 : Int32)) w
    · refine sm_iconst (0 : Int32) ii_la_law_347 (by decide) ?_
      exact ss_la_law_348 self68 hself68 self248 hself248 self325 hself325 (a5) (a6) (a7) (a9) (a10) (a11) (a12) (a13) (a14) (a15) (a16) (a17) (a18) (a19) (a20) (a21) (a22) (a23) ((0 : Int32)) w
set_option maxHeartbeats 4000000 in
set_option maxRecDepth 100000 in
theorem ss_la_law_325_f {E : Nat × (Nat → Int32)} (self68 : Int32 → Int32 → Int64 → Int32 → sm_Mem → sm_R) (hself68 : ∀ (a5 : Int32) (a6 : Int32) (a7 : Int64) (a9 : Int32) (w : sm_Mem), sm_Sim E (mi_la_law) 68 [some (.ref 999), some (.ref 0), some (.ref 62), some (.ref 63), some (.ref 64), some (.int a5), some (.int a6), some (.long a7), none, some (.int a9), none, none, none, none, none, none, none, none, none, none, none, none, none, none, none, none, none, none, none, none, none, none, none, none, none, none, none, none, none, none, none, none, none, none, none] [] w (self68 a5 a6 a7 a9 w)) (self248 : Int32 → Int32 → Int64 → Int32 → Int32 → Int32 → Int32 → Int32 → Int32 → Int32 → Int32 → Int32 → Int32 → Int32 → Int32 → sm_Mem → sm_R) (hself248 : ∀ (a5 : Int32) (a6 : Int32) (a7 : Int64) (a9 : Int32) (a10 : Int32) (a11 : Int32) (a12 : Int32) (a13 : Int32) (a14 : Int32) (a15 : Int32) (a16 : Int32) (a17 : Int32) (a18 : Int32) (a19 : Int32) (a20 : Int32) (w : sm_Mem), sm_Sim E (mi_la_law) 248 [some (.ref 999), some (.ref 0), some (.ref 62), some (.ref 63), some (.ref 64), some (.int a5), some (.int a6), some (.long a7), none, some (.int a9), some (.int a10), some (.int a11), some (.int a12), some (.int a13), some (.int a14), some (.int a15), some (.int a16), some (.int a17), some (.int a18), some (.int a19), some (.int a20), none, none, none, none, none, none, none, none, none, none, none, none, none, none, none, none, none, none, none, none, none, none, none, none] [] w (self248 a5 a6 a7 a9 a10 a11 a12 a13 a14 a15 a16 a17 a18 a19 a20 w)) : ∀ (n : Nat) (a5 : Int32) (a6 : Int32) (a7 : Int64) (a9 : Int32) (a10 : Int32) (a11 : Int32) (a12 : Int32) (a13 : Int32) (a14 : Int32) (a15 : Int32) (a16 : Int32) (a17 : Int32) (a18 : Int32) (a19 : Int32) (a20 : Int32) (a21 : Int32) (a22 : Int32) (a23 : Int32) (w : sm_Mem), sm_Sim E (mi_la_law) 325 [some (.ref 999), some (.ref 0), some (.ref 62), some (.ref 63), some (.ref 64), some (.int a5), some (.int a6), some (.long a7), none, some (.int a9), some (.int a10), some (.int a11), some (.int a12), some (.int a13), some (.int a14), some (.int a15), some (.int a16), some (.int a17), some (.int a18), some (.int a19), some (.int a20), some (.int a21), some (.int a22), some (.int a23), none, none, none, none, none, none, none, none, none, none, none, none, none, none, none, none, none, none, none, none, none] [] w (ff_la_law_325_f E self68 self248 n a5 a6 a7 a9 a10 a11 a12 a13 a14 a15 a16 a17 a18 a19 a20 a21 a22 a23 w)
  | 0, _, _, _, _, _, _, _, _, _, _, _, _, _, _, _, _, _, _, _ => fun _ _ h => by cases h
  | n + 1, a5, a6, a7, a9, a10, a11, a12, a13, a14, a15, a16, a17, a18, a19, a20, a21, a22, a23, w => ss_la_law_325_b self68 hself68 self248 hself248 _ (ss_la_law_325_f self68 hself68 self248 hself248 n) a5 a6 a7 a9 a10 a11 a12 a13 a14 a15 a16 a17 a18 a19 a20 a21 a22 a23 w
set_option maxHeartbeats 4000000 in
set_option maxRecDepth 100000 in
theorem ss_la_law_325 {E : Nat × (Nat → Int32)} (self68 : Int32 → Int32 → Int64 → Int32 → sm_Mem → sm_R) (hself68 : ∀ (a5 : Int32) (a6 : Int32) (a7 : Int64) (a9 : Int32) (w : sm_Mem), sm_Sim E (mi_la_law) 68 [some (.ref 999), some (.ref 0), some (.ref 62), some (.ref 63), some (.ref 64), some (.int a5), some (.int a6), some (.long a7), none, some (.int a9), none, none, none, none, none, none, none, none, none, none, none, none, none, none, none, none, none, none, none, none, none, none, none, none, none, none, none, none, none, none, none, none, none, none, none] [] w (self68 a5 a6 a7 a9 w)) (self248 : Int32 → Int32 → Int64 → Int32 → Int32 → Int32 → Int32 → Int32 → Int32 → Int32 → Int32 → Int32 → Int32 → Int32 → Int32 → sm_Mem → sm_R) (hself248 : ∀ (a5 : Int32) (a6 : Int32) (a7 : Int64) (a9 : Int32) (a10 : Int32) (a11 : Int32) (a12 : Int32) (a13 : Int32) (a14 : Int32) (a15 : Int32) (a16 : Int32) (a17 : Int32) (a18 : Int32) (a19 : Int32) (a20 : Int32) (w : sm_Mem), sm_Sim E (mi_la_law) 248 [some (.ref 999), some (.ref 0), some (.ref 62), some (.ref 63), some (.ref 64), some (.int a5), some (.int a6), some (.long a7), none, some (.int a9), some (.int a10), some (.int a11), some (.int a12), some (.int a13), some (.int a14), some (.int a15), some (.int a16), some (.int a17), some (.int a18), some (.int a19), some (.int a20), none, none, none, none, none, none, none, none, none, none, none, none, none, none, none, none, none, none, none, none, none, none, none, none] [] w (self248 a5 a6 a7 a9 a10 a11 a12 a13 a14 a15 a16 a17 a18 a19 a20 w)) (a5 : Int32) (a6 : Int32) (a7 : Int64) (a9 : Int32) (a10 : Int32) (a11 : Int32) (a12 : Int32) (a13 : Int32) (a14 : Int32) (a15 : Int32) (a16 : Int32) (a17 : Int32) (a18 : Int32) (a19 : Int32) (a20 : Int32) (a21 : Int32) (a22 : Int32) (a23 : Int32) (w : sm_Mem) : sm_Sim E (mi_la_law) 325 [some (.ref 999), some (.ref 0), some (.ref 62), some (.ref 63), some (.ref 64), some (.int a5), some (.int a6), some (.long a7), none, some (.int a9), some (.int a10), some (.int a11), some (.int a12), some (.int a13), some (.int a14), some (.int a15), some (.int a16), some (.int a17), some (.int a18), some (.int a19), some (.int a20), some (.int a21), some (.int a22), some (.int a23), none, none, none, none, none, none, none, none, none, none, none, none, none, none, none, none, none, none, none, none, none] [] w (ff_la_law_325 E self68 self248 a5 a6 a7 a9 a10 a11 a12 a13 a14 a15 a16 a17 a18 a19 a20 a21 a22 a23 w) := ss_la_law_325_f self68 hself68 self248 hself248 sm_N a5 a6 a7 a9 a10 a11 a12 a13 a14 a15 a16 a17 a18 a19 a20 a21 a22 a23 w
noncomputable def ff_la_law_248_b (E : Nat × (Nat → Int32)) (self68 : Int32 → Int32 → Int64 → Int32 → sm_Mem → sm_R) (self248 : Int32 → Int32 → Int64 → Int32 → Int32 → Int32 → Int32 → Int32 → Int32 → Int32 → Int32 → Int32 → Int32 → Int32 → Int32 → sm_Mem → sm_R) (a5 : Int32) (a6 : Int32) (a7 : Int64) (a9 : Int32) (a10 : Int32) (a11 : Int32) (a12 : Int32) (a13 : Int32) (a14 : Int32) (a15 : Int32) (a16 : Int32) (a17 : Int32) (a18 : Int32) (a19 : Int32) (a20 : Int32) (w : sm_Mem) : sm_R := (if a5 ≤ a20 then (if a19 = a16 then (sm_cI (ff_ho_hour  w) fun x274 w275 => (if x274 = (a12 + (1 : Int32)) then (sm_cI (ff_ho_count ((3 : Int32)) w275) fun x276 w277 => (if x276 = a13 then ff_la_law_533 E self68 (a5) (a6) (a7) (a9) (a10) (a11) (a12) (a13) (a14) (a15) (a16) (a17) ((0 : Int32)) w277 else (some (.int (0 : Int32), w277)))) else (some (.int (0 : Int32), w275)))) else (some (.int (0 : Int32), w))) else (sm_cI (ff_la_told (a20) ((4 : Int32)) w) fun x278 w279 => (sm_cI (ff_ho_what (a20) w279) fun x280 w281 => (if x278 < (0 : Int32) then (some (.int (0 : Int32), w281)) else (sm_cI (ff_la_told (a20) ((3 : Int32)) w281) fun x282 w283 => (if x282 < x278 then (some (.int (0 : Int32), w283)) else (if x280 = (0 : Int32) then ff_la_law_325 E self68 self248 (a5) (a6) (a7) (a9) (a10) (a11) (a12) (a13) (a14) (a15) (a16) (a17) (a18) ((a19 ||| x280)) (a20) (x278) (x280) ((0 : Int32)) w283 else (if x278 = (0 : Int32) then (some (.int (0 : Int32), w283)) else (if a20 = a18 then (some (.int (0 : Int32), w283)) else (if a13 = (8 : Int32) then (some (.int (0 : Int32), w283)) else ff_la_law_325 E self68 self248 (a5) (a6) (a7) (a9) (a10) (a11) (a12) (a13) (a14) (a15) (a16) (a17) (a18) ((a19 ||| x280)) (a20) (x278) (x280) ((0 : Int32)) w283))))))))))
noncomputable def ff_la_law_248_f (E : Nat × (Nat → Int32)) (self68 : Int32 → Int32 → Int64 → Int32 → sm_Mem → sm_R) : Nat → Int32 → Int32 → Int64 → Int32 → Int32 → Int32 → Int32 → Int32 → Int32 → Int32 → Int32 → Int32 → Int32 → Int32 → Int32 → sm_Mem → sm_R
  | 0, _, _, _, _, _, _, _, _, _, _, _, _, _, _, _, _ => none
  | n + 1, a5, a6, a7, a9, a10, a11, a12, a13, a14, a15, a16, a17, a18, a19, a20, w => ff_la_law_248_b E self68 (ff_la_law_248_f E self68 n) a5 a6 a7 a9 a10 a11 a12 a13 a14 a15 a16 a17 a18 a19 a20 w
noncomputable def ff_la_law_248 (E : Nat × (Nat → Int32)) (self68 : Int32 → Int32 → Int64 → Int32 → sm_Mem → sm_R) (a5 : Int32) (a6 : Int32) (a7 : Int64) (a9 : Int32) (a10 : Int32) (a11 : Int32) (a12 : Int32) (a13 : Int32) (a14 : Int32) (a15 : Int32) (a16 : Int32) (a17 : Int32) (a18 : Int32) (a19 : Int32) (a20 : Int32) (w : sm_Mem) : sm_R := ff_la_law_248_f E self68 sm_N a5 a6 a7 a9 a10 a11 a12 a13 a14 a15 a16 a17 a18 a19 a20 w
set_option maxHeartbeats 4000000 in
set_option maxRecDepth 100000 in
theorem ss_la_law_248_b {E : Nat × (Nat → Int32)} (self68 : Int32 → Int32 → Int64 → Int32 → sm_Mem → sm_R) (hself68 : ∀ (a5 : Int32) (a6 : Int32) (a7 : Int64) (a9 : Int32) (w : sm_Mem), sm_Sim E (mi_la_law) 68 [some (.ref 999), some (.ref 0), some (.ref 62), some (.ref 63), some (.ref 64), some (.int a5), some (.int a6), some (.long a7), none, some (.int a9), none, none, none, none, none, none, none, none, none, none, none, none, none, none, none, none, none, none, none, none, none, none, none, none, none, none, none, none, none, none, none, none, none, none, none] [] w (self68 a5 a6 a7 a9 w)) (self248 : Int32 → Int32 → Int64 → Int32 → Int32 → Int32 → Int32 → Int32 → Int32 → Int32 → Int32 → Int32 → Int32 → Int32 → Int32 → sm_Mem → sm_R) (hself248 : ∀ (a5 : Int32) (a6 : Int32) (a7 : Int64) (a9 : Int32) (a10 : Int32) (a11 : Int32) (a12 : Int32) (a13 : Int32) (a14 : Int32) (a15 : Int32) (a16 : Int32) (a17 : Int32) (a18 : Int32) (a19 : Int32) (a20 : Int32) (w : sm_Mem), sm_Sim E (mi_la_law) 248 [some (.ref 999), some (.ref 0), some (.ref 62), some (.ref 63), some (.ref 64), some (.int a5), some (.int a6), some (.long a7), none, some (.int a9), some (.int a10), some (.int a11), some (.int a12), some (.int a13), some (.int a14), some (.int a15), some (.int a16), some (.int a17), some (.int a18), some (.int a19), some (.int a20), none, none, none, none, none, none, none, none, none, none, none, none, none, none, none, none, none, none, none, none, none, none, none, none] [] w (self248 a5 a6 a7 a9 a10 a11 a12 a13 a14 a15 a16 a17 a18 a19 a20 w)) (a5 : Int32) (a6 : Int32) (a7 : Int64) (a9 : Int32) (a10 : Int32) (a11 : Int32) (a12 : Int32) (a13 : Int32) (a14 : Int32) (a15 : Int32) (a16 : Int32) (a17 : Int32) (a18 : Int32) (a19 : Int32) (a20 : Int32) (w : sm_Mem) : sm_Sim E (mi_la_law) 248 [some (.ref 999), some (.ref 0), some (.ref 62), some (.ref 63), some (.ref 64), some (.int a5), some (.int a6), some (.long a7), none, some (.int a9), some (.int a10), some (.int a11), some (.int a12), some (.int a13), some (.int a14), some (.int a15), some (.int a16), some (.int a17), some (.int a18), some (.int a19), some (.int a20), none, none, none, none, none, none, none, none, none, none, none, none, none, none, none, none, none, none, none, none, none, none, none, none] [] w (ff_la_law_248_b E self68 self248 a5 a6 a7 a9 a10 a11 a12 a13 a14 a15 a16 a17 a18 a19 a20 w) := by
  unfold ff_la_law_248_b
  refine sm_iload ii_la_law_248 rfl ?_
  refine sm_iload ii_la_law_250 rfl ?_
  refine sm_icmp_ge 498 ii_la_law_252 (by decide) ?_ ?_
  · refine sm_iload ii_la_law_498 rfl ?_
    refine sm_iload ii_la_law_500 rfl ?_
    refine sm_icmp_eq 507 ii_la_law_502 (by decide) ?_ ?_
    · refine sm_aload_n ii_la_law_507 rfl ?_
      refine sm_cvI [] [] rfl ii_la_law_508 ml_la_64 (mf_ho_hour) (mv_ho_hour) (Nat.le_of_ble_eq_true rfl) rfl 6 rfl rfl rfl rfl (mc_ho_hour  w) (fun x274 w275 => ?_)
      refine sm_iload ii_la_law_511 rfl ?_
      refine sm_iconst (1 : Int32) ii_la_law_513 (by decide) ?_
      refine sm_iadd ii_la_law_514 ?_
      refine sm_icmp_ne 528 ii_la_law_515 (by decide) ?_ ?_
      · refine sm_aload_n ii_la_law_518 rfl ?_
        refine sm_iconst (3 : Int32) ii_la_law_519 (by decide) ?_
        refine sm_cvI [.int (3 : Int32)] [] rfl ii_la_law_520 ml_la_96 (mf_ho_count) (mv_ho_count) (Nat.le_of_ble_eq_true rfl) rfl 6 rfl rfl rfl rfl (mc_ho_count ((3 : Int32)) w275) (fun x276 w277 => ?_)
        refine sm_iload ii_la_law_523 rfl ?_
        refine sm_icmp_eq 530 ii_la_law_525 (by decide) ?_ ?_
        · refine sm_iconst (0 : Int32) ii_la_law_530 (by decide) ?_
          refine sm_istore [some (.ref 999), some (.ref 0), some (.ref 62), some (.ref 63), some (.ref 64), some (.int a5), some (.int a6), some (.long a7), none, some (.int a9), some (.int a10), some (.int a11), some (.int a12), some (.int a13), some (.int a14), some (.int a15), some (.int a16), some (.int a17), some (.int a18), some (.int a19), some (.int (0 : Int32)), none, none, none, none, none, none, none, none, none, none, none, none, none, none, none, none, none, none, none, none, none, none, none, none] ii_la_law_531 rfl rfl ?_
          refine sm_msk [true, true, true, true, true, true, true, true, false, true, true, true, true, true, true, true, true, true, false, false, true, false, false, false, false, false, false, false, false, false, false, false, false, false, false, false, false, false, false, false, false, false, false, false, false] [some (.ref 999), some (.ref 0), some (.ref 62), some (.ref 63), some (.ref 64), some (.int a5), some (.int a6), some (.long a7), none, some (.int a9), some (.int a10), some (.int a11), some (.int a12), some (.int a13), some (.int a14), some (.int a15), some (.int a16), some (.int a17), none, none, some (.int (0 : Int32)), none, none, none, none, none, none, none, none, none, none, none, none, none, none, none, none, none, none, none, none, none, none, none, none] rfl ?_
          exact ss_la_law_533 self68 hself68 (a5) (a6) (a7) (a9) (a10) (a11) (a12) (a13) (a14) (a15) (a16) (a17) ((0 : Int32)) w277
        · refine sm_iconst (0 : Int32) ii_la_law_528 (by decide) ?_
          exact sm_zret1 ii_la_law_529 rfl (by decide)
      · refine sm_iconst (0 : Int32) ii_la_law_528 (by decide) ?_
        exact sm_zret1 ii_la_law_529 rfl (by decide)
    · refine sm_iconst (0 : Int32) ii_la_law_505 (by decide) ?_
      exact sm_zret1 ii_la_law_506 rfl (by decide)
  · refine sm_aload_n ii_la_law_255 rfl ?_
    refine sm_iload ii_la_law_256 rfl ?_
    refine sm_iconst (4 : Int32) ii_la_law_258 (by decide) ?_
    refine sm_csI [.ref 0, .int a20, .int (4 : Int32)] [] rfl ii_la_law_259 ml_la_102 (mf_la_told) (mv_la_told) (Nat.le_of_ble_eq_true rfl) rfl rfl rfl (mc_la_told (a20) ((4 : Int32)) w) (fun x278 w279 => ?_)
    refine sm_istore [some (.ref 999), some (.ref 0), some (.ref 62), some (.ref 63), some (.ref 64), some (.int a5), some (.int a6), some (.long a7), none, some (.int a9), some (.int a10), some (.int a11), some (.int a12), some (.int a13), some (.int a14), some (.int a15), some (.int a16), some (.int a17), some (.int a18), some (.int a19), some (.int a20), some (.int x278), none, none, none, none, none, none, none, none, none, none, none, none, none, none, none, none, none, none, none, none, none, none, none] ii_la_law_262 rfl rfl ?_
    refine sm_aload_n ii_la_law_264 rfl ?_
    refine sm_iload ii_la_law_265 rfl ?_
    refine sm_cvI [.int a20] [] rfl ii_la_law_267 ml_la_106 (mf_ho_what) (mv_ho_what) (Nat.le_of_ble_eq_true rfl) rfl 6 rfl rfl rfl rfl (mc_ho_what (a20) w279) (fun x280 w281 => ?_)
    refine sm_istore [some (.ref 999), some (.ref 0), some (.ref 62), some (.ref 63), some (.ref 64), some (.int a5), some (.int a6), some (.long a7), none, some (.int a9), some (.int a10), some (.int a11), some (.int a12), some (.int a13), some (.int a14), some (.int a15), some (.int a16), some (.int a17), some (.int a18), some (.int a19), some (.int a20), some (.int x278), some (.int x280), none, none, none, none, none, none, none, none, none, none, none, none, none, none, none, none, none, none, none, none, none, none] ii_la_law_270 rfl rfl ?_
    refine sm_iload ii_la_law_272 rfl ?_
    refine sm_iload ii_la_law_274 rfl ?_
    refine sm_ior ii_la_law_276 ?_
    refine sm_istore [some (.ref 999), some (.ref 0), some (.ref 62), some (.ref 63), some (.ref 64), some (.int a5), some (.int a6), some (.long a7), none, some (.int a9), some (.int a10), some (.int a11), some (.int a12), some (.int a13), some (.int a14), some (.int a15), some (.int a16), some (.int a17), some (.int a18), some (.int (a19 ||| x280)), some (.int a20), some (.int x278), some (.int x280), none, none, none, none, none, none, none, none, none, none, none, none, none, none, none, none, none, none, none, none, none, none] ii_la_law_277 rfl rfl ?_
    refine sm_iload ii_la_law_279 rfl ?_
    refine sm_if_lt 320 ii_la_law_281 (by decide) ?_ ?_
    · refine sm_iconst (0 : Int32) ii_la_law_320 (by decide) ?_
      exact sm_zret1 ii_la_law_321 rfl (by decide)
    · refine sm_iload ii_la_law_284 rfl ?_
      refine sm_aload_n ii_la_law_286 rfl ?_
      refine sm_iload ii_la_law_287 rfl ?_
      refine sm_iconst (3 : Int32) ii_la_law_289 (by decide) ?_
      refine sm_csI [.ref 0, .int a20, .int (3 : Int32)] [.int x278] rfl ii_la_law_290 ml_la_102 (mf_la_told) (mv_la_told) (Nat.le_of_ble_eq_true rfl) rfl rfl rfl (mc_la_told (a20) ((3 : Int32)) w281) (fun x282 w283 => ?_)
      refine sm_icmp_gt 320 ii_la_law_293 (by decide) ?_ ?_
      · refine sm_iconst (0 : Int32) ii_la_law_320 (by decide) ?_
        exact sm_zret1 ii_la_law_321 rfl (by decide)
      · refine sm_iload ii_la_law_296 rfl ?_
        refine sm_if_eq 322 ii_la_law_298 (by decide) ?_ ?_
        · refine sm_iconst (0 : Int32) ii_la_law_322 (by decide) ?_
          refine sm_istore [some (.ref 999), some (.ref 0), some (.ref 62), some (.ref 63), some (.ref 64), some (.int a5), some (.int a6), some (.long a7), none, some (.int a9), some (.int a10), some (.int a11), some (.int a12), some (.int a13), some (.int a14), some (.int a15), some (.int a16), some (.int a17), some (.int a18), some (.int (a19 ||| x280)), some (.int a20), some (.int x278), some (.int x280), some (.int (0 : Int32)), none, none, none, none, none, none, none, none, none, none, none, none, none, none, none, none, none, none, none, none, none] ii_la_law_323 rfl rfl ?_
          exact ss_la_law_325 self68 hself68 self248 hself248 (a5) (a6) (a7) (a9) (a10) (a11) (a12) (a13) (a14) (a15) (a16) (a17) (a18) ((a19 ||| x280)) (a20) (x278) (x280) ((0 : Int32)) w283
        · refine sm_iload ii_la_law_301 rfl ?_
          refine sm_if_eq 320 ii_la_law_303 (by decide) ?_ ?_
          · refine sm_iconst (0 : Int32) ii_la_law_320 (by decide) ?_
            exact sm_zret1 ii_la_law_321 rfl (by decide)
          · refine sm_iload ii_la_law_306 rfl ?_
            refine sm_iload ii_la_law_308 rfl ?_
            refine sm_icmp_eq 320 ii_la_law_310 (by decide) ?_ ?_
            · refine sm_iconst (0 : Int32) ii_la_law_320 (by decide) ?_
              exact sm_zret1 ii_la_law_321 rfl (by decide)
            · refine sm_iload ii_la_law_313 rfl ?_
              refine sm_bipush (8 : Int32) ii_la_law_315 (by decide) ?_
              refine sm_icmp_ne 322 ii_la_law_317 (by decide) ?_ ?_
              · refine sm_iconst (0 : Int32) ii_la_law_320 (by decide) ?_
                exact sm_zret1 ii_la_law_321 rfl (by decide)
              · refine sm_iconst (0 : Int32) ii_la_law_322 (by decide) ?_
                refine sm_istore [some (.ref 999), some (.ref 0), some (.ref 62), some (.ref 63), some (.ref 64), some (.int a5), some (.int a6), some (.long a7), none, some (.int a9), some (.int a10), some (.int a11), some (.int a12), some (.int a13), some (.int a14), some (.int a15), some (.int a16), some (.int a17), some (.int a18), some (.int (a19 ||| x280)), some (.int a20), some (.int x278), some (.int x280), some (.int (0 : Int32)), none, none, none, none, none, none, none, none, none, none, none, none, none, none, none, none, none, none, none, none, none] ii_la_law_323 rfl rfl ?_
                exact ss_la_law_325 self68 hself68 self248 hself248 (a5) (a6) (a7) (a9) (a10) (a11) (a12) (a13) (a14) (a15) (a16) (a17) (a18) ((a19 ||| x280)) (a20) (x278) (x280) ((0 : Int32)) w283
set_option maxHeartbeats 4000000 in
set_option maxRecDepth 100000 in
theorem ss_la_law_248_f {E : Nat × (Nat → Int32)} (self68 : Int32 → Int32 → Int64 → Int32 → sm_Mem → sm_R) (hself68 : ∀ (a5 : Int32) (a6 : Int32) (a7 : Int64) (a9 : Int32) (w : sm_Mem), sm_Sim E (mi_la_law) 68 [some (.ref 999), some (.ref 0), some (.ref 62), some (.ref 63), some (.ref 64), some (.int a5), some (.int a6), some (.long a7), none, some (.int a9), none, none, none, none, none, none, none, none, none, none, none, none, none, none, none, none, none, none, none, none, none, none, none, none, none, none, none, none, none, none, none, none, none, none, none] [] w (self68 a5 a6 a7 a9 w)) : ∀ (n : Nat) (a5 : Int32) (a6 : Int32) (a7 : Int64) (a9 : Int32) (a10 : Int32) (a11 : Int32) (a12 : Int32) (a13 : Int32) (a14 : Int32) (a15 : Int32) (a16 : Int32) (a17 : Int32) (a18 : Int32) (a19 : Int32) (a20 : Int32) (w : sm_Mem), sm_Sim E (mi_la_law) 248 [some (.ref 999), some (.ref 0), some (.ref 62), some (.ref 63), some (.ref 64), some (.int a5), some (.int a6), some (.long a7), none, some (.int a9), some (.int a10), some (.int a11), some (.int a12), some (.int a13), some (.int a14), some (.int a15), some (.int a16), some (.int a17), some (.int a18), some (.int a19), some (.int a20), none, none, none, none, none, none, none, none, none, none, none, none, none, none, none, none, none, none, none, none, none, none, none, none] [] w (ff_la_law_248_f E self68 n a5 a6 a7 a9 a10 a11 a12 a13 a14 a15 a16 a17 a18 a19 a20 w)
  | 0, _, _, _, _, _, _, _, _, _, _, _, _, _, _, _, _ => fun _ _ h => by cases h
  | n + 1, a5, a6, a7, a9, a10, a11, a12, a13, a14, a15, a16, a17, a18, a19, a20, w => ss_la_law_248_b self68 hself68 _ (ss_la_law_248_f self68 hself68 n) a5 a6 a7 a9 a10 a11 a12 a13 a14 a15 a16 a17 a18 a19 a20 w
set_option maxHeartbeats 4000000 in
set_option maxRecDepth 100000 in
theorem ss_la_law_248 {E : Nat × (Nat → Int32)} (self68 : Int32 → Int32 → Int64 → Int32 → sm_Mem → sm_R) (hself68 : ∀ (a5 : Int32) (a6 : Int32) (a7 : Int64) (a9 : Int32) (w : sm_Mem), sm_Sim E (mi_la_law) 68 [some (.ref 999), some (.ref 0), some (.ref 62), some (.ref 63), some (.ref 64), some (.int a5), some (.int a6), some (.long a7), none, some (.int a9), none, none, none, none, none, none, none, none, none, none, none, none, none, none, none, none, none, none, none, none, none, none, none, none, none, none, none, none, none, none, none, none, none, none, none] [] w (self68 a5 a6 a7 a9 w)) (a5 : Int32) (a6 : Int32) (a7 : Int64) (a9 : Int32) (a10 : Int32) (a11 : Int32) (a12 : Int32) (a13 : Int32) (a14 : Int32) (a15 : Int32) (a16 : Int32) (a17 : Int32) (a18 : Int32) (a19 : Int32) (a20 : Int32) (w : sm_Mem) : sm_Sim E (mi_la_law) 248 [some (.ref 999), some (.ref 0), some (.ref 62), some (.ref 63), some (.ref 64), some (.int a5), some (.int a6), some (.long a7), none, some (.int a9), some (.int a10), some (.int a11), some (.int a12), some (.int a13), some (.int a14), some (.int a15), some (.int a16), some (.int a17), some (.int a18), some (.int a19), some (.int a20), none, none, none, none, none, none, none, none, none, none, none, none, none, none, none, none, none, none, none, none, none, none, none, none] [] w (ff_la_law_248 E self68 a5 a6 a7 a9 a10 a11 a12 a13 a14 a15 a16 a17 a18 a19 a20 w) := ss_la_law_248_f self68 hself68 sm_N a5 a6 a7 a9 a10 a11 a12 a13 a14 a15 a16 a17 a18 a19 a20 w
noncomputable def ff_la_law_186 (E : Nat × (Nat → Int32)) (self68 : Int32 → Int32 → Int64 → Int32 → sm_Mem → sm_R) (a5 : Int32) (a6 : Int32) (a7 : Int64) (a9 : Int32) (a10 : Int32) (a11 : Int32) (a12 : Int32) (a13 : Int32) (a14 : Int32) (a15 : Int32) (a16 : Int32) (a17 : Int32) (b0 : Int32) (w : sm_Mem) : sm_R := (if a13 < (0 : Int32) then (some (.int (0 : Int32), w)) else (if (8 : Int32) < a13 then (some (.int (0 : Int32), w)) else (if a15 < (0 : Int32) then (some (.int (0 : Int32), w)) else (if a16 < (0 : Int32) then (some (.int (0 : Int32), w)) else (if (63 : Int32) < a16 then (some (.int (0 : Int32), w)) else (if a5 ≤ b0 then (some (.int (0 : Int32), w)) else (if a13 ≤ (0 : Int32) then ff_la_law_248 E self68 (a5) (a6) (a7) (a9) (a10) (a11) (a12) (a13) (a14) (a15) (a16) (a17) (b0) ((0 : Int32)) ((0 : Int32)) w else (if a17 < (0 : Int32) then (some (.int (0 : Int32), w)) else (if a17 ≤ (5 : Int32) then ff_la_law_248 E self68 (a5) (a6) (a7) (a9) (a10) (a11) (a12) (a13) (a14) (a15) (a16) (a17) (b0) ((0 : Int32)) ((0 : Int32)) w else (some (.int (0 : Int32), w)))))))))))
set_option maxHeartbeats 4000000 in
set_option maxRecDepth 100000 in
theorem ss_la_law_186 {E : Nat × (Nat → Int32)} (self68 : Int32 → Int32 → Int64 → Int32 → sm_Mem → sm_R) (hself68 : ∀ (a5 : Int32) (a6 : Int32) (a7 : Int64) (a9 : Int32) (w : sm_Mem), sm_Sim E (mi_la_law) 68 [some (.ref 999), some (.ref 0), some (.ref 62), some (.ref 63), some (.ref 64), some (.int a5), some (.int a6), some (.long a7), none, some (.int a9), none, none, none, none, none, none, none, none, none, none, none, none, none, none, none, none, none, none, none, none, none, none, none, none, none, none, none, none, none, none, none, none, none, none, none] [] w (self68 a5 a6 a7 a9 w)) (a5 : Int32) (a6 : Int32) (a7 : Int64) (a9 : Int32) (a10 : Int32) (a11 : Int32) (a12 : Int32) (a13 : Int32) (a14 : Int32) (a15 : Int32) (a16 : Int32) (a17 : Int32) (b0 : Int32) (w : sm_Mem) : sm_Sim E (mi_la_law) 186 [some (.ref 999), some (.ref 0), some (.ref 62), some (.ref 63), some (.ref 64), some (.int a5), some (.int a6), some (.long a7), none, some (.int a9), some (.int a10), some (.int a11), some (.int a12), some (.int a13), some (.int a14), some (.int a15), some (.int a16), some (.int a17), none, none, none, none, none, none, none, none, none, none, none, none, none, none, none, none, none, none, none, none, none, none, none, none, none, none, none] [.int b0] w (ff_la_law_186 E self68 a5 a6 a7 a9 a10 a11 a12 a13 a14 a15 a16 a17 b0 w) := by
  unfold ff_la_law_186
  refine sm_istore [some (.ref 999), some (.ref 0), some (.ref 62), some (.ref 63), some (.ref 64), some (.int a5), some (.int a6), some (.long a7), none, some (.int a9), some (.int a10), some (.int a11), some (.int a12), some (.int a13), some (.int a14), some (.int a15), some (.int a16), some (.int a17), some (.int b0), none, none, none, none, none, none, none, none, none, none, none, none, none, none, none, none, none, none, none, none, none, none, none, none, none, none] ii_la_law_186 rfl rfl ?_
  refine sm_iload ii_la_law_188 rfl ?_
  refine sm_if_lt 240 ii_la_law_190 (by decide) ?_ ?_
  · refine sm_iconst (0 : Int32) ii_la_law_240 (by decide) ?_
    exact sm_zret1 ii_la_law_241 rfl (by decide)
  · refine sm_iload ii_la_law_193 rfl ?_
    refine sm_bipush (8 : Int32) ii_la_law_195 (by decide) ?_
    refine sm_icmp_gt 240 ii_la_law_197 (by decide) ?_ ?_
    · refine sm_iconst (0 : Int32) ii_la_law_240 (by decide) ?_
      exact sm_zret1 ii_la_law_241 rfl (by decide)
    · refine sm_iload ii_la_law_200 rfl ?_
      refine sm_if_lt 240 ii_la_law_202 (by decide) ?_ ?_
      · refine sm_iconst (0 : Int32) ii_la_law_240 (by decide) ?_
        exact sm_zret1 ii_la_law_241 rfl (by decide)
      · refine sm_iload ii_la_law_205 rfl ?_
        refine sm_if_lt 240 ii_la_law_207 (by decide) ?_ ?_
        · refine sm_iconst (0 : Int32) ii_la_law_240 (by decide) ?_
          exact sm_zret1 ii_la_law_241 rfl (by decide)
        · refine sm_iload ii_la_law_210 rfl ?_
          refine sm_bipush (63 : Int32) ii_la_law_212 (by decide) ?_
          refine sm_icmp_gt 240 ii_la_law_214 (by decide) ?_ ?_
          · refine sm_iconst (0 : Int32) ii_la_law_240 (by decide) ?_
            exact sm_zret1 ii_la_law_241 rfl (by decide)
          · refine sm_iload ii_la_law_217 rfl ?_
            refine sm_iload ii_la_law_219 rfl ?_
            refine sm_icmp_ge 240 ii_la_law_221 (by decide) ?_ ?_
            · refine sm_iconst (0 : Int32) ii_la_law_240 (by decide) ?_
              exact sm_zret1 ii_la_law_241 rfl (by decide)
            · refine sm_iload ii_la_law_224 rfl ?_
              refine sm_if_le 242 ii_la_law_226 (by decide) ?_ ?_
              · refine sm_iconst (0 : Int32) ii_la_law_242 (by decide) ?_
                refine sm_istore [some (.ref 999), some (.ref 0), some (.ref 62), some (.ref 63), some (.ref 64), some (.int a5), some (.int a6), some (.long a7), none, some (.int a9), some (.int a10), some (.int a11), some (.int a12), some (.int a13), some (.int a14), some (.int a15), some (.int a16), some (.int a17), some (.int b0), some (.int (0 : Int32)), none, none, none, none, none, none, none, none, none, none, none, none, none, none, none, none, none, none, none, none, none, none, none, none, none] ii_la_law_243 rfl rfl ?_
                refine sm_iconst (0 : Int32) ii_la_law_245 (by decide) ?_
                refine sm_istore [some (.ref 999), some (.ref 0), some (.ref 62), some (.ref 63), some (.ref 64), some (.int a5), some (.int a6), some (.long a7), none, some (.int a9), some (.int a10), some (.int a11), some (.int a12), some (.int a13), some (.int a14), some (.int a15), some (.int a16), some (.int a17), some (.int b0), some (.int (0 : Int32)), some (.int (0 : Int32)), none, none, none, none, none, none, none, none, none, none, none, none, none, none, none, none, none, none, none, none, none, none, none, none] ii_la_law_246 rfl rfl ?_
                exact ss_la_law_248 self68 hself68 (a5) (a6) (a7) (a9) (a10) (a11) (a12) (a13) (a14) (a15) (a16) (a17) (b0) ((0 : Int32)) ((0 : Int32)) w
              · refine sm_iload ii_la_law_229 rfl ?_
                refine sm_if_lt 240 ii_la_law_231 (by decide) ?_ ?_
                · refine sm_iconst (0 : Int32) ii_la_law_240 (by decide) ?_
                  exact sm_zret1 ii_la_law_241 rfl (by decide)
                · refine sm_iload ii_la_law_234 rfl ?_
                  refine sm_iconst (5 : Int32) ii_la_law_236 (by decide) ?_
                  refine sm_icmp_le 242 ii_la_law_237 (by decide) ?_ ?_
                  · refine sm_iconst (0 : Int32) ii_la_law_242 (by decide) ?_
                    refine sm_istore [some (.ref 999), some (.ref 0), some (.ref 62), some (.ref 63), some (.ref 64), some (.int a5), some (.int a6), some (.long a7), none, some (.int a9), some (.int a10), some (.int a11), some (.int a12), some (.int a13), some (.int a14), some (.int a15), some (.int a16), some (.int a17), some (.int b0), some (.int (0 : Int32)), none, none, none, none, none, none, none, none, none, none, none, none, none, none, none, none, none, none, none, none, none, none, none, none, none] ii_la_law_243 rfl rfl ?_
                    refine sm_iconst (0 : Int32) ii_la_law_245 (by decide) ?_
                    refine sm_istore [some (.ref 999), some (.ref 0), some (.ref 62), some (.ref 63), some (.ref 64), some (.int a5), some (.int a6), some (.long a7), none, some (.int a9), some (.int a10), some (.int a11), some (.int a12), some (.int a13), some (.int a14), some (.int a15), some (.int a16), some (.int a17), some (.int b0), some (.int (0 : Int32)), some (.int (0 : Int32)), none, none, none, none, none, none, none, none, none, none, none, none, none, none, none, none, none, none, none, none, none, none, none, none] ii_la_law_246 rfl rfl ?_
                    exact ss_la_law_248 self68 hself68 (a5) (a6) (a7) (a9) (a10) (a11) (a12) (a13) (a14) (a15) (a16) (a17) (b0) ((0 : Int32)) ((0 : Int32)) w
                  · refine sm_iconst (0 : Int32) ii_la_law_240 (by decide) ?_
                    exact sm_zret1 ii_la_law_241 rfl (by decide)
noncomputable def ff_la_law_170 (E : Nat × (Nat → Int32)) (self68 : Int32 → Int32 → Int64 → Int32 → sm_Mem → sm_R) (a5 : Int32) (a6 : Int32) (a7 : Int64) (a9 : Int32) (a10 : Int32) (a11 : Int32) (a12 : Int32) (a13 : Int32) (a14 : Int32) (a15 : Int32) (a16 : Int32) (b0 : Int32) (w : sm_Mem) : sm_R := (if a13 = (0 : Int32) then ff_la_law_186 E self68 (a5) (a6) (a7) (a9) (a10) (a11) (a12) (a13) (a14) (a15) (a16) (b0) ((-9 : Int32)) w else (sm_cI (ff_ho_asked  w) fun x284 w285 => ff_la_law_186 E self68 (a5) (a6) (a7) (a9) (a10) (a11) (a12) (a13) (a14) (a15) (a16) (b0) (x284) w285))
set_option maxHeartbeats 4000000 in
set_option maxRecDepth 100000 in
theorem ss_la_law_170 {E : Nat × (Nat → Int32)} (self68 : Int32 → Int32 → Int64 → Int32 → sm_Mem → sm_R) (hself68 : ∀ (a5 : Int32) (a6 : Int32) (a7 : Int64) (a9 : Int32) (w : sm_Mem), sm_Sim E (mi_la_law) 68 [some (.ref 999), some (.ref 0), some (.ref 62), some (.ref 63), some (.ref 64), some (.int a5), some (.int a6), some (.long a7), none, some (.int a9), none, none, none, none, none, none, none, none, none, none, none, none, none, none, none, none, none, none, none, none, none, none, none, none, none, none, none, none, none, none, none, none, none, none, none] [] w (self68 a5 a6 a7 a9 w)) (a5 : Int32) (a6 : Int32) (a7 : Int64) (a9 : Int32) (a10 : Int32) (a11 : Int32) (a12 : Int32) (a13 : Int32) (a14 : Int32) (a15 : Int32) (a16 : Int32) (b0 : Int32) (w : sm_Mem) : sm_Sim E (mi_la_law) 170 [some (.ref 999), some (.ref 0), some (.ref 62), some (.ref 63), some (.ref 64), some (.int a5), some (.int a6), some (.long a7), none, some (.int a9), some (.int a10), some (.int a11), some (.int a12), some (.int a13), some (.int a14), some (.int a15), some (.int a16), none, none, none, none, none, none, none, none, none, none, none, none, none, none, none, none, none, none, none, none, none, none, none, none, none, none, none, none] [.int b0] w (ff_la_law_170 E self68 a5 a6 a7 a9 a10 a11 a12 a13 a14 a15 a16 b0 w) := by
  unfold ff_la_law_170
  refine sm_istore [some (.ref 999), some (.ref 0), some (.ref 62), some (.ref 63), some (.ref 64), some (.int a5), some (.int a6), some (.long a7), none, some (.int a9), some (.int a10), some (.int a11), some (.int a12), some (.int a13), some (.int a14), some (.int a15), some (.int a16), some (.int b0), none, none, none, none, none, none, none, none, none, none, none, none, none, none, none, none, none, none, none, none, none, none, none, none, none, none, none] ii_la_law_170 rfl rfl ?_
  refine sm_iload ii_la_law_172 rfl ?_
  refine sm_if_ne 182 ii_la_law_174 (by decide) ?_ ?_
  · refine sm_bipush (-9 : Int32) ii_la_law_177 (by decide) ?_
    refine sm_goto 186 ii_la_law_179 (by decide) ?_
    exact ss_la_law_186 self68 hself68 (a5) (a6) (a7) (a9) (a10) (a11) (a12) (a13) (a14) (a15) (a16) (b0) ((-9 : Int32)) w
  · refine sm_aload_n ii_la_law_182 rfl ?_
    refine sm_cvI [] [] rfl ii_la_law_183 ml_la_78 (mf_ho_asked) (mv_ho_asked) (Nat.le_of_ble_eq_true rfl) rfl 6 rfl rfl rfl rfl (mc_ho_asked  w) (fun x284 w285 => ?_)
    exact ss_la_law_186 self68 hself68 (a5) (a6) (a7) (a9) (a10) (a11) (a12) (a13) (a14) (a15) (a16) (b0) (x284) w285
noncomputable def ff_la_law_68_b (E : Nat × (Nat → Int32))  (self68 : Int32 → Int32 → Int64 → Int32 → sm_Mem → sm_R) (a5 : Int32) (a6 : Int32) (a7 : Int64) (a9 : Int32) (w : sm_Mem) : sm_R := (if (3 : Int32) ≤ a9 then (sm_cI (ff_ho_count ((2 : Int32)) w) fun x286 w287 => (sm_cI (ff_ho_keep ((1 : Int32)) w287) fun x288 w289 => (if x288 = x286 then (sm_cI (ff_ho_on ((0 : Int32)) w289) fun x290 w291 => (if x290 = (0 : Int32) then (sm_cI (ff_ho_count ((3 : Int32)) w291) fun x292 w293 => (if x292 = (0 : Int32) then (sm_cI (ff_ho_on ((1 : Int32)) w293) fun x294 w295 => (if x294 = x286 then (sm_cI (ff_ho_undo ((0 : Int32)) w295) fun x296 w297 => (if x296 = x286 then (sm_cI (ff_ho_count ((1 : Int32)) w297) fun x298 w299 => (if x298 = (0 : Int32) then ff_la_law_2670 E (a5) (a7) ((0 : Int32)) w299 else (some (.int (0 : Int32), w299)))) else (some (.int (0 : Int32), w297)))) else (some (.int (0 : Int32), w295)))) else (some (.int (0 : Int32), w293)))) else (some (.int (0 : Int32), w291)))) else (some (.int (0 : Int32), w289))))) else (sm_cI (ff_la_cell E (((7 : Int32) + a9)) w) fun x300 w301 => (sm_cI (ff_la_cell E (((10 : Int32) + a9)) w301) fun x302 w303 => (sm_cI (ff_la_stir (x302) (((1 : Int32) + a9)) w303) fun x304 w305 => (if x304 = (0 : Int32) then (some (.int (0 : Int32), w305)) else (sm_cI (ff_ho_count ((2 : Int32)) w305) fun x306 w307 => (sm_cI (ff_ho_count ((1 : Int32)) w307) fun x308 w309 => (sm_cI (ff_ho_count ((3 : Int32)) w309) fun x310 w311 => (sm_cI (ff_ho_count ((4 : Int32)) w311) fun x312 w313 => (sm_cI (ff_ho_count ((5 : Int32)) w313) fun x314 w315 => (sm_cI (ff_ho_count ((6 : Int32)) w315) fun x316 w317 => (if x310 = (0 : Int32) then ff_la_law_170 E self68 (a5) (a6) (a7) (a9) (x300) (x306) (x308) (x310) (x312) (x314) (x316) ((-9 : Int32)) w317 else (sm_cI (ff_ho_said ((x310 - (1 : Int32))) w317) fun x318 w319 => ff_la_law_170 E self68 (a5) (a6) (a7) (a9) (x300) (x306) (x308) (x310) (x312) (x314) (x316) (x318) w319)))))))))))))
noncomputable def ff_la_law_68_f (E : Nat × (Nat → Int32))  : Nat → Int32 → Int32 → Int64 → Int32 → sm_Mem → sm_R
  | 0, _, _, _, _, _ => none
  | n + 1, a5, a6, a7, a9, w => ff_la_law_68_b E  (ff_la_law_68_f E  n) a5 a6 a7 a9 w
noncomputable def ff_la_law_68 (E : Nat × (Nat → Int32))  (a5 : Int32) (a6 : Int32) (a7 : Int64) (a9 : Int32) (w : sm_Mem) : sm_R := ff_la_law_68_f E  sm_N a5 a6 a7 a9 w
set_option maxHeartbeats 4000000 in
set_option maxRecDepth 100000 in
theorem ss_la_law_68_b {E : Nat × (Nat → Int32)}  (self68 : Int32 → Int32 → Int64 → Int32 → sm_Mem → sm_R) (hself68 : ∀ (a5 : Int32) (a6 : Int32) (a7 : Int64) (a9 : Int32) (w : sm_Mem), sm_Sim E (mi_la_law) 68 [some (.ref 999), some (.ref 0), some (.ref 62), some (.ref 63), some (.ref 64), some (.int a5), some (.int a6), some (.long a7), none, some (.int a9), none, none, none, none, none, none, none, none, none, none, none, none, none, none, none, none, none, none, none, none, none, none, none, none, none, none, none, none, none, none, none, none, none, none, none] [] w (self68 a5 a6 a7 a9 w)) (a5 : Int32) (a6 : Int32) (a7 : Int64) (a9 : Int32) (w : sm_Mem) : sm_Sim E (mi_la_law) 68 [some (.ref 999), some (.ref 0), some (.ref 62), some (.ref 63), some (.ref 64), some (.int a5), some (.int a6), some (.long a7), none, some (.int a9), none, none, none, none, none, none, none, none, none, none, none, none, none, none, none, none, none, none, none, none, none, none, none, none, none, none, none, none, none, none, none, none, none, none, none] [] w (ff_la_law_68_b E  self68 a5 a6 a7 a9 w) := by
  unfold ff_la_law_68_b
  refine sm_iload ii_la_law_68 rfl ?_
  refine sm_iconst (3 : Int32) ii_la_law_70 (by decide) ?_
  refine sm_icmp_ge 2604 ii_la_law_71 (by decide) ?_ ?_
  · refine sm_aload_n ii_la_law_2604 rfl ?_
    refine sm_iconst (2 : Int32) ii_la_law_2605 (by decide) ?_
    refine sm_cvI [.int (2 : Int32)] [] rfl ii_la_law_2606 ml_la_96 (mf_ho_count) (mv_ho_count) (Nat.le_of_ble_eq_true rfl) rfl 6 rfl rfl rfl rfl (mc_ho_count ((2 : Int32)) w) (fun x286 w287 => ?_)
    refine sm_istore [some (.ref 999), some (.ref 0), some (.ref 62), some (.ref 63), some (.ref 64), some (.int a5), some (.int a6), some (.long a7), none, some (.int x286), none, none, none, none, none, none, none, none, none, none, none, none, none, none, none, none, none, none, none, none, none, none, none, none, none, none, none, none, none, none, none, none, none, none, none] ii_la_law_2609 rfl rfl ?_
    refine sm_aload_n ii_la_law_2611 rfl ?_
    refine sm_iconst (1 : Int32) ii_la_law_2612 (by decide) ?_
    refine sm_cvI [.int (1 : Int32)] [] rfl ii_la_law_2613 ml_la_89 (mf_ho_keep) (mv_ho_keep) (Nat.le_of_ble_eq_true rfl) rfl 6 rfl rfl rfl rfl (mc_ho_keep ((1 : Int32)) w287) (fun x288 w289 => ?_)
    refine sm_iload ii_la_law_2616 rfl ?_
    refine sm_icmp_ne 2665 ii_la_law_2618 (by decide) ?_ ?_
    · refine sm_aload_n ii_la_law_2621 rfl ?_
      refine sm_iconst (0 : Int32) ii_la_law_2622 (by decide) ?_
      refine sm_cvI [.int (0 : Int32)] [] rfl ii_la_law_2623 ml_la_184 (mf_ho_on) (mv_ho_on) (Nat.le_of_ble_eq_true rfl) rfl 6 rfl rfl rfl rfl (mc_ho_on ((0 : Int32)) w289) (fun x290 w291 => ?_)
      refine sm_if_ne 2665 ii_la_law_2626 (by decide) ?_ ?_
      · refine sm_aload_n ii_la_law_2629 rfl ?_
        refine sm_iconst (3 : Int32) ii_la_law_2630 (by decide) ?_
        refine sm_cvI [.int (3 : Int32)] [] rfl ii_la_law_2631 ml_la_96 (mf_ho_count) (mv_ho_count) (Nat.le_of_ble_eq_true rfl) rfl 6 rfl rfl rfl rfl (mc_ho_count ((3 : Int32)) w291) (fun x292 w293 => ?_)
        refine sm_if_ne 2665 ii_la_law_2634 (by decide) ?_ ?_
        · refine sm_aload_n ii_la_law_2637 rfl ?_
          refine sm_iconst (1 : Int32) ii_la_law_2638 (by decide) ?_
          refine sm_cvI [.int (1 : Int32)] [] rfl ii_la_law_2639 ml_la_184 (mf_ho_on) (mv_ho_on) (Nat.le_of_ble_eq_true rfl) rfl 6 rfl rfl rfl rfl (mc_ho_on ((1 : Int32)) w293) (fun x294 w295 => ?_)
          refine sm_iload ii_la_law_2642 rfl ?_
          refine sm_icmp_ne 2665 ii_la_law_2644 (by decide) ?_ ?_
          · refine sm_aload_n ii_la_law_2647 rfl ?_
            refine sm_iconst (0 : Int32) ii_la_law_2648 (by decide) ?_
            refine sm_cvI [.int (0 : Int32)] [] rfl ii_la_law_2649 ml_la_111 (mf_ho_undo) (mv_ho_undo) (Nat.le_of_ble_eq_true rfl) rfl 6 rfl rfl rfl rfl (mc_ho_undo ((0 : Int32)) w295) (fun x296 w297 => ?_)
            refine sm_iload ii_la_law_2652 rfl ?_
            refine sm_icmp_ne 2665 ii_la_law_2654 (by decide) ?_ ?_
            · refine sm_aload_n ii_la_law_2657 rfl ?_
              refine sm_iconst (1 : Int32) ii_la_law_2658 (by decide) ?_
              refine sm_cvI [.int (1 : Int32)] [] rfl ii_la_law_2659 ml_la_96 (mf_ho_count) (mv_ho_count) (Nat.le_of_ble_eq_true rfl) rfl 6 rfl rfl rfl rfl (mc_ho_count ((1 : Int32)) w297) (fun x298 w299 => ?_)
              refine sm_if_eq 2667 ii_la_law_2662 (by decide) ?_ ?_
              · refine sm_iconst (0 : Int32) ii_la_law_2667 (by decide) ?_
                refine sm_istore [some (.ref 999), some (.ref 0), some (.ref 62), some (.ref 63), some (.ref 64), some (.int a5), some (.int a6), some (.long a7), none, some (.int x286), some (.int (0 : Int32)), none, none, none, none, none, none, none, none, none, none, none, none, none, none, none, none, none, none, none, none, none, none, none, none, none, none, none, none, none, none, none, none, none, none] ii_la_law_2668 rfl rfl ?_
                refine sm_msk [false, true, false, false, false, true, false, true, false, false, true, false, false, false, false, false, false, false, false, false, false, false, false, false, false, false, false, false, false, false, false, false, false, false, false, false, false, false, false, false, false, false, false, false, false] [none, some (.ref 0), none, none, none, some (.int a5), none, some (.long a7), none, none, some (.int (0 : Int32)), none, none, none, none, none, none, none, none, none, none, none, none, none, none, none, none, none, none, none, none, none, none, none, none, none, none, none, none, none, none, none, none, none, none] rfl ?_
                exact ss_la_law_2670 (a5) (a7) ((0 : Int32)) w299
              · refine sm_iconst (0 : Int32) ii_la_law_2665 (by decide) ?_
                exact sm_zret1 ii_la_law_2666 rfl (by decide)
            · refine sm_iconst (0 : Int32) ii_la_law_2665 (by decide) ?_
              exact sm_zret1 ii_la_law_2666 rfl (by decide)
          · refine sm_iconst (0 : Int32) ii_la_law_2665 (by decide) ?_
            exact sm_zret1 ii_la_law_2666 rfl (by decide)
        · refine sm_iconst (0 : Int32) ii_la_law_2665 (by decide) ?_
          exact sm_zret1 ii_la_law_2666 rfl (by decide)
      · refine sm_iconst (0 : Int32) ii_la_law_2665 (by decide) ?_
        exact sm_zret1 ii_la_law_2666 rfl (by decide)
    · refine sm_iconst (0 : Int32) ii_la_law_2665 (by decide) ?_
      exact sm_zret1 ii_la_law_2666 rfl (by decide)
  · refine sm_aload_n ii_la_law_74 rfl ?_
    refine sm_bipush (7 : Int32) ii_la_law_75 (by decide) ?_
    refine sm_iload ii_la_law_77 rfl ?_
    refine sm_iadd ii_la_law_79 ?_
    refine sm_csI [.ref 999, .int ((7 : Int32) + a9)] [] rfl ii_la_law_80 ml_la_9 (mf_la_cell) (mv_la_cell) (Nat.le_of_ble_eq_true rfl) rfl rfl rfl (mc_la_cell (((7 : Int32) + a9)) w) (fun x300 w301 => ?_)
    refine sm_istore [some (.ref 999), some (.ref 0), some (.ref 62), some (.ref 63), some (.ref 64), some (.int a5), some (.int a6), some (.long a7), none, some (.int a9), some (.int x300), none, none, none, none, none, none, none, none, none, none, none, none, none, none, none, none, none, none, none, none, none, none, none, none, none, none, none, none, none, none, none, none, none, none] ii_la_law_83 rfl rfl ?_
    refine sm_aload_n ii_la_law_85 rfl ?_
    refine sm_aload_n ii_la_law_86 rfl ?_
    refine sm_aload_n ii_la_law_87 rfl ?_
    refine sm_aload_n ii_la_law_88 rfl ?_
    refine sm_bipush (10 : Int32) ii_la_law_89 (by decide) ?_
    refine sm_iload ii_la_law_91 rfl ?_
    refine sm_iadd ii_la_law_93 ?_
    refine sm_csI [.ref 999, .int ((10 : Int32) + a9)] [.ref 63, .ref 62, .ref 0] rfl ii_la_law_94 ml_la_9 (mf_la_cell) (mv_la_cell) (Nat.le_of_ble_eq_true rfl) rfl rfl rfl (mc_la_cell (((10 : Int32) + a9)) w301) (fun x302 w303 => ?_)
    refine sm_iconst (1 : Int32) ii_la_law_97 (by decide) ?_
    refine sm_iload ii_la_law_98 rfl ?_
    refine sm_iadd ii_la_law_100 ?_
    refine sm_csI [.ref 0, .ref 62, .ref 63, .int x302, .int ((1 : Int32) + a9)] [] rfl ii_la_law_101 ml_la_92 (mf_la_stir) (mv_la_stir) (Nat.le_of_ble_eq_true rfl) rfl rfl rfl (mc_la_stir (x302) (((1 : Int32) + a9)) w303) (fun x304 w305 => ?_)
    refine sm_if_ne 109 ii_la_law_104 (by decide) ?_ ?_
    · refine sm_iconst (0 : Int32) ii_la_law_107 (by decide) ?_
      exact sm_zret1 ii_la_law_108 rfl (by decide)
    · refine sm_aload_n ii_la_law_109 rfl ?_
      refine sm_iconst (2 : Int32) ii_la_law_110 (by decide) ?_
      refine sm_cvI [.int (2 : Int32)] [] rfl ii_la_law_111 ml_la_96 (mf_ho_count) (mv_ho_count) (Nat.le_of_ble_eq_true rfl) rfl 6 rfl rfl rfl rfl (mc_ho_count ((2 : Int32)) w305) (fun x306 w307 => ?_)
      refine sm_istore [some (.ref 999), some (.ref 0), some (.ref 62), some (.ref 63), some (.ref 64), some (.int a5), some (.int a6), some (.long a7), none, some (.int a9), some (.int x300), some (.int x306), none, none, none, none, none, none, none, none, none, none, none, none, none, none, none, none, none, none, none, none, none, none, none, none, none, none, none, none, none, none, none, none, none] ii_la_law_114 rfl rfl ?_
      refine sm_aload_n ii_la_law_116 rfl ?_
      refine sm_iconst (1 : Int32) ii_la_law_117 (by decide) ?_
      refine sm_cvI [.int (1 : Int32)] [] rfl ii_la_law_118 ml_la_96 (mf_ho_count) (mv_ho_count) (Nat.le_of_ble_eq_true rfl) rfl 6 rfl rfl rfl rfl (mc_ho_count ((1 : Int32)) w307) (fun x308 w309 => ?_)
      refine sm_istore [some (.ref 999), some (.ref 0), some (.ref 62), some (.ref 63), some (.ref 64), some (.int a5), some (.int a6), some (.long a7), none, some (.int a9), some (.int x300), some (.int x306), some (.int x308), none, none, none, none, none, none, none, none, none, none, none, none, none, none, none, none, none, none, none, none, none, none, none, none, none, none, none, none, none, none, none, none] ii_la_law_121 rfl rfl ?_
      refine sm_aload_n ii_la_law_123 rfl ?_
      refine sm_iconst (3 : Int32) ii_la_law_124 (by decide) ?_
      refine sm_cvI [.int (3 : Int32)] [] rfl ii_la_law_125 ml_la_96 (mf_ho_count) (mv_ho_count) (Nat.le_of_ble_eq_true rfl) rfl 6 rfl rfl rfl rfl (mc_ho_count ((3 : Int32)) w309) (fun x310 w311 => ?_)
      refine sm_istore [some (.ref 999), some (.ref 0), some (.ref 62), some (.ref 63), some (.ref 64), some (.int a5), some (.int a6), some (.long a7), none, some (.int a9), some (.int x300), some (.int x306), some (.int x308), some (.int x310), none, none, none, none, none, none, none, none, none, none, none, none, none, none, none, none, none, none, none, none, none, none, none, none, none, none, none, none, none, none, none] ii_la_law_128 rfl rfl ?_
      refine sm_aload_n ii_la_law_130 rfl ?_
      refine sm_iconst (4 : Int32) ii_la_law_131 (by decide) ?_
      refine sm_cvI [.int (4 : Int32)] [] rfl ii_la_law_132 ml_la_96 (mf_ho_count) (mv_ho_count) (Nat.le_of_ble_eq_true rfl) rfl 6 rfl rfl rfl rfl (mc_ho_count ((4 : Int32)) w311) (fun x312 w313 => ?_)
      refine sm_istore [some (.ref 999), some (.ref 0), some (.ref 62), some (.ref 63), some (.ref 64), some (.int a5), some (.int a6), some (.long a7), none, some (.int a9), some (.int x300), some (.int x306), some (.int x308), some (.int x310), some (.int x312), none, none, none, none, none, none, none, none, none, none, none, none, none, none, none, none, none, none, none, none, none, none, none, none, none, none, none, none, none, none] ii_la_law_135 rfl rfl ?_
      refine sm_aload_n ii_la_law_137 rfl ?_
      refine sm_iconst (5 : Int32) ii_la_law_138 (by decide) ?_
      refine sm_cvI [.int (5 : Int32)] [] rfl ii_la_law_139 ml_la_96 (mf_ho_count) (mv_ho_count) (Nat.le_of_ble_eq_true rfl) rfl 6 rfl rfl rfl rfl (mc_ho_count ((5 : Int32)) w313) (fun x314 w315 => ?_)
      refine sm_istore [some (.ref 999), some (.ref 0), some (.ref 62), some (.ref 63), some (.ref 64), some (.int a5), some (.int a6), some (.long a7), none, some (.int a9), some (.int x300), some (.int x306), some (.int x308), some (.int x310), some (.int x312), some (.int x314), none, none, none, none, none, none, none, none, none, none, none, none, none, none, none, none, none, none, none, none, none, none, none, none, none, none, none, none, none] ii_la_law_142 rfl rfl ?_
      refine sm_aload_n ii_la_law_144 rfl ?_
      refine sm_bipush (6 : Int32) ii_la_law_145 (by decide) ?_
      refine sm_cvI [.int (6 : Int32)] [] rfl ii_la_law_147 ml_la_96 (mf_ho_count) (mv_ho_count) (Nat.le_of_ble_eq_true rfl) rfl 6 rfl rfl rfl rfl (mc_ho_count ((6 : Int32)) w315) (fun x316 w317 => ?_)
      refine sm_istore [some (.ref 999), some (.ref 0), some (.ref 62), some (.ref 63), some (.ref 64), some (.int a5), some (.int a6), some (.long a7), none, some (.int a9), some (.int x300), some (.int x306), some (.int x308), some (.int x310), some (.int x312), some (.int x314), some (.int x316), none, none, none, none, none, none, none, none, none, none, none, none, none, none, none, none, none, none, none, none, none, none, none, none, none, none, none, none] ii_la_law_150 rfl rfl ?_
      refine sm_iload ii_la_law_152 rfl ?_
      refine sm_if_ne 162 ii_la_law_154 (by decide) ?_ ?_
      · refine sm_bipush (-9 : Int32) ii_la_law_157 (by decide) ?_
        refine sm_goto 170 ii_la_law_159 (by decide) ?_
        exact ss_la_law_170 self68 hself68 (a5) (a6) (a7) (a9) (x300) (x306) (x308) (x310) (x312) (x314) (x316) ((-9 : Int32)) w317
      · refine sm_aload_n ii_la_law_162 rfl ?_
        refine sm_iload ii_la_law_163 rfl ?_
        refine sm_iconst (1 : Int32) ii_la_law_165 (by decide) ?_
        refine sm_isub ii_la_law_166 ?_
        refine sm_cvI [.int (x310 - (1 : Int32))] [] rfl ii_la_law_167 ml_la_99 (mf_ho_said) (mv_ho_said) (Nat.le_of_ble_eq_true rfl) rfl 6 rfl rfl rfl rfl (mc_ho_said ((x310 - (1 : Int32))) w317) (fun x318 w319 => ?_)
        exact ss_la_law_170 self68 hself68 (a5) (a6) (a7) (a9) (x300) (x306) (x308) (x310) (x312) (x314) (x316) (x318) w319
set_option maxHeartbeats 4000000 in
set_option maxRecDepth 100000 in
theorem ss_la_law_68_f {E : Nat × (Nat → Int32)}  : ∀ (n : Nat) (a5 : Int32) (a6 : Int32) (a7 : Int64) (a9 : Int32) (w : sm_Mem), sm_Sim E (mi_la_law) 68 [some (.ref 999), some (.ref 0), some (.ref 62), some (.ref 63), some (.ref 64), some (.int a5), some (.int a6), some (.long a7), none, some (.int a9), none, none, none, none, none, none, none, none, none, none, none, none, none, none, none, none, none, none, none, none, none, none, none, none, none, none, none, none, none, none, none, none, none, none, none] [] w (ff_la_law_68_f E  n a5 a6 a7 a9 w)
  | 0, _, _, _, _, _ => fun _ _ h => by cases h
  | n + 1, a5, a6, a7, a9, w => ss_la_law_68_b  _ (ss_la_law_68_f  n) a5 a6 a7 a9 w
set_option maxHeartbeats 4000000 in
set_option maxRecDepth 100000 in
theorem ss_la_law_68 {E : Nat × (Nat → Int32)}  (a5 : Int32) (a6 : Int32) (a7 : Int64) (a9 : Int32) (w : sm_Mem) : sm_Sim E (mi_la_law) 68 [some (.ref 999), some (.ref 0), some (.ref 62), some (.ref 63), some (.ref 64), some (.int a5), some (.int a6), some (.long a7), none, some (.int a9), none, none, none, none, none, none, none, none, none, none, none, none, none, none, none, none, none, none, none, none, none, none, none, none, none, none, none, none, none, none, none, none, none, none, none] [] w (ff_la_law_68 E  a5 a6 a7 a9 w) := ss_la_law_68_f  sm_N a5 a6 a7 a9 w
noncomputable def ff_la_law (E : Nat × (Nat → Int32))   (w : sm_Mem) : sm_R := (sm_cI (ff_la_house E  w) fun x320 w321 => (if x320 = (0 : Int32) then (some (.int (0 : Int32), w321)) else (Option.bind (sm_rd w321 62 19 (0 : Int32)) fun x322 => (sm_cL (ff_ho_digest  w321) fun x323 w324 => (sm_cI (ff_ho_keep ((0 : Int32)) w324) fun x325 w326 => (if x325 = (0 : Int32) then ff_la_law_68 E (x322) ((((1 : Int32) <<< (x322 &&& (31 : Int32))) - (1 : Int32))) (x323) ((0 : Int32)) w326 else (some (.int (0 : Int32), w326))))))))
set_option maxHeartbeats 4000000 in
set_option maxRecDepth 100000 in
theorem ss_la_law_24 {E : Nat × (Nat → Int32)}   (w : sm_Mem) : sm_Sim E (mi_la_law) 24 [some (.ref 999), some (.ref 0), some (.ref 62), some (.ref 63), some (.ref 64), none, none, none, none, none, none, none, none, none, none, none, none, none, none, none, none, none, none, none, none, none, none, none, none, none, none, none, none, none, none, none, none, none, none, none, none, none, none, none, none] [] w (ff_la_law E   w) := by
  unfold ff_la_law
  refine sm_aload_n ii_la_law_24 rfl ?_
  refine sm_aload_n ii_la_law_25 rfl ?_
  refine sm_aload_n ii_la_law_26 rfl ?_
  refine sm_aload_n ii_la_law_27 rfl ?_
  refine sm_csI [.ref 0, .ref 999, .ref 62, .ref 63] [] rfl ii_la_law_28 ml_la_82 (mf_la_house) (mv_la_house) (Nat.le_of_ble_eq_true rfl) rfl rfl rfl (mc_la_house  w) (fun x320 w321 => ?_)
  refine sm_if_ne 36 ii_la_law_31 (by decide) ?_ ?_
  · refine sm_iconst (0 : Int32) ii_la_law_34 (by decide) ?_
    exact sm_zret1 ii_la_law_35 rfl (by decide)
  · refine sm_aload_n ii_la_law_36 rfl ?_
    refine sm_iconst (0 : Int32) ii_la_law_37 (by decide) ?_
    refine sm_iald ii_la_law_38 (k := 62) rfl (fun x322 => ?_)
    refine sm_istore [some (.ref 999), some (.ref 0), some (.ref 62), some (.ref 63), some (.ref 64), some (.int x322), none, none, none, none, none, none, none, none, none, none, none, none, none, none, none, none, none, none, none, none, none, none, none, none, none, none, none, none, none, none, none, none, none, none, none, none, none, none, none] ii_la_law_39 rfl rfl ?_
    refine sm_iconst (1 : Int32) ii_la_law_41 (by decide) ?_
    refine sm_iload ii_la_law_42 rfl ?_
    refine sm_ishl ii_la_law_44 ?_
    refine sm_iconst (1 : Int32) ii_la_law_45 (by decide) ?_
    refine sm_isub ii_la_law_46 ?_
    refine sm_istore [some (.ref 999), some (.ref 0), some (.ref 62), some (.ref 63), some (.ref 64), some (.int x322), some (.int (((1 : Int32) <<< (x322 &&& (31 : Int32))) - (1 : Int32))), none, none, none, none, none, none, none, none, none, none, none, none, none, none, none, none, none, none, none, none, none, none, none, none, none, none, none, none, none, none, none, none, none, none, none, none, none, none] ii_la_law_47 rfl rfl ?_
    refine sm_aload_n ii_la_law_49 rfl ?_
    refine sm_cvL [] [] rfl ii_la_law_50 ml_la_85 (mf_ho_digest) (mv_ho_digest) (Nat.le_of_ble_eq_true rfl) rfl 6 rfl rfl rfl rfl (mc_ho_digest  w321) (fun x323 w324 => ?_)
    refine sm_lstore [some (.ref 999), some (.ref 0), some (.ref 62), some (.ref 63), some (.ref 64), some (.int x322), some (.int (((1 : Int32) <<< (x322 &&& (31 : Int32))) - (1 : Int32))), some (.long x323), none, none, none, none, none, none, none, none, none, none, none, none, none, none, none, none, none, none, none, none, none, none, none, none, none, none, none, none, none, none, none, none, none, none, none, none, none] ii_la_law_53 rfl rfl ?_
    refine sm_aload_n ii_la_law_55 rfl ?_
    refine sm_iconst (0 : Int32) ii_la_law_56 (by decide) ?_
    refine sm_cvI [.int (0 : Int32)] [] rfl ii_la_law_57 ml_la_89 (mf_ho_keep) (mv_ho_keep) (Nat.le_of_ble_eq_true rfl) rfl 6 rfl rfl rfl rfl (mc_ho_keep ((0 : Int32)) w324) (fun x325 w326 => ?_)
    refine sm_if_eq 65 ii_la_law_60 (by decide) ?_ ?_
    · refine sm_iconst (0 : Int32) ii_la_law_65 (by decide) ?_
      refine sm_istore [some (.ref 999), some (.ref 0), some (.ref 62), some (.ref 63), some (.ref 64), some (.int x322), some (.int (((1 : Int32) <<< (x322 &&& (31 : Int32))) - (1 : Int32))), some (.long x323), none, some (.int (0 : Int32)), none, none, none, none, none, none, none, none, none, none, none, none, none, none, none, none, none, none, none, none, none, none, none, none, none, none, none, none, none, none, none, none, none, none, none] ii_la_law_66 rfl rfl ?_
      exact ss_la_law_68 (x322) ((((1 : Int32) <<< (x322 &&& (31 : Int32))) - (1 : Int32))) (x323) ((0 : Int32)) w326
    · refine sm_iconst (0 : Int32) ii_la_law_63 (by decide) ?_
      exact sm_zret1 ii_la_law_64 rfl (by decide)
