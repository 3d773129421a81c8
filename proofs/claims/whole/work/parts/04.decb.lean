theorem dX9_init_0 : decode cX9_init 0 = .ok (.aload_n 0, 1) := by decide +kernel
theorem dX9_init_1 : decode cX9_init 1 = .ok (.invokespecial 1, 3) := by decide +kernel
theorem dX9_init_4 : decode cX9_init 4 = .ok (.aload_n 0, 1) := by decide +kernel
theorem dX9_init_5 : decode cX9_init 5 = .ok (.bipush 30, 2) := by decide +kernel
theorem dX9_init_7 : decode cX9_init 7 = .ok (.newarray .int, 2) := by decide +kernel
theorem dX9_init_9 : decode cX9_init 9 = .ok (.putfield 7, 3) := by decide +kernel
theorem dX9_init_12 : decode cX9_init 12 = .ok (.aload_n 0, 1) := by decide +kernel
theorem dX9_init_13 : decode cX9_init 13 = .ok (.bipush 30, 2) := by decide +kernel
theorem dX9_init_15 : decode cX9_init 15 = .ok (.newarray .int, 2) := by decide +kernel
theorem dX9_init_17 : decode cX9_init 17 = .ok (.putfield 13, 3) := by decide +kernel
theorem dX9_init_20 : decode cX9_init 20 = .ok (.aload_n 0, 1) := by decide +kernel
theorem dX9_init_21 : decode cX9_init 21 = .ok (.bipush 30, 2) := by decide +kernel
theorem dX9_init_23 : decode cX9_init 23 = .ok (.newarray .int, 2) := by decide +kernel
theorem dX9_init_25 : decode cX9_init 25 = .ok (.putfield 16, 3) := by decide +kernel
theorem dX9_init_28 : decode cX9_init 28 = .ok (.aload_n 0, 1) := by decide +kernel
theorem dX9_init_29 : decode cX9_init 29 = .ok (.bipush 80, 2) := by decide +kernel
theorem dX9_init_31 : decode cX9_init 31 = .ok (.newarray .int, 2) := by decide +kernel
theorem dX9_init_33 : decode cX9_init 33 = .ok (.putfield 19, 3) := by decide +kernel
theorem dX9_init_36 : decode cX9_init 36 = .ok (.aload_n 0, 1) := by decide +kernel
theorem dX9_init_37 : decode cX9_init 37 = .ok (.bipush 10, 2) := by decide +kernel
theorem dX9_init_39 : decode cX9_init 39 = .ok (.newarray .int, 2) := by decide +kernel
theorem dX9_init_41 : decode cX9_init 41 = .ok (.putfield 22, 3) := by decide +kernel
theorem dX9_init_44 : decode cX9_init 44 = .ok (.aload_n 0, 1) := by decide +kernel
theorem dX9_init_45 : decode cX9_init 45 = .ok (.bipush 100, 2) := by decide +kernel
theorem dX9_init_47 : decode cX9_init 47 = .ok (.newarray .int, 2) := by decide +kernel
theorem dX9_init_49 : decode cX9_init 49 = .ok (.putfield 25, 3) := by decide +kernel
theorem dX9_init_52 : decode cX9_init 52 = .ok (.aload_n 0, 1) := by decide +kernel
theorem dX9_init_53 : decode cX9_init 53 = .ok (.bipush 30, 2) := by decide +kernel
theorem dX9_init_55 : decode cX9_init 55 = .ok (.newarray .int, 2) := by decide +kernel
theorem dX9_init_57 : decode cX9_init 57 = .ok (.putfield 28, 3) := by decide +kernel
theorem dX9_init_60 : decode cX9_init 60 = .ok (.aload_n 0, 1) := by decide +kernel
theorem dX9_init_61 : decode cX9_init 61 = .ok (.bipush 30, 2) := by decide +kernel
theorem dX9_init_63 : decode cX9_init 63 = .ok (.newarray .int, 2) := by decide +kernel
theorem dX9_init_65 : decode cX9_init 65 = .ok (.putfield 31, 3) := by decide +kernel
theorem dX9_init_68 : decode cX9_init 68 = .ok (.aload_n 0, 1) := by decide +kernel
theorem dX9_init_69 : decode cX9_init 69 = .ok (.bipush 30, 2) := by decide +kernel
theorem dX9_init_71 : decode cX9_init 71 = .ok (.newarray .int, 2) := by decide +kernel
theorem dX9_init_73 : decode cX9_init 73 = .ok (.putfield 34, 3) := by decide +kernel
theorem dX9_init_76 : decode cX9_init 76 = .ok (.aload_n 0, 1) := by decide +kernel
theorem dX9_init_77 : decode cX9_init 77 = .ok (.bipush 100, 2) := by decide +kernel
theorem dX9_init_79 : decode cX9_init 79 = .ok (.newarray .int, 2) := by decide +kernel
theorem dX9_init_81 : decode cX9_init 81 = .ok (.putfield 37, 3) := by decide +kernel
theorem dX9_init_84 : decode cX9_init 84 = .ok (.aload_n 0, 1) := by decide +kernel
theorem dX9_init_85 : decode cX9_init 85 = .ok (.bipush 100, 2) := by decide +kernel
theorem dX9_init_87 : decode cX9_init 87 = .ok (.newarray .int, 2) := by decide +kernel
theorem dX9_init_89 : decode cX9_init 89 = .ok (.putfield 40, 3) := by decide +kernel
theorem dX9_init_92 : decode cX9_init 92 = .ok (.aload_n 0, 1) := by decide +kernel
theorem dX9_init_93 : decode cX9_init 93 = .ok (.bipush 10, 2) := by decide +kernel
theorem dX9_init_95 : decode cX9_init 95 = .ok (.newarray .int, 2) := by decide +kernel
theorem dX9_init_97 : decode cX9_init 97 = .ok (.putfield 43, 3) := by decide +kernel
theorem dX9_init_100 : decode cX9_init 100 = .ok (.aload_n 0, 1) := by decide +kernel
theorem dX9_init_101 : decode cX9_init 101 = .ok (.bipush 10, 2) := by decide +kernel
theorem dX9_init_103 : decode cX9_init 103 = .ok (.newarray .int, 2) := by decide +kernel
theorem dX9_init_105 : decode cX9_init 105 = .ok (.putfield 46, 3) := by decide +kernel
theorem dX9_init_108 : decode cX9_init 108 = .ok (.aload_n 0, 1) := by decide +kernel
theorem dX9_init_109 : decode cX9_init 109 = .ok (.bipush 10, 2) := by decide +kernel
theorem dX9_init_111 : decode cX9_init 111 = .ok (.newarray .int, 2) := by decide +kernel
theorem dX9_init_113 : decode cX9_init 113 = .ok (.putfield 49, 3) := by decide +kernel
theorem dX9_init_116 : decode cX9_init 116 = .ok (.aload_n 0, 1) := by decide +kernel
theorem dX9_init_117 : decode cX9_init 117 = .ok (.bipush 20, 2) := by decide +kernel
theorem dX9_init_119 : decode cX9_init 119 = .ok (.newarray .int, 2) := by decide +kernel
theorem dX9_init_121 : decode cX9_init 121 = .ok (.putfield 52, 3) := by decide +kernel
theorem dX9_init_124 : decode cX9_init 124 = .ok (.aload_n 0, 1) := by decide +kernel
theorem dX9_init_125 : decode cX9_init 125 = .ok (.bipush 20, 2) := by decide +kernel
theorem dX9_init_127 : decode cX9_init 127 = .ok (.newarray .int, 2) := by decide +kernel
theorem dX9_init_129 : decode cX9_init 129 = .ok (.putfield 55, 3) := by decide +kernel
theorem dX9_init_132 : decode cX9_init 132 = .ok (.aload_n 0, 1) := by decide +kernel
theorem dX9_init_133 : decode cX9_init 133 = .ok (.bipush 100, 2) := by decide +kernel
theorem dX9_init_135 : decode cX9_init 135 = .ok (.newarray .boolean, 2) := by decide +kernel
theorem dX9_init_137 : decode cX9_init 137 = .ok (.putfield 58, 3) := by decide +kernel
theorem dX9_init_140 : decode cX9_init 140 = .ok (.aload_n 0, 1) := by decide +kernel
theorem dX9_init_141 : decode cX9_init 141 = .ok (.bipush 20, 2) := by decide +kernel
theorem dX9_init_143 : decode cX9_init 143 = .ok (.newarray .boolean, 2) := by decide +kernel
theorem dX9_init_145 : decode cX9_init 145 = .ok (.putfield 62, 3) := by decide +kernel
theorem dX9_init_148 : decode cX9_init 148 = .ok (.aload_n 0, 1) := by decide +kernel
theorem dX9_init_149 : decode cX9_init 149 = .ok (.bipush 20, 2) := by decide +kernel
theorem dX9_init_151 : decode cX9_init 151 = .ok (.newarray .int, 2) := by decide +kernel
theorem dX9_init_153 : decode cX9_init 153 = .ok (.putfield 65, 3) := by decide +kernel
theorem dX9_init_156 : decode cX9_init 156 = .ok (.aload_n 0, 1) := by decide +kernel
theorem dX9_init_157 : decode cX9_init 157 = .ok (.sipush 200, 3) := by decide +kernel
theorem dX9_init_160 : decode cX9_init 160 = .ok (.newarray .int, 2) := by decide +kernel
theorem dX9_init_162 : decode cX9_init 162 = .ok (.putfield 68, 3) := by decide +kernel
theorem dX9_init_165 : decode cX9_init 165 = .ok (.aload_n 0, 1) := by decide +kernel
theorem dX9_init_166 : decode cX9_init 166 = .ok (.sipush 200, 3) := by decide +kernel
theorem dX9_init_169 : decode cX9_init 169 = .ok (.newarray .int, 2) := by decide +kernel
theorem dX9_init_171 : decode cX9_init 171 = .ok (.putfield 71, 3) := by decide +kernel
theorem dX9_init_174 : decode cX9_init 174 = .ok (.aload_n 0, 1) := by decide +kernel
theorem dX9_init_175 : decode cX9_init 175 = .ok (.sipush 200, 3) := by decide +kernel
theorem dX9_init_178 : decode cX9_init 178 = .ok (.newarray .int, 2) := by decide +kernel
theorem dX9_init_180 : decode cX9_init 180 = .ok (.putfield 74, 3) := by decide +kernel
theorem dX9_init_183 : decode cX9_init 183 = .ok (.aload_n 0, 1) := by decide +kernel
theorem dX9_init_184 : decode cX9_init 184 = .ok (.sipush 200, 3) := by decide +kernel
theorem dX9_init_187 : decode cX9_init 187 = .ok (.newarray .int, 2) := by decide +kernel
theorem dX9_init_189 : decode cX9_init 189 = .ok (.putfield 77, 3) := by decide +kernel
theorem dX9_init_192 : decode cX9_init 192 = .ok (.aload_n 0, 1) := by decide +kernel
theorem dX9_init_193 : decode cX9_init 193 = .ok (.bipush 22, 2) := by decide +kernel
theorem dX9_init_195 : decode cX9_init 195 = .ok (.newarray .int, 2) := by decide +kernel
theorem dX9_init_197 : decode cX9_init 197 = .ok (.putfield 80, 3) := by decide +kernel
theorem dX9_init_200 : decode cX9_init 200 = .ok (.aload_n 0, 1) := by decide +kernel
theorem dX9_init_201 : decode cX9_init 201 = .ok (.bipush 22, 2) := by decide +kernel
theorem dX9_init_203 : decode cX9_init 203 = .ok (.newarray .int, 2) := by decide +kernel
theorem dX9_init_205 : decode cX9_init 205 = .ok (.putfield 83, 3) := by decide +kernel
theorem dX9_init_208 : decode cX9_init 208 = .ok (.iconst 0, 1) := by decide +kernel
theorem dX9_init_209 : decode cX9_init 209 = .ok (.istore_n 1, 1) := by decide +kernel
theorem dX9_init_210 : decode cX9_init 210 = .ok (.iload_n 1, 1) := by decide +kernel
theorem dX9_init_211 : decode cX9_init 211 = .ok (.bipush 10, 2) := by decide +kernel
theorem dX9_init_213 : decode cX9_init 213 = .ok (.if_icmp .ge 16, 3) := by decide +kernel
theorem dX9_init_216 : decode cX9_init 216 = .ok (.aload_n 0, 1) := by decide +kernel
theorem dX9_init_217 : decode cX9_init 217 = .ok (.getfield 22, 3) := by decide +kernel
theorem dX9_init_220 : decode cX9_init 220 = .ok (.iload_n 1, 1) := by decide +kernel
theorem dX9_init_221 : decode cX9_init 221 = .ok (.iconst (-1), 1) := by decide +kernel
theorem dX9_init_222 : decode cX9_init 222 = .ok (.iastore, 1) := by decide +kernel
theorem dX9_init_223 : decode cX9_init 223 = .ok (.iinc 1 1, 3) := by decide +kernel
theorem dX9_init_226 : decode cX9_init 226 = .ok (.goto (-16), 3) := by decide +kernel
theorem dX9_init_229 : decode cX9_init 229 = .ok (.return_, 1) := by decide +kernel
theorem dX9_in_0 : decode cX9_in 0 = .ok (.iload_n 0, 1) := by decide +kernel
theorem dX9_in_1 : decode cX9_in 1 = .ok (.iload_n 1, 1) := by decide +kernel
theorem dX9_in_2 : decode cX9_in 2 = .ok (.if_icmp .lt 12, 3) := by decide +kernel
theorem dX9_in_5 : decode cX9_in 5 = .ok (.iload_n 0, 1) := by decide +kernel
theorem dX9_in_6 : decode cX9_in 6 = .ok (.iload_n 2, 1) := by decide +kernel
theorem dX9_in_7 : decode cX9_in 7 = .ok (.if_icmp .gt 7, 3) := by decide +kernel
theorem dX9_in_10 : decode cX9_in 10 = .ok (.iconst 1, 1) := by decide +kernel
theorem dX9_in_11 : decode cX9_in 11 = .ok (.goto 4, 3) := by decide +kernel
theorem dX9_in_14 : decode cX9_in 14 = .ok (.iconst 0, 1) := by decide +kernel
theorem dX9_in_15 : decode cX9_in 15 = .ok (.ireturn, 1) := by decide +kernel
theorem dX9_isPlace_0 : decode cX9_isPlace 0 = .ok (.iload_n 1, 1) := by decide +kernel
theorem dX9_isPlace_1 : decode cX9_isPlace 1 = .ok (.iconst 0, 1) := by decide +kernel
theorem dX9_isPlace_2 : decode cX9_isPlace 2 = .ok (.aload_n 0, 1) := by decide +kernel
theorem dX9_isPlace_3 : decode cX9_isPlace 3 = .ok (.getfield 86, 3) := by decide +kernel
theorem dX9_isPlace_6 : decode cX9_isPlace 6 = .ok (.iconst 1, 1) := by decide +kernel
theorem dX9_isPlace_7 : decode cX9_isPlace 7 = .ok (.isub, 1) := by decide +kernel
theorem dX9_isPlace_8 : decode cX9_isPlace 8 = .ok (.invokestatic 90, 3) := by decide +kernel
theorem dX9_isPlace_11 : decode cX9_isPlace 11 = .ok (.ireturn, 1) := by decide +kernel
theorem dX9_isHeap_0 : decode cX9_isHeap 0 = .ok (.iload_n 1, 1) := by decide +kernel
theorem dX9_isHeap_1 : decode cX9_isHeap 1 = .ok (.iconst 0, 1) := by decide +kernel
theorem dX9_isHeap_2 : decode cX9_isHeap 2 = .ok (.aload_n 0, 1) := by decide +kernel
theorem dX9_isHeap_3 : decode cX9_isHeap 3 = .ok (.getfield 94, 3) := by decide +kernel
theorem dX9_isHeap_6 : decode cX9_isHeap 6 = .ok (.iconst 1, 1) := by decide +kernel
theorem dX9_isHeap_7 : decode cX9_isHeap 7 = .ok (.isub, 1) := by decide +kernel
theorem dX9_isHeap_8 : decode cX9_isHeap 8 = .ok (.invokestatic 90, 3) := by decide +kernel
theorem dX9_isHeap_11 : decode cX9_isHeap 11 = .ok (.ireturn, 1) := by decide +kernel
theorem dX9_keep_0 : decode cX9_keep 0 = .ok (.aload_n 0, 1) := by decide +kernel
theorem dX9_keep_1 : decode cX9_keep 1 = .ok (.getfield 97, 3) := by decide +kernel
theorem dX9_keep_4 : decode cX9_keep 4 = .ok (.bipush 30, 2) := by decide +kernel
theorem dX9_keep_6 : decode cX9_keep 6 = .ok (.if_icmp .ne 73, 3) := by decide +kernel
theorem dX9_keep_9 : decode cX9_keep 9 = .ok (.iconst 1, 1) := by decide +kernel
theorem dX9_keep_10 : decode cX9_keep 10 = .ok (.istore 4, 2) := by decide +kernel
theorem dX9_keep_12 : decode cX9_keep 12 = .ok (.iload 4, 2) := by decide +kernel
theorem dX9_keep_14 : decode cX9_keep 14 = .ok (.bipush 30, 2) := by decide +kernel
theorem dX9_keep_16 : decode cX9_keep 16 = .ok (.if_icmp .ge 57, 3) := by decide +kernel
theorem dX9_keep_19 : decode cX9_keep 19 = .ok (.aload_n 0, 1) := by decide +kernel
theorem dX9_keep_20 : decode cX9_keep 20 = .ok (.getfield 28, 3) := by decide +kernel
theorem dX9_keep_23 : decode cX9_keep 23 = .ok (.iload 4, 2) := by decide +kernel
theorem dX9_keep_25 : decode cX9_keep 25 = .ok (.iconst 1, 1) := by decide +kernel
theorem dX9_keep_26 : decode cX9_keep 26 = .ok (.isub, 1) := by decide +kernel
theorem dX9_keep_27 : decode cX9_keep 27 = .ok (.aload_n 0, 1) := by decide +kernel
theorem dX9_keep_28 : decode cX9_keep 28 = .ok (.getfield 28, 3) := by decide +kernel
theorem dX9_keep_31 : decode cX9_keep 31 = .ok (.iload 4, 2) := by decide +kernel
theorem dX9_keep_33 : decode cX9_keep 33 = .ok (.iaload, 1) := by decide +kernel
theorem dX9_keep_34 : decode cX9_keep 34 = .ok (.iastore, 1) := by decide +kernel
theorem dX9_keep_35 : decode cX9_keep 35 = .ok (.aload_n 0, 1) := by decide +kernel
theorem dX9_keep_36 : decode cX9_keep 36 = .ok (.getfield 31, 3) := by decide +kernel
theorem dX9_keep_39 : decode cX9_keep 39 = .ok (.iload 4, 2) := by decide +kernel
theorem dX9_keep_41 : decode cX9_keep 41 = .ok (.iconst 1, 1) := by decide +kernel
theorem dX9_keep_42 : decode cX9_keep 42 = .ok (.isub, 1) := by decide +kernel
theorem dX9_keep_43 : decode cX9_keep 43 = .ok (.aload_n 0, 1) := by decide +kernel
theorem dX9_keep_44 : decode cX9_keep 44 = .ok (.getfield 31, 3) := by decide +kernel
theorem dX9_keep_47 : decode cX9_keep 47 = .ok (.iload 4, 2) := by decide +kernel
theorem dX9_keep_49 : decode cX9_keep 49 = .ok (.iaload, 1) := by decide +kernel
theorem dX9_keep_50 : decode cX9_keep 50 = .ok (.iastore, 1) := by decide +kernel
theorem dX9_keep_51 : decode cX9_keep 51 = .ok (.aload_n 0, 1) := by decide +kernel
theorem dX9_keep_52 : decode cX9_keep 52 = .ok (.getfield 34, 3) := by decide +kernel
theorem dX9_keep_55 : decode cX9_keep 55 = .ok (.iload 4, 2) := by decide +kernel
theorem dX9_keep_57 : decode cX9_keep 57 = .ok (.iconst 1, 1) := by decide +kernel
theorem dX9_keep_58 : decode cX9_keep 58 = .ok (.isub, 1) := by decide +kernel
theorem dX9_keep_59 : decode cX9_keep 59 = .ok (.aload_n 0, 1) := by decide +kernel
theorem dX9_keep_60 : decode cX9_keep 60 = .ok (.getfield 34, 3) := by decide +kernel
theorem dX9_keep_63 : decode cX9_keep 63 = .ok (.iload 4, 2) := by decide +kernel
theorem dX9_keep_65 : decode cX9_keep 65 = .ok (.iaload, 1) := by decide +kernel
theorem dX9_keep_66 : decode cX9_keep 66 = .ok (.iastore, 1) := by decide +kernel
theorem dX9_keep_67 : decode cX9_keep 67 = .ok (.iinc 4 1, 3) := by decide +kernel
theorem dX9_keep_70 : decode cX9_keep 70 = .ok (.goto (-58), 3) := by decide +kernel
theorem dX9_keep_73 : decode cX9_keep 73 = .ok (.aload_n 0, 1) := by decide +kernel
theorem dX9_keep_74 : decode cX9_keep 74 = .ok (.bipush 29, 2) := by decide +kernel
theorem dX9_keep_76 : decode cX9_keep 76 = .ok (.putfield 97, 3) := by decide +kernel
theorem dX9_keep_79 : decode cX9_keep 79 = .ok (.aload_n 0, 1) := by decide +kernel
theorem dX9_keep_80 : decode cX9_keep 80 = .ok (.getfield 28, 3) := by decide +kernel
theorem dX9_keep_83 : decode cX9_keep 83 = .ok (.aload_n 0, 1) := by decide +kernel
theorem dX9_keep_84 : decode cX9_keep 84 = .ok (.getfield 97, 3) := by decide +kernel
theorem dX9_keep_87 : decode cX9_keep 87 = .ok (.iload_n 1, 1) := by decide +kernel
theorem dX9_keep_88 : decode cX9_keep 88 = .ok (.iastore, 1) := by decide +kernel
theorem dX9_keep_89 : decode cX9_keep 89 = .ok (.aload_n 0, 1) := by decide +kernel
theorem dX9_keep_90 : decode cX9_keep 90 = .ok (.getfield 31, 3) := by decide +kernel
theorem dX9_keep_93 : decode cX9_keep 93 = .ok (.aload_n 0, 1) := by decide +kernel
theorem dX9_keep_94 : decode cX9_keep 94 = .ok (.getfield 97, 3) := by decide +kernel
theorem dX9_keep_97 : decode cX9_keep 97 = .ok (.iload_n 2, 1) := by decide +kernel
theorem dX9_keep_98 : decode cX9_keep 98 = .ok (.iastore, 1) := by decide +kernel
theorem dX9_keep_99 : decode cX9_keep 99 = .ok (.aload_n 0, 1) := by decide +kernel
theorem dX9_keep_100 : decode cX9_keep 100 = .ok (.getfield 34, 3) := by decide +kernel
theorem dX9_keep_103 : decode cX9_keep 103 = .ok (.aload_n 0, 1) := by decide +kernel
theorem dX9_keep_104 : decode cX9_keep 104 = .ok (.getfield 97, 3) := by decide +kernel
theorem dX9_keep_107 : decode cX9_keep 107 = .ok (.iload_n 3, 1) := by decide +kernel
theorem dX9_keep_108 : decode cX9_keep 108 = .ok (.iastore, 1) := by decide +kernel
theorem dX9_keep_109 : decode cX9_keep 109 = .ok (.aload_n 0, 1) := by decide +kernel
theorem dX9_keep_110 : decode cX9_keep 110 = .ok (.dup, 1) := by decide +kernel
theorem dX9_keep_111 : decode cX9_keep 111 = .ok (.getfield 97, 3) := by decide +kernel
theorem dX9_keep_114 : decode cX9_keep 114 = .ok (.iconst 1, 1) := by decide +kernel
theorem dX9_keep_115 : decode cX9_keep 115 = .ok (.iadd, 1) := by decide +kernel
theorem dX9_keep_116 : decode cX9_keep 116 = .ok (.putfield 97, 3) := by decide +kernel
theorem dX9_keep_119 : decode cX9_keep 119 = .ok (.return_, 1) := by decide +kernel
theorem dX9_place_0 : decode cX9_place 0 = .ok (.aload_n 0, 1) := by decide +kernel
theorem dX9_place_1 : decode cX9_place 1 = .ok (.getfield 86, 3) := by decide +kernel
theorem dX9_place_4 : decode cX9_place 4 = .ok (.bipush 10, 2) := by decide +kernel
theorem dX9_place_6 : decode cX9_place 6 = .ok (.if_icmp .ne 6, 3) := by decide +kernel
theorem dX9_place_9 : decode cX9_place 9 = .ok (.bipush (-5), 2) := by decide +kernel
theorem dX9_place_11 : decode cX9_place 11 = .ok (.ireturn, 1) := by decide +kernel
theorem dX9_place_12 : decode cX9_place 12 = .ok (.aload_n 0, 1) := by decide +kernel
theorem dX9_place_13 : decode cX9_place 13 = .ok (.iconst 0, 1) := by decide +kernel
theorem dX9_place_14 : decode cX9_place 14 = .ok (.aload_n 0, 1) := by decide +kernel
theorem dX9_place_15 : decode cX9_place 15 = .ok (.getfield 86, 3) := by decide +kernel
theorem dX9_place_18 : decode cX9_place 18 = .ok (.iconst 0, 1) := by decide +kernel
theorem dX9_place_19 : decode cX9_place 19 = .ok (.invokevirtual 100, 3) := by decide +kernel
theorem dX9_place_22 : decode cX9_place 22 = .ok (.aload_n 0, 1) := by decide +kernel
theorem dX9_place_23 : decode cX9_place 23 = .ok (.getfield 22, 3) := by decide +kernel
theorem dX9_place_26 : decode cX9_place 26 = .ok (.aload_n 0, 1) := by decide +kernel
theorem dX9_place_27 : decode cX9_place 27 = .ok (.getfield 86, 3) := by decide +kernel
theorem dX9_place_30 : decode cX9_place 30 = .ok (.iconst (-1), 1) := by decide +kernel
theorem dX9_place_31 : decode cX9_place 31 = .ok (.iastore, 1) := by decide +kernel
theorem dX9_place_32 : decode cX9_place 32 = .ok (.iconst 0, 1) := by decide +kernel
theorem dX9_place_33 : decode cX9_place 33 = .ok (.istore_n 1, 1) := by decide +kernel
theorem dX9_place_34 : decode cX9_place 34 = .ok (.iload_n 1, 1) := by decide +kernel
theorem dX9_place_35 : decode cX9_place 35 = .ok (.bipush 8, 2) := by decide +kernel
theorem dX9_place_37 : decode cX9_place 37 = .ok (.if_icmp .ge 24, 3) := by decide +kernel
theorem dX9_place_40 : decode cX9_place 40 = .ok (.aload_n 0, 1) := by decide +kernel
theorem dX9_place_41 : decode cX9_place 41 = .ok (.getfield 19, 3) := by decide +kernel
theorem dX9_place_44 : decode cX9_place 44 = .ok (.bipush 10, 2) := by decide +kernel
theorem dX9_place_46 : decode cX9_place 46 = .ok (.iload_n 1, 1) := by decide +kernel
theorem dX9_place_47 : decode cX9_place 47 = .ok (.imul, 1) := by decide +kernel
theorem dX9_place_48 : decode cX9_place 48 = .ok (.aload_n 0, 1) := by decide +kernel
theorem dX9_place_49 : decode cX9_place 49 = .ok (.getfield 86, 3) := by decide +kernel
theorem dX9_place_52 : decode cX9_place 52 = .ok (.iadd, 1) := by decide +kernel
theorem dX9_place_53 : decode cX9_place 53 = .ok (.iconst 0, 1) := by decide +kernel
theorem dX9_place_54 : decode cX9_place 54 = .ok (.iastore, 1) := by decide +kernel
theorem dX9_place_55 : decode cX9_place 55 = .ok (.iinc 1 1, 3) := by decide +kernel
theorem dX9_place_58 : decode cX9_place 58 = .ok (.goto (-24), 3) := by decide +kernel
theorem dX9_place_61 : decode cX9_place 61 = .ok (.aload_n 0, 1) := by decide +kernel
theorem dX9_place_62 : decode cX9_place 62 = .ok (.dup, 1) := by decide +kernel
theorem dX9_place_63 : decode cX9_place 63 = .ok (.getfield 86, 3) := by decide +kernel
theorem dX9_place_66 : decode cX9_place 66 = .ok (.iconst 1, 1) := by decide +kernel
theorem dX9_place_67 : decode cX9_place 67 = .ok (.iadd, 1) := by decide +kernel
theorem dX9_place_68 : decode cX9_place 68 = .ok (.putfield 86, 3) := by decide +kernel
theorem dX9_place_71 : decode cX9_place 71 = .ok (.aload_n 0, 1) := by decide +kernel
theorem dX9_place_72 : decode cX9_place 72 = .ok (.getfield 86, 3) := by decide +kernel
theorem dX9_place_75 : decode cX9_place 75 = .ok (.iconst 1, 1) := by decide +kernel
theorem dX9_place_76 : decode cX9_place 76 = .ok (.isub, 1) := by decide +kernel
theorem dX9_place_77 : decode cX9_place 77 = .ok (.ireturn, 1) := by decide +kernel
theorem dX9_road_0 : decode cX9_road 0 = .ok (.aload_n 0, 1) := by decide +kernel
theorem dX9_road_1 : decode cX9_road 1 = .ok (.iload_n 1, 1) := by decide +kernel
theorem dX9_road_2 : decode cX9_road 2 = .ok (.invokevirtual 104, 3) := by decide +kernel
theorem dX9_road_5 : decode cX9_road 5 = .ok (.ifCond .eq 11, 3) := by decide +kernel
theorem dX9_road_8 : decode cX9_road 8 = .ok (.aload_n 0, 1) := by decide +kernel
theorem dX9_road_9 : decode cX9_road 9 = .ok (.iload_n 2, 1) := by decide +kernel
theorem dX9_road_10 : decode cX9_road 10 = .ok (.invokevirtual 104, 3) := by decide +kernel
theorem dX9_road_13 : decode cX9_road 13 = .ok (.ifCond .ne 6, 3) := by decide +kernel
theorem dX9_road_16 : decode cX9_road 16 = .ok (.bipush (-2), 2) := by decide +kernel
theorem dX9_road_18 : decode cX9_road 18 = .ok (.ireturn, 1) := by decide +kernel
theorem dX9_road_19 : decode cX9_road 19 = .ok (.iload_n 3, 1) := by decide +kernel
theorem dX9_road_20 : decode cX9_road 20 = .ok (.iconst 1, 1) := by decide +kernel
theorem dX9_road_21 : decode cX9_road 21 = .ok (.sipush 1000, 3) := by decide +kernel
theorem dX9_road_24 : decode cX9_road 24 = .ok (.invokestatic 90, 3) := by decide +kernel
theorem dX9_road_27 : decode cX9_road 27 = .ok (.ifCond .eq 8, 3) := by decide +kernel
theorem dX9_road_30 : decode cX9_road 30 = .ok (.iload_n 1, 1) := by decide +kernel
theorem dX9_road_31 : decode cX9_road 31 = .ok (.iload_n 2, 1) := by decide +kernel
theorem dX9_road_32 : decode cX9_road 32 = .ok (.if_icmp .ne 6, 3) := by decide +kernel
theorem dX9_road_35 : decode cX9_road 35 = .ok (.bipush (-3), 2) := by decide +kernel
theorem dX9_road_37 : decode cX9_road 37 = .ok (.ireturn, 1) := by decide +kernel
theorem dX9_road_38 : decode cX9_road 38 = .ok (.aload_n 0, 1) := by decide +kernel
theorem dX9_road_39 : decode cX9_road 39 = .ok (.getfield 108, 3) := by decide +kernel
theorem dX9_road_42 : decode cX9_road 42 = .ok (.bipush 30, 2) := by decide +kernel
theorem dX9_road_44 : decode cX9_road 44 = .ok (.if_icmp .ne 6, 3) := by decide +kernel
theorem dX9_road_47 : decode cX9_road 47 = .ok (.bipush (-5), 2) := by decide +kernel
theorem dX9_road_49 : decode cX9_road 49 = .ok (.ireturn, 1) := by decide +kernel
theorem dX9_road_50 : decode cX9_road 50 = .ok (.aload_n 0, 1) := by decide +kernel
theorem dX9_road_51 : decode cX9_road 51 = .ok (.iconst 1, 1) := by decide +kernel
theorem dX9_road_52 : decode cX9_road 52 = .ok (.aload_n 0, 1) := by decide +kernel
theorem dX9_road_53 : decode cX9_road 53 = .ok (.getfield 108, 3) := by decide +kernel
theorem dX9_road_56 : decode cX9_road 56 = .ok (.iconst 0, 1) := by decide +kernel
theorem dX9_road_57 : decode cX9_road 57 = .ok (.invokevirtual 100, 3) := by decide +kernel
theorem dX9_road_60 : decode cX9_road 60 = .ok (.aload_n 0, 1) := by decide +kernel
theorem dX9_road_61 : decode cX9_road 61 = .ok (.getfield 7, 3) := by decide +kernel
theorem dX9_road_64 : decode cX9_road 64 = .ok (.aload_n 0, 1) := by decide +kernel
theorem dX9_road_65 : decode cX9_road 65 = .ok (.getfield 108, 3) := by decide +kernel
theorem dX9_road_68 : decode cX9_road 68 = .ok (.iload_n 1, 1) := by decide +kernel
theorem dX9_road_69 : decode cX9_road 69 = .ok (.iastore, 1) := by decide +kernel
theorem dX9_road_70 : decode cX9_road 70 = .ok (.aload_n 0, 1) := by decide +kernel
theorem dX9_road_71 : decode cX9_road 71 = .ok (.getfield 13, 3) := by decide +kernel
theorem dX9_road_74 : decode cX9_road 74 = .ok (.aload_n 0, 1) := by decide +kernel
theorem dX9_road_75 : decode cX9_road 75 = .ok (.getfield 108, 3) := by decide +kernel
theorem dX9_road_78 : decode cX9_road 78 = .ok (.iload_n 2, 1) := by decide +kernel
theorem dX9_road_79 : decode cX9_road 79 = .ok (.iastore, 1) := by decide +kernel
theorem dX9_road_80 : decode cX9_road 80 = .ok (.aload_n 0, 1) := by decide +kernel
theorem dX9_road_81 : decode cX9_road 81 = .ok (.getfield 16, 3) := by decide +kernel
theorem dX9_road_84 : decode cX9_road 84 = .ok (.aload_n 0, 1) := by decide +kernel
theorem dX9_road_85 : decode cX9_road 85 = .ok (.getfield 108, 3) := by decide +kernel
theorem dX9_road_88 : decode cX9_road 88 = .ok (.iload_n 3, 1) := by decide +kernel
theorem dX9_road_89 : decode cX9_road 89 = .ok (.iastore, 1) := by decide +kernel
theorem dX9_road_90 : decode cX9_road 90 = .ok (.aload_n 0, 1) := by decide +kernel
theorem dX9_road_91 : decode cX9_road 91 = .ok (.dup, 1) := by decide +kernel
theorem dX9_road_92 : decode cX9_road 92 = .ok (.getfield 108, 3) := by decide +kernel
theorem dX9_road_95 : decode cX9_road 95 = .ok (.iconst 1, 1) := by decide +kernel
theorem dX9_road_96 : decode cX9_road 96 = .ok (.iadd, 1) := by decide +kernel
theorem dX9_road_97 : decode cX9_road 97 = .ok (.putfield 108, 3) := by decide +kernel
theorem dX9_road_100 : decode cX9_road 100 = .ok (.aload_n 0, 1) := by decide +kernel
theorem dX9_road_101 : decode cX9_road 101 = .ok (.getfield 108, 3) := by decide +kernel
theorem dX9_road_104 : decode cX9_road 104 = .ok (.iconst 1, 1) := by decide +kernel
theorem dX9_road_105 : decode cX9_road 105 = .ok (.isub, 1) := by decide +kernel
theorem dX9_road_106 : decode cX9_road 106 = .ok (.ireturn, 1) := by decide +kernel
theorem dX9_heap_0 : decode cX9_heap 0 = .ok (.aload_n 0, 1) := by decide +kernel
theorem dX9_heap_1 : decode cX9_heap 1 = .ok (.getfield 94, 3) := by decide +kernel
theorem dX9_heap_4 : decode cX9_heap 4 = .ok (.bipush 8, 2) := by decide +kernel
theorem dX9_heap_6 : decode cX9_heap 6 = .ok (.if_icmp .ne 6, 3) := by decide +kernel
theorem dX9_heap_9 : decode cX9_heap 9 = .ok (.bipush (-5), 2) := by decide +kernel
theorem dX9_heap_11 : decode cX9_heap 11 = .ok (.ireturn, 1) := by decide +kernel
theorem dX9_heap_12 : decode cX9_heap 12 = .ok (.aload_n 0, 1) := by decide +kernel
theorem dX9_heap_13 : decode cX9_heap 13 = .ok (.iconst 2, 1) := by decide +kernel
theorem dX9_heap_14 : decode cX9_heap 14 = .ok (.aload_n 0, 1) := by decide +kernel
theorem dX9_heap_15 : decode cX9_heap 15 = .ok (.getfield 94, 3) := by decide +kernel
theorem dX9_heap_18 : decode cX9_heap 18 = .ok (.iconst 0, 1) := by decide +kernel
theorem dX9_heap_19 : decode cX9_heap 19 = .ok (.invokevirtual 100, 3) := by decide +kernel
theorem dX9_heap_22 : decode cX9_heap 22 = .ok (.iconst 0, 1) := by decide +kernel
theorem dX9_heap_23 : decode cX9_heap 23 = .ok (.istore_n 1, 1) := by decide +kernel
theorem dX9_heap_24 : decode cX9_heap 24 = .ok (.iload_n 1, 1) := by decide +kernel
theorem dX9_heap_25 : decode cX9_heap 25 = .ok (.bipush 10, 2) := by decide +kernel
theorem dX9_heap_27 : decode cX9_heap 27 = .ok (.if_icmp .ge 24, 3) := by decide +kernel
theorem dX9_heap_30 : decode cX9_heap 30 = .ok (.aload_n 0, 1) := by decide +kernel
theorem dX9_heap_31 : decode cX9_heap 31 = .ok (.getfield 19, 3) := by decide +kernel
theorem dX9_heap_34 : decode cX9_heap 34 = .ok (.bipush 10, 2) := by decide +kernel
theorem dX9_heap_36 : decode cX9_heap 36 = .ok (.aload_n 0, 1) := by decide +kernel
theorem dX9_heap_37 : decode cX9_heap 37 = .ok (.getfield 94, 3) := by decide +kernel
theorem dX9_heap_40 : decode cX9_heap 40 = .ok (.imul, 1) := by decide +kernel
theorem dX9_heap_41 : decode cX9_heap 41 = .ok (.iload_n 1, 1) := by decide +kernel
theorem dX9_heap_42 : decode cX9_heap 42 = .ok (.iadd, 1) := by decide +kernel
theorem dX9_heap_43 : decode cX9_heap 43 = .ok (.iconst 0, 1) := by decide +kernel
theorem dX9_heap_44 : decode cX9_heap 44 = .ok (.iastore, 1) := by decide +kernel
theorem dX9_heap_45 : decode cX9_heap 45 = .ok (.iinc 1 1, 3) := by decide +kernel
theorem dX9_heap_48 : decode cX9_heap 48 = .ok (.goto (-24), 3) := by decide +kernel
theorem dX9_heap_51 : decode cX9_heap 51 = .ok (.aload_n 0, 1) := by decide +kernel
theorem dX9_heap_52 : decode cX9_heap 52 = .ok (.dup, 1) := by decide +kernel
theorem dX9_heap_53 : decode cX9_heap 53 = .ok (.getfield 94, 3) := by decide +kernel
theorem dX9_heap_56 : decode cX9_heap 56 = .ok (.iconst 1, 1) := by decide +kernel
theorem dX9_heap_57 : decode cX9_heap 57 = .ok (.iadd, 1) := by decide +kernel
theorem dX9_heap_58 : decode cX9_heap 58 = .ok (.putfield 94, 3) := by decide +kernel
theorem dX9_heap_61 : decode cX9_heap 61 = .ok (.aload_n 0, 1) := by decide +kernel
theorem dX9_heap_62 : decode cX9_heap 62 = .ok (.getfield 94, 3) := by decide +kernel
theorem dX9_heap_65 : decode cX9_heap 65 = .ok (.iconst 1, 1) := by decide +kernel
theorem dX9_heap_66 : decode cX9_heap 66 = .ok (.isub, 1) := by decide +kernel
theorem dX9_heap_67 : decode cX9_heap 67 = .ok (.ireturn, 1) := by decide +kernel
theorem dX9_set_0 : decode cX9_set 0 = .ok (.aload_n 0, 1) := by decide +kernel
theorem dX9_set_1 : decode cX9_set 1 = .ok (.iload_n 1, 1) := by decide +kernel
theorem dX9_set_2 : decode cX9_set 2 = .ok (.invokevirtual 111, 3) := by decide +kernel
theorem dX9_set_5 : decode cX9_set 5 = .ok (.ifCond .eq 11, 3) := by decide +kernel
theorem dX9_set_8 : decode cX9_set 8 = .ok (.aload_n 0, 1) := by decide +kernel
theorem dX9_set_9 : decode cX9_set 9 = .ok (.iload_n 2, 1) := by decide +kernel
theorem dX9_set_10 : decode cX9_set 10 = .ok (.invokevirtual 104, 3) := by decide +kernel
theorem dX9_set_13 : decode cX9_set 13 = .ok (.ifCond .ne 6, 3) := by decide +kernel
theorem dX9_set_16 : decode cX9_set 16 = .ok (.bipush (-2), 2) := by decide +kernel
theorem dX9_set_18 : decode cX9_set 18 = .ok (.ireturn, 1) := by decide +kernel
theorem dX9_set_19 : decode cX9_set 19 = .ok (.iload_n 3, 1) := by decide +kernel
theorem dX9_set_20 : decode cX9_set 20 = .ok (.iconst 0, 1) := by decide +kernel
theorem dX9_set_21 : decode cX9_set 21 = .ok (.sipush 1000, 3) := by decide +kernel
theorem dX9_set_24 : decode cX9_set 24 = .ok (.invokestatic 90, 3) := by decide +kernel
theorem dX9_set_27 : decode cX9_set 27 = .ok (.ifCond .ne 6, 3) := by decide +kernel
theorem dX9_set_30 : decode cX9_set 30 = .ok (.bipush (-3), 2) := by decide +kernel
theorem dX9_set_32 : decode cX9_set 32 = .ok (.ireturn, 1) := by decide +kernel
theorem dX9_set_33 : decode cX9_set 33 = .ok (.bipush 10, 2) := by decide +kernel
theorem dX9_set_35 : decode cX9_set 35 = .ok (.iload_n 1, 1) := by decide +kernel
theorem dX9_set_36 : decode cX9_set 36 = .ok (.imul, 1) := by decide +kernel
theorem dX9_set_37 : decode cX9_set 37 = .ok (.iload_n 2, 1) := by decide +kernel
theorem dX9_set_38 : decode cX9_set 38 = .ok (.iadd, 1) := by decide +kernel
theorem dX9_set_39 : decode cX9_set 39 = .ok (.istore 4, 2) := by decide +kernel
theorem dX9_set_41 : decode cX9_set 41 = .ok (.aload_n 0, 1) := by decide +kernel
theorem dX9_set_42 : decode cX9_set 42 = .ok (.getfield 19, 3) := by decide +kernel
theorem dX9_set_45 : decode cX9_set 45 = .ok (.iload 4, 2) := by decide +kernel
theorem dX9_set_47 : decode cX9_set 47 = .ok (.iaload, 1) := by decide +kernel
theorem dX9_set_48 : decode cX9_set 48 = .ok (.istore 5, 2) := by decide +kernel
theorem dX9_set_50 : decode cX9_set 50 = .ok (.aload_n 0, 1) := by decide +kernel
theorem dX9_set_51 : decode cX9_set 51 = .ok (.iconst 3, 1) := by decide +kernel
theorem dX9_set_52 : decode cX9_set 52 = .ok (.iload 4, 2) := by decide +kernel
theorem dX9_set_54 : decode cX9_set 54 = .ok (.iload 5, 2) := by decide +kernel
theorem dX9_set_56 : decode cX9_set 56 = .ok (.invokevirtual 100, 3) := by decide +kernel
theorem dX9_set_59 : decode cX9_set 59 = .ok (.aload_n 0, 1) := by decide +kernel
theorem dX9_set_60 : decode cX9_set 60 = .ok (.getfield 19, 3) := by decide +kernel
theorem dX9_set_63 : decode cX9_set 63 = .ok (.iload 4, 2) := by decide +kernel
theorem dX9_set_65 : decode cX9_set 65 = .ok (.iload_n 3, 1) := by decide +kernel
theorem dX9_set_66 : decode cX9_set 66 = .ok (.iastore, 1) := by decide +kernel
theorem dX9_set_67 : decode cX9_set 67 = .ok (.iload 5, 2) := by decide +kernel
theorem dX9_set_69 : decode cX9_set 69 = .ok (.ireturn, 1) := by decide +kernel
theorem dX9_gate_0 : decode cX9_gate 0 = .ok (.aload_n 0, 1) := by decide +kernel
theorem dX9_gate_1 : decode cX9_gate 1 = .ok (.iload_n 1, 1) := by decide +kernel
theorem dX9_gate_2 : decode cX9_gate 2 = .ok (.invokevirtual 104, 3) := by decide +kernel
theorem dX9_gate_5 : decode cX9_gate 5 = .ok (.ifCond .ne 6, 3) := by decide +kernel
theorem dX9_gate_8 : decode cX9_gate 8 = .ok (.bipush (-2), 2) := by decide +kernel
theorem dX9_gate_10 : decode cX9_gate 10 = .ok (.ireturn, 1) := by decide +kernel
theorem dX9_gate_11 : decode cX9_gate 11 = .ok (.iload_n 2, 1) := by decide +kernel
theorem dX9_gate_12 : decode cX9_gate 12 = .ok (.iconst (-1), 1) := by decide +kernel
theorem dX9_gate_13 : decode cX9_gate 13 = .ok (.ldc 114, 2) := by decide +kernel
theorem dX9_gate_15 : decode cX9_gate 15 = .ok (.invokestatic 90, 3) := by decide +kernel
theorem dX9_gate_18 : decode cX9_gate 18 = .ok (.ifCond .ne 6, 3) := by decide +kernel
theorem dX9_gate_21 : decode cX9_gate 21 = .ok (.bipush (-3), 2) := by decide +kernel
theorem dX9_gate_23 : decode cX9_gate 23 = .ok (.ireturn, 1) := by decide +kernel
theorem dX9_gate_24 : decode cX9_gate 24 = .ok (.aload_n 0, 1) := by decide +kernel
theorem dX9_gate_25 : decode cX9_gate 25 = .ok (.getfield 22, 3) := by decide +kernel
theorem dX9_gate_28 : decode cX9_gate 28 = .ok (.iload_n 1, 1) := by decide +kernel
theorem dX9_gate_29 : decode cX9_gate 29 = .ok (.iaload, 1) := by decide +kernel
theorem dX9_gate_30 : decode cX9_gate 30 = .ok (.istore_n 3, 1) := by decide +kernel
theorem dX9_gate_31 : decode cX9_gate 31 = .ok (.aload_n 0, 1) := by decide +kernel
theorem dX9_gate_32 : decode cX9_gate 32 = .ok (.iconst 4, 1) := by decide +kernel
theorem dX9_gate_33 : decode cX9_gate 33 = .ok (.iload_n 1, 1) := by decide +kernel
theorem dX9_gate_34 : decode cX9_gate 34 = .ok (.iload_n 3, 1) := by decide +kernel
theorem dX9_gate_35 : decode cX9_gate 35 = .ok (.invokevirtual 100, 3) := by decide +kernel
theorem dX9_gate_38 : decode cX9_gate 38 = .ok (.aload_n 0, 1) := by decide +kernel
theorem dX9_gate_39 : decode cX9_gate 39 = .ok (.getfield 22, 3) := by decide +kernel
theorem dX9_gate_42 : decode cX9_gate 42 = .ok (.iload_n 1, 1) := by decide +kernel
theorem dX9_gate_43 : decode cX9_gate 43 = .ok (.iload_n 2, 1) := by decide +kernel
theorem dX9_gate_44 : decode cX9_gate 44 = .ok (.iastore, 1) := by decide +kernel
theorem dX9_gate_45 : decode cX9_gate 45 = .ok (.iload_n 3, 1) := by decide +kernel
theorem dX9_gate_46 : decode cX9_gate 46 = .ok (.ireturn, 1) := by decide +kernel
theorem dX9_undo_0 : decode cX9_undo 0 = .ok (.aload_n 0, 1) := by decide +kernel
theorem dX9_undo_1 : decode cX9_undo 1 = .ok (.getfield 97, 3) := by decide +kernel
theorem dX9_undo_4 : decode cX9_undo 4 = .ok (.ifCond .ne 6, 3) := by decide +kernel
theorem dX9_undo_7 : decode cX9_undo 7 = .ok (.bipush (-4), 2) := by decide +kernel
theorem dX9_undo_9 : decode cX9_undo 9 = .ok (.ireturn, 1) := by decide +kernel
theorem dX9_undo_10 : decode cX9_undo 10 = .ok (.aload_n 0, 1) := by decide +kernel
theorem dX9_undo_11 : decode cX9_undo 11 = .ok (.dup, 1) := by decide +kernel
theorem dX9_undo_12 : decode cX9_undo 12 = .ok (.getfield 97, 3) := by decide +kernel
theorem dX9_undo_15 : decode cX9_undo 15 = .ok (.iconst 1, 1) := by decide +kernel
theorem dX9_undo_16 : decode cX9_undo 16 = .ok (.isub, 1) := by decide +kernel
theorem dX9_undo_17 : decode cX9_undo 17 = .ok (.putfield 97, 3) := by decide +kernel
theorem dX9_undo_20 : decode cX9_undo 20 = .ok (.aload_n 0, 1) := by decide +kernel
theorem dX9_undo_21 : decode cX9_undo 21 = .ok (.getfield 28, 3) := by decide +kernel
theorem dX9_undo_24 : decode cX9_undo 24 = .ok (.aload_n 0, 1) := by decide +kernel
theorem dX9_undo_25 : decode cX9_undo 25 = .ok (.getfield 97, 3) := by decide +kernel
theorem dX9_undo_28 : decode cX9_undo 28 = .ok (.iaload, 1) := by decide +kernel
theorem dX9_undo_29 : decode cX9_undo 29 = .ok (.istore_n 1, 1) := by decide +kernel
theorem dX9_undo_30 : decode cX9_undo 30 = .ok (.aload_n 0, 1) := by decide +kernel
theorem dX9_undo_31 : decode cX9_undo 31 = .ok (.getfield 31, 3) := by decide +kernel
theorem dX9_undo_34 : decode cX9_undo 34 = .ok (.aload_n 0, 1) := by decide +kernel
theorem dX9_undo_35 : decode cX9_undo 35 = .ok (.getfield 97, 3) := by decide +kernel
theorem dX9_undo_38 : decode cX9_undo 38 = .ok (.iaload, 1) := by decide +kernel
theorem dX9_undo_39 : decode cX9_undo 39 = .ok (.istore_n 2, 1) := by decide +kernel
theorem dX9_undo_40 : decode cX9_undo 40 = .ok (.iload_n 1, 1) := by decide +kernel
theorem dX9_undo_41 : decode cX9_undo 41 = .ok (.ifCond .ne 54, 3) := by decide +kernel
theorem dX9_undo_44 : decode cX9_undo 44 = .ok (.aload_n 0, 1) := by decide +kernel
theorem dX9_undo_45 : decode cX9_undo 45 = .ok (.dup, 1) := by decide +kernel
theorem dX9_undo_46 : decode cX9_undo 46 = .ok (.getfield 86, 3) := by decide +kernel
theorem dX9_undo_49 : decode cX9_undo 49 = .ok (.iconst 1, 1) := by decide +kernel
theorem dX9_undo_50 : decode cX9_undo 50 = .ok (.isub, 1) := by decide +kernel
theorem dX9_undo_51 : decode cX9_undo 51 = .ok (.putfield 86, 3) := by decide +kernel
theorem dX9_undo_54 : decode cX9_undo 54 = .ok (.iconst 0, 1) := by decide +kernel
theorem dX9_undo_55 : decode cX9_undo 55 = .ok (.istore_n 3, 1) := by decide +kernel
theorem dX9_undo_56 : decode cX9_undo 56 = .ok (.iload_n 3, 1) := by decide +kernel
theorem dX9_undo_57 : decode cX9_undo 57 = .ok (.bipush 10, 2) := by decide +kernel
theorem dX9_undo_59 : decode cX9_undo 59 = .ok (.if_icmp .ge 33, 3) := by decide +kernel
theorem dX9_undo_62 : decode cX9_undo 62 = .ok (.aload_n 0, 1) := by decide +kernel
theorem dX9_undo_63 : decode cX9_undo 63 = .ok (.getfield 25, 3) := by decide +kernel
theorem dX9_undo_66 : decode cX9_undo 66 = .ok (.bipush 10, 2) := by decide +kernel
theorem dX9_undo_68 : decode cX9_undo 68 = .ok (.iload_n 2, 1) := by decide +kernel
theorem dX9_undo_69 : decode cX9_undo 69 = .ok (.imul, 1) := by decide +kernel
theorem dX9_undo_70 : decode cX9_undo 70 = .ok (.iload_n 3, 1) := by decide +kernel
theorem dX9_undo_71 : decode cX9_undo 71 = .ok (.iadd, 1) := by decide +kernel
theorem dX9_undo_72 : decode cX9_undo 72 = .ok (.iconst 0, 1) := by decide +kernel
theorem dX9_undo_73 : decode cX9_undo 73 = .ok (.iastore, 1) := by decide +kernel
theorem dX9_undo_74 : decode cX9_undo 74 = .ok (.aload_n 0, 1) := by decide +kernel
theorem dX9_undo_75 : decode cX9_undo 75 = .ok (.getfield 25, 3) := by decide +kernel
theorem dX9_undo_78 : decode cX9_undo 78 = .ok (.bipush 10, 2) := by decide +kernel
theorem dX9_undo_80 : decode cX9_undo 80 = .ok (.iload_n 3, 1) := by decide +kernel
theorem dX9_undo_81 : decode cX9_undo 81 = .ok (.imul, 1) := by decide +kernel
theorem dX9_undo_82 : decode cX9_undo 82 = .ok (.iload_n 2, 1) := by decide +kernel
theorem dX9_undo_83 : decode cX9_undo 83 = .ok (.iadd, 1) := by decide +kernel
theorem dX9_undo_84 : decode cX9_undo 84 = .ok (.iconst 0, 1) := by decide +kernel
theorem dX9_undo_85 : decode cX9_undo 85 = .ok (.iastore, 1) := by decide +kernel
theorem dX9_undo_86 : decode cX9_undo 86 = .ok (.iinc 3 1, 3) := by decide +kernel
theorem dX9_undo_89 : decode cX9_undo 89 = .ok (.goto (-33), 3) := by decide +kernel
theorem dX9_undo_92 : decode cX9_undo 92 = .ok (.goto 77, 3) := by decide +kernel
theorem dX9_undo_95 : decode cX9_undo 95 = .ok (.iload_n 1, 1) := by decide +kernel
theorem dX9_undo_96 : decode cX9_undo 96 = .ok (.iconst 1, 1) := by decide +kernel
theorem dX9_undo_97 : decode cX9_undo 97 = .ok (.if_icmp .ne 16, 3) := by decide +kernel
theorem dX9_undo_100 : decode cX9_undo 100 = .ok (.aload_n 0, 1) := by decide +kernel
theorem dX9_undo_101 : decode cX9_undo 101 = .ok (.dup, 1) := by decide +kernel
theorem dX9_undo_102 : decode cX9_undo 102 = .ok (.getfield 108, 3) := by decide +kernel
theorem dX9_undo_105 : decode cX9_undo 105 = .ok (.iconst 1, 1) := by decide +kernel
theorem dX9_undo_106 : decode cX9_undo 106 = .ok (.isub, 1) := by decide +kernel
theorem dX9_undo_107 : decode cX9_undo 107 = .ok (.putfield 108, 3) := by decide +kernel
theorem dX9_undo_110 : decode cX9_undo 110 = .ok (.goto 59, 3) := by decide +kernel
theorem dX9_undo_113 : decode cX9_undo 113 = .ok (.iload_n 1, 1) := by decide +kernel
theorem dX9_undo_114 : decode cX9_undo 114 = .ok (.iconst 2, 1) := by decide +kernel
theorem dX9_undo_115 : decode cX9_undo 115 = .ok (.if_icmp .ne 16, 3) := by decide +kernel
theorem dX9_undo_118 : decode cX9_undo 118 = .ok (.aload_n 0, 1) := by decide +kernel
theorem dX9_undo_119 : decode cX9_undo 119 = .ok (.dup, 1) := by decide +kernel
theorem dX9_undo_120 : decode cX9_undo 120 = .ok (.getfield 94, 3) := by decide +kernel
theorem dX9_undo_123 : decode cX9_undo 123 = .ok (.iconst 1, 1) := by decide +kernel
theorem dX9_undo_124 : decode cX9_undo 124 = .ok (.isub, 1) := by decide +kernel
theorem dX9_undo_125 : decode cX9_undo 125 = .ok (.putfield 94, 3) := by decide +kernel
theorem dX9_undo_128 : decode cX9_undo 128 = .ok (.goto 41, 3) := by decide +kernel
theorem dX9_undo_131 : decode cX9_undo 131 = .ok (.iload_n 1, 1) := by decide +kernel
theorem dX9_undo_132 : decode cX9_undo 132 = .ok (.iconst 3, 1) := by decide +kernel
theorem dX9_undo_133 : decode cX9_undo 133 = .ok (.if_icmp .ne 21, 3) := by decide +kernel
theorem dX9_undo_136 : decode cX9_undo 136 = .ok (.aload_n 0, 1) := by decide +kernel
theorem dX9_undo_137 : decode cX9_undo 137 = .ok (.getfield 19, 3) := by decide +kernel
theorem dX9_undo_140 : decode cX9_undo 140 = .ok (.iload_n 2, 1) := by decide +kernel
theorem dX9_undo_141 : decode cX9_undo 141 = .ok (.aload_n 0, 1) := by decide +kernel
theorem dX9_undo_142 : decode cX9_undo 142 = .ok (.getfield 34, 3) := by decide +kernel
theorem dX9_undo_145 : decode cX9_undo 145 = .ok (.aload_n 0, 1) := by decide +kernel
theorem dX9_undo_146 : decode cX9_undo 146 = .ok (.getfield 97, 3) := by decide +kernel
theorem dX9_undo_149 : decode cX9_undo 149 = .ok (.iaload, 1) := by decide +kernel
theorem dX9_undo_150 : decode cX9_undo 150 = .ok (.iastore, 1) := by decide +kernel
theorem dX9_undo_151 : decode cX9_undo 151 = .ok (.goto 18, 3) := by decide +kernel
theorem dX9_undo_154 : decode cX9_undo 154 = .ok (.aload_n 0, 1) := by decide +kernel
theorem dX9_undo_155 : decode cX9_undo 155 = .ok (.getfield 22, 3) := by decide +kernel
theorem dX9_undo_158 : decode cX9_undo 158 = .ok (.iload_n 2, 1) := by decide +kernel
theorem dX9_undo_159 : decode cX9_undo 159 = .ok (.aload_n 0, 1) := by decide +kernel
theorem dX9_undo_160 : decode cX9_undo 160 = .ok (.getfield 34, 3) := by decide +kernel
theorem dX9_undo_163 : decode cX9_undo 163 = .ok (.aload_n 0, 1) := by decide +kernel
theorem dX9_undo_164 : decode cX9_undo 164 = .ok (.getfield 97, 3) := by decide +kernel
theorem dX9_undo_167 : decode cX9_undo 167 = .ok (.iaload, 1) := by decide +kernel
theorem dX9_undo_168 : decode cX9_undo 168 = .ok (.iastore, 1) := by decide +kernel
theorem dX9_undo_169 : decode cX9_undo 169 = .ok (.aload_n 0, 1) := by decide +kernel
theorem dX9_undo_170 : decode cX9_undo 170 = .ok (.getfield 97, 3) := by decide +kernel
theorem dX9_undo_173 : decode cX9_undo 173 = .ok (.ireturn, 1) := by decide +kernel
theorem dX9_findFar_0 : decode cX9_findFar 0 = .ok (.iconst 0, 1) := by decide +kernel
theorem dX9_findFar_1 : decode cX9_findFar 1 = .ok (.istore_n 1, 1) := by decide +kernel
theorem dX9_findFar_2 : decode cX9_findFar 2 = .ok (.iload_n 1, 1) := by decide +kernel
theorem dX9_findFar_3 : decode cX9_findFar 3 = .ok (.bipush 100, 2) := by decide +kernel
theorem dX9_findFar_5 : decode cX9_findFar 5 = .ok (.if_icmp .ge 32, 3) := by decide +kernel
theorem dX9_findFar_8 : decode cX9_findFar 8 = .ok (.aload_n 0, 1) := by decide +kernel
theorem dX9_findFar_9 : decode cX9_findFar 9 = .ok (.getfield 37, 3) := by decide +kernel
theorem dX9_findFar_12 : decode cX9_findFar 12 = .ok (.iload_n 1, 1) := by decide +kernel
theorem dX9_findFar_13 : decode cX9_findFar 13 = .ok (.iload_n 1, 1) := by decide +kernel
theorem dX9_findFar_14 : decode cX9_findFar 14 = .ok (.bipush 10, 2) := by decide +kernel
theorem dX9_findFar_16 : decode cX9_findFar 16 = .ok (.idiv, 1) := by decide +kernel
theorem dX9_findFar_17 : decode cX9_findFar 17 = .ok (.iload_n 1, 1) := by decide +kernel
theorem dX9_findFar_18 : decode cX9_findFar 18 = .ok (.bipush 10, 2) := by decide +kernel
theorem dX9_findFar_20 : decode cX9_findFar 20 = .ok (.irem, 1) := by decide +kernel
theorem dX9_findFar_21 : decode cX9_findFar 21 = .ok (.if_icmp .ne 7, 3) := by decide +kernel
theorem dX9_findFar_24 : decode cX9_findFar 24 = .ok (.iconst 0, 1) := by decide +kernel
theorem dX9_findFar_25 : decode cX9_findFar 25 = .ok (.goto 5, 3) := by decide +kernel
theorem dX9_findFar_28 : decode cX9_findFar 28 = .ok (.ldc 115, 2) := by decide +kernel
theorem dX9_findFar_30 : decode cX9_findFar 30 = .ok (.iastore, 1) := by decide +kernel
theorem dX9_findFar_31 : decode cX9_findFar 31 = .ok (.iinc 1 1, 3) := by decide +kernel
theorem dX9_findFar_34 : decode cX9_findFar 34 = .ok (.goto (-32), 3) := by decide +kernel
theorem dX9_findFar_37 : decode cX9_findFar 37 = .ok (.iconst 0, 1) := by decide +kernel
theorem dX9_findFar_38 : decode cX9_findFar 38 = .ok (.istore_n 1, 1) := by decide +kernel
theorem dX9_findFar_39 : decode cX9_findFar 39 = .ok (.iload_n 1, 1) := by decide +kernel
theorem dX9_findFar_40 : decode cX9_findFar 40 = .ok (.aload_n 0, 1) := by decide +kernel
theorem dX9_findFar_41 : decode cX9_findFar 41 = .ok (.getfield 108, 3) := by decide +kernel
theorem dX9_findFar_44 : decode cX9_findFar 44 = .ok (.if_icmp .ge 91, 3) := by decide +kernel
theorem dX9_findFar_47 : decode cX9_findFar 47 = .ok (.bipush 10, 2) := by decide +kernel
theorem dX9_findFar_49 : decode cX9_findFar 49 = .ok (.aload_n 0, 1) := by decide +kernel
theorem dX9_findFar_50 : decode cX9_findFar 50 = .ok (.getfield 7, 3) := by decide +kernel
theorem dX9_findFar_53 : decode cX9_findFar 53 = .ok (.iload_n 1, 1) := by decide +kernel
theorem dX9_findFar_54 : decode cX9_findFar 54 = .ok (.iaload, 1) := by decide +kernel
theorem dX9_findFar_55 : decode cX9_findFar 55 = .ok (.imul, 1) := by decide +kernel
theorem dX9_findFar_56 : decode cX9_findFar 56 = .ok (.aload_n 0, 1) := by decide +kernel
theorem dX9_findFar_57 : decode cX9_findFar 57 = .ok (.getfield 13, 3) := by decide +kernel
theorem dX9_findFar_60 : decode cX9_findFar 60 = .ok (.iload_n 1, 1) := by decide +kernel
theorem dX9_findFar_61 : decode cX9_findFar 61 = .ok (.iaload, 1) := by decide +kernel
theorem dX9_findFar_62 : decode cX9_findFar 62 = .ok (.iadd, 1) := by decide +kernel
theorem dX9_findFar_63 : decode cX9_findFar 63 = .ok (.istore_n 2, 1) := by decide +kernel
theorem dX9_findFar_64 : decode cX9_findFar 64 = .ok (.bipush 10, 2) := by decide +kernel
theorem dX9_findFar_66 : decode cX9_findFar 66 = .ok (.aload_n 0, 1) := by decide +kernel
theorem dX9_findFar_67 : decode cX9_findFar 67 = .ok (.getfield 13, 3) := by decide +kernel
theorem dX9_findFar_70 : decode cX9_findFar 70 = .ok (.iload_n 1, 1) := by decide +kernel
theorem dX9_findFar_71 : decode cX9_findFar 71 = .ok (.iaload, 1) := by decide +kernel
theorem dX9_findFar_72 : decode cX9_findFar 72 = .ok (.imul, 1) := by decide +kernel
theorem dX9_findFar_73 : decode cX9_findFar 73 = .ok (.aload_n 0, 1) := by decide +kernel
theorem dX9_findFar_74 : decode cX9_findFar 74 = .ok (.getfield 7, 3) := by decide +kernel
theorem dX9_findFar_77 : decode cX9_findFar 77 = .ok (.iload_n 1, 1) := by decide +kernel
theorem dX9_findFar_78 : decode cX9_findFar 78 = .ok (.iaload, 1) := by decide +kernel
theorem dX9_findFar_79 : decode cX9_findFar 79 = .ok (.iadd, 1) := by decide +kernel
theorem dX9_findFar_80 : decode cX9_findFar 80 = .ok (.istore_n 3, 1) := by decide +kernel
theorem dX9_findFar_81 : decode cX9_findFar 81 = .ok (.aload_n 0, 1) := by decide +kernel
theorem dX9_findFar_82 : decode cX9_findFar 82 = .ok (.getfield 37, 3) := by decide +kernel
theorem dX9_findFar_85 : decode cX9_findFar 85 = .ok (.iload_n 2, 1) := by decide +kernel
theorem dX9_findFar_86 : decode cX9_findFar 86 = .ok (.aload_n 0, 1) := by decide +kernel
theorem dX9_findFar_87 : decode cX9_findFar 87 = .ok (.getfield 16, 3) := by decide +kernel
theorem dX9_findFar_90 : decode cX9_findFar 90 = .ok (.iload_n 1, 1) := by decide +kernel
theorem dX9_findFar_91 : decode cX9_findFar 91 = .ok (.iaload, 1) := by decide +kernel
theorem dX9_findFar_92 : decode cX9_findFar 92 = .ok (.aload_n 0, 1) := by decide +kernel
theorem dX9_findFar_93 : decode cX9_findFar 93 = .ok (.getfield 37, 3) := by decide +kernel
theorem dX9_findFar_96 : decode cX9_findFar 96 = .ok (.iload_n 2, 1) := by decide +kernel
theorem dX9_findFar_97 : decode cX9_findFar 97 = .ok (.iaload, 1) := by decide +kernel
theorem dX9_findFar_98 : decode cX9_findFar 98 = .ok (.if_icmp .ge 12, 3) := by decide +kernel
theorem dX9_findFar_101 : decode cX9_findFar 101 = .ok (.aload_n 0, 1) := by decide +kernel
theorem dX9_findFar_102 : decode cX9_findFar 102 = .ok (.getfield 16, 3) := by decide +kernel
theorem dX9_findFar_105 : decode cX9_findFar 105 = .ok (.iload_n 1, 1) := by decide +kernel
theorem dX9_findFar_106 : decode cX9_findFar 106 = .ok (.iaload, 1) := by decide +kernel
theorem dX9_findFar_107 : decode cX9_findFar 107 = .ok (.goto 9, 3) := by decide +kernel
theorem dX9_findFar_110 : decode cX9_findFar 110 = .ok (.aload_n 0, 1) := by decide +kernel
theorem dX9_findFar_111 : decode cX9_findFar 111 = .ok (.getfield 37, 3) := by decide +kernel
theorem dX9_findFar_114 : decode cX9_findFar 114 = .ok (.iload_n 2, 1) := by decide +kernel
theorem dX9_findFar_115 : decode cX9_findFar 115 = .ok (.iaload, 1) := by decide +kernel
theorem dX9_findFar_116 : decode cX9_findFar 116 = .ok (.iastore, 1) := by decide +kernel
theorem dX9_findFar_117 : decode cX9_findFar 117 = .ok (.aload_n 0, 1) := by decide +kernel
theorem dX9_findFar_118 : decode cX9_findFar 118 = .ok (.getfield 37, 3) := by decide +kernel
theorem dX9_findFar_121 : decode cX9_findFar 121 = .ok (.iload_n 3, 1) := by decide +kernel
theorem dX9_findFar_122 : decode cX9_findFar 122 = .ok (.aload_n 0, 1) := by decide +kernel
theorem dX9_findFar_123 : decode cX9_findFar 123 = .ok (.getfield 37, 3) := by decide +kernel
theorem dX9_findFar_126 : decode cX9_findFar 126 = .ok (.iload_n 2, 1) := by decide +kernel
theorem dX9_findFar_127 : decode cX9_findFar 127 = .ok (.iaload, 1) := by decide +kernel
theorem dX9_findFar_128 : decode cX9_findFar 128 = .ok (.iastore, 1) := by decide +kernel
theorem dX9_findFar_129 : decode cX9_findFar 129 = .ok (.iinc 1 1, 3) := by decide +kernel
theorem dX9_findFar_132 : decode cX9_findFar 132 = .ok (.goto (-93), 3) := by decide +kernel
theorem dX9_findFar_135 : decode cX9_findFar 135 = .ok (.iconst 0, 1) := by decide +kernel
theorem dX9_findFar_136 : decode cX9_findFar 136 = .ok (.istore_n 1, 1) := by decide +kernel
theorem dX9_findFar_137 : decode cX9_findFar 137 = .ok (.iload_n 1, 1) := by decide +kernel
theorem dX9_findFar_138 : decode cX9_findFar 138 = .ok (.aload_n 0, 1) := by decide +kernel
theorem dX9_findFar_139 : decode cX9_findFar 139 = .ok (.getfield 86, 3) := by decide +kernel
theorem dX9_findFar_142 : decode cX9_findFar 142 = .ok (.if_icmp .ge 109, 3) := by decide +kernel
theorem dX9_findFar_145 : decode cX9_findFar 145 = .ok (.iconst 0, 1) := by decide +kernel
theorem dX9_findFar_146 : decode cX9_findFar 146 = .ok (.istore_n 2, 1) := by decide +kernel
theorem dX9_findFar_147 : decode cX9_findFar 147 = .ok (.iload_n 2, 1) := by decide +kernel
theorem dX9_findFar_148 : decode cX9_findFar 148 = .ok (.aload_n 0, 1) := by decide +kernel
theorem dX9_findFar_149 : decode cX9_findFar 149 = .ok (.getfield 86, 3) := by decide +kernel
theorem dX9_findFar_152 : decode cX9_findFar 152 = .ok (.if_icmp .ge 93, 3) := by decide +kernel
theorem dX9_findFar_155 : decode cX9_findFar 155 = .ok (.iconst 0, 1) := by decide +kernel
theorem dX9_findFar_156 : decode cX9_findFar 156 = .ok (.istore_n 3, 1) := by decide +kernel
theorem dX9_findFar_157 : decode cX9_findFar 157 = .ok (.iload_n 3, 1) := by decide +kernel
theorem dX9_findFar_158 : decode cX9_findFar 158 = .ok (.aload_n 0, 1) := by decide +kernel
theorem dX9_findFar_159 : decode cX9_findFar 159 = .ok (.getfield 86, 3) := by decide +kernel
theorem dX9_findFar_162 : decode cX9_findFar 162 = .ok (.if_icmp .ge 77, 3) := by decide +kernel
theorem dX9_findFar_165 : decode cX9_findFar 165 = .ok (.aload_n 0, 1) := by decide +kernel
theorem dX9_findFar_166 : decode cX9_findFar 166 = .ok (.getfield 37, 3) := by decide +kernel
theorem dX9_findFar_169 : decode cX9_findFar 169 = .ok (.bipush 10, 2) := by decide +kernel
theorem dX9_findFar_171 : decode cX9_findFar 171 = .ok (.iload_n 2, 1) := by decide +kernel
theorem dX9_findFar_172 : decode cX9_findFar 172 = .ok (.imul, 1) := by decide +kernel
theorem dX9_findFar_173 : decode cX9_findFar 173 = .ok (.iload_n 1, 1) := by decide +kernel
theorem dX9_findFar_174 : decode cX9_findFar 174 = .ok (.iadd, 1) := by decide +kernel
theorem dX9_findFar_175 : decode cX9_findFar 175 = .ok (.iaload, 1) := by decide +kernel
theorem dX9_findFar_176 : decode cX9_findFar 176 = .ok (.aload_n 0, 1) := by decide +kernel
theorem dX9_findFar_177 : decode cX9_findFar 177 = .ok (.getfield 37, 3) := by decide +kernel
theorem dX9_findFar_180 : decode cX9_findFar 180 = .ok (.bipush 10, 2) := by decide +kernel
theorem dX9_findFar_182 : decode cX9_findFar 182 = .ok (.iload_n 1, 1) := by decide +kernel
theorem dX9_findFar_183 : decode cX9_findFar 183 = .ok (.imul, 1) := by decide +kernel
theorem dX9_findFar_184 : decode cX9_findFar 184 = .ok (.iload_n 3, 1) := by decide +kernel
theorem dX9_findFar_185 : decode cX9_findFar 185 = .ok (.iadd, 1) := by decide +kernel
theorem dX9_findFar_186 : decode cX9_findFar 186 = .ok (.iaload, 1) := by decide +kernel
theorem dX9_findFar_187 : decode cX9_findFar 187 = .ok (.iadd, 1) := by decide +kernel
theorem dX9_findFar_188 : decode cX9_findFar 188 = .ok (.istore 4, 2) := by decide +kernel
theorem dX9_findFar_190 : decode cX9_findFar 190 = .ok (.aload_n 0, 1) := by decide +kernel
theorem dX9_findFar_191 : decode cX9_findFar 191 = .ok (.getfield 37, 3) := by decide +kernel
theorem dX9_findFar_194 : decode cX9_findFar 194 = .ok (.bipush 10, 2) := by decide +kernel
theorem dX9_findFar_196 : decode cX9_findFar 196 = .ok (.iload_n 2, 1) := by decide +kernel
theorem dX9_findFar_197 : decode cX9_findFar 197 = .ok (.imul, 1) := by decide +kernel
theorem dX9_findFar_198 : decode cX9_findFar 198 = .ok (.iload_n 3, 1) := by decide +kernel
theorem dX9_findFar_199 : decode cX9_findFar 199 = .ok (.iadd, 1) := by decide +kernel
theorem dX9_findFar_200 : decode cX9_findFar 200 = .ok (.iload 4, 2) := by decide +kernel
theorem dX9_findFar_202 : decode cX9_findFar 202 = .ok (.aload_n 0, 1) := by decide +kernel
theorem dX9_findFar_203 : decode cX9_findFar 203 = .ok (.getfield 37, 3) := by decide +kernel
theorem dX9_findFar_206 : decode cX9_findFar 206 = .ok (.bipush 10, 2) := by decide +kernel
theorem dX9_findFar_208 : decode cX9_findFar 208 = .ok (.iload_n 2, 1) := by decide +kernel
theorem dX9_findFar_209 : decode cX9_findFar 209 = .ok (.imul, 1) := by decide +kernel
theorem dX9_findFar_210 : decode cX9_findFar 210 = .ok (.iload_n 3, 1) := by decide +kernel
theorem dX9_findFar_211 : decode cX9_findFar 211 = .ok (.iadd, 1) := by decide +kernel
theorem dX9_findFar_212 : decode cX9_findFar 212 = .ok (.iaload, 1) := by decide +kernel
theorem dX9_findFar_213 : decode cX9_findFar 213 = .ok (.if_icmp .ge 8, 3) := by decide +kernel
theorem dX9_findFar_216 : decode cX9_findFar 216 = .ok (.iload 4, 2) := by decide +kernel
theorem dX9_findFar_218 : decode cX9_findFar 218 = .ok (.goto 14, 3) := by decide +kernel
theorem dX9_findFar_221 : decode cX9_findFar 221 = .ok (.aload_n 0, 1) := by decide +kernel
theorem dX9_findFar_222 : decode cX9_findFar 222 = .ok (.getfield 37, 3) := by decide +kernel
theorem dX9_findFar_225 : decode cX9_findFar 225 = .ok (.bipush 10, 2) := by decide +kernel
theorem dX9_findFar_227 : decode cX9_findFar 227 = .ok (.iload_n 2, 1) := by decide +kernel
theorem dX9_findFar_228 : decode cX9_findFar 228 = .ok (.imul, 1) := by decide +kernel
theorem dX9_findFar_229 : decode cX9_findFar 229 = .ok (.iload_n 3, 1) := by decide +kernel
theorem dX9_findFar_230 : decode cX9_findFar 230 = .ok (.iadd, 1) := by decide +kernel
theorem dX9_findFar_231 : decode cX9_findFar 231 = .ok (.iaload, 1) := by decide +kernel
theorem dX9_findFar_232 : decode cX9_findFar 232 = .ok (.iastore, 1) := by decide +kernel
theorem dX9_findFar_233 : decode cX9_findFar 233 = .ok (.iinc 3 1, 3) := by decide +kernel
theorem dX9_findFar_236 : decode cX9_findFar 236 = .ok (.goto (-79), 3) := by decide +kernel
theorem dX9_findFar_239 : decode cX9_findFar 239 = .ok (.iinc 2 1, 3) := by decide +kernel
theorem dX9_findFar_242 : decode cX9_findFar 242 = .ok (.goto (-95), 3) := by decide +kernel
theorem dX9_findFar_245 : decode cX9_findFar 245 = .ok (.iinc 1 1, 3) := by decide +kernel
theorem dX9_findFar_248 : decode cX9_findFar 248 = .ok (.goto (-111), 3) := by decide +kernel
theorem dX9_findFar_251 : decode cX9_findFar 251 = .ok (.return_, 1) := by decide +kernel
theorem dX9_isJoined_0 : decode cX9_isJoined 0 = .ok (.aload_n 0, 1) := by decide +kernel
theorem dX9_isJoined_1 : decode cX9_isJoined 1 = .ok (.invokevirtual 116, 3) := by decide +kernel
theorem dX9_isJoined_4 : decode cX9_isJoined 4 = .ok (.iconst 1, 1) := by decide +kernel
theorem dX9_isJoined_5 : decode cX9_isJoined 5 = .ok (.istore_n 1, 1) := by decide +kernel
theorem dX9_isJoined_6 : decode cX9_isJoined 6 = .ok (.iconst 0, 1) := by decide +kernel
theorem dX9_isJoined_7 : decode cX9_isJoined 7 = .ok (.istore_n 2, 1) := by decide +kernel
theorem dX9_isJoined_8 : decode cX9_isJoined 8 = .ok (.iload_n 2, 1) := by decide +kernel
theorem dX9_isJoined_9 : decode cX9_isJoined 9 = .ok (.aload_n 0, 1) := by decide +kernel
theorem dX9_isJoined_10 : decode cX9_isJoined 10 = .ok (.getfield 86, 3) := by decide +kernel
theorem dX9_isJoined_13 : decode cX9_isJoined 13 = .ok (.if_icmp .ge 30, 3) := by decide +kernel
theorem dX9_isJoined_16 : decode cX9_isJoined 16 = .ok (.iload_n 1, 1) := by decide +kernel
theorem dX9_isJoined_17 : decode cX9_isJoined 17 = .ok (.ifCond .eq 18, 3) := by decide +kernel
theorem dX9_isJoined_20 : decode cX9_isJoined 20 = .ok (.aload_n 0, 1) := by decide +kernel
theorem dX9_isJoined_21 : decode cX9_isJoined 21 = .ok (.getfield 37, 3) := by decide +kernel
theorem dX9_isJoined_24 : decode cX9_isJoined 24 = .ok (.iload_n 2, 1) := by decide +kernel
theorem dX9_isJoined_25 : decode cX9_isJoined 25 = .ok (.iaload, 1) := by decide +kernel
theorem dX9_isJoined_26 : decode cX9_isJoined 26 = .ok (.ldc 115, 2) := by decide +kernel
theorem dX9_isJoined_28 : decode cX9_isJoined 28 = .ok (.if_icmp .ge 7, 3) := by decide +kernel
theorem dX9_isJoined_31 : decode cX9_isJoined 31 = .ok (.iconst 1, 1) := by decide +kernel
theorem dX9_isJoined_32 : decode cX9_isJoined 32 = .ok (.goto 4, 3) := by decide +kernel
theorem dX9_isJoined_35 : decode cX9_isJoined 35 = .ok (.iconst 0, 1) := by decide +kernel
theorem dX9_isJoined_36 : decode cX9_isJoined 36 = .ok (.istore_n 1, 1) := by decide +kernel
theorem dX9_isJoined_37 : decode cX9_isJoined 37 = .ok (.iinc 2 1, 3) := by decide +kernel
theorem dX9_isJoined_40 : decode cX9_isJoined 40 = .ok (.goto (-32), 3) := by decide +kernel
theorem dX9_isJoined_43 : decode cX9_isJoined 43 = .ok (.iload_n 1, 1) := by decide +kernel
theorem dX9_isJoined_44 : decode cX9_isJoined 44 = .ok (.ireturn, 1) := by decide +kernel
theorem dX9_apart_0 : decode cX9_apart 0 = .ok (.aload_n 0, 1) := by decide +kernel
theorem dX9_apart_1 : decode cX9_apart 1 = .ok (.iload_n 1, 1) := by decide +kernel
theorem dX9_apart_2 : decode cX9_apart 2 = .ok (.invokevirtual 104, 3) := by decide +kernel
theorem dX9_apart_5 : decode cX9_apart 5 = .ok (.ifCond .eq 11, 3) := by decide +kernel
theorem dX9_apart_8 : decode cX9_apart 8 = .ok (.aload_n 0, 1) := by decide +kernel
theorem dX9_apart_9 : decode cX9_apart 9 = .ok (.iload_n 2, 1) := by decide +kernel
theorem dX9_apart_10 : decode cX9_apart 10 = .ok (.invokevirtual 104, 3) := by decide +kernel
theorem dX9_apart_13 : decode cX9_apart 13 = .ok (.ifCond .ne 6, 3) := by decide +kernel
theorem dX9_apart_16 : decode cX9_apart 16 = .ok (.bipush (-2), 2) := by decide +kernel
theorem dX9_apart_18 : decode cX9_apart 18 = .ok (.ireturn, 1) := by decide +kernel
theorem dX9_apart_19 : decode cX9_apart 19 = .ok (.aload_n 0, 1) := by decide +kernel
theorem dX9_apart_20 : decode cX9_apart 20 = .ok (.invokevirtual 116, 3) := by decide +kernel
theorem dX9_apart_23 : decode cX9_apart 23 = .ok (.aload_n 0, 1) := by decide +kernel
theorem dX9_apart_24 : decode cX9_apart 24 = .ok (.getfield 37, 3) := by decide +kernel
theorem dX9_apart_27 : decode cX9_apart 27 = .ok (.bipush 10, 2) := by decide +kernel
theorem dX9_apart_29 : decode cX9_apart 29 = .ok (.iload_n 1, 1) := by decide +kernel
theorem dX9_apart_30 : decode cX9_apart 30 = .ok (.imul, 1) := by decide +kernel
theorem dX9_apart_31 : decode cX9_apart 31 = .ok (.iload_n 2, 1) := by decide +kernel
theorem dX9_apart_32 : decode cX9_apart 32 = .ok (.iadd, 1) := by decide +kernel
theorem dX9_apart_33 : decode cX9_apart 33 = .ok (.iaload, 1) := by decide +kernel
theorem dX9_apart_34 : decode cX9_apart 34 = .ok (.ldc 115, 2) := by decide +kernel
theorem dX9_apart_36 : decode cX9_apart 36 = .ok (.if_icmp .lt 7, 3) := by decide +kernel
theorem dX9_apart_39 : decode cX9_apart 39 = .ok (.iconst (-1), 1) := by decide +kernel
theorem dX9_apart_40 : decode cX9_apart 40 = .ok (.goto 14, 3) := by decide +kernel
theorem dX9_apart_43 : decode cX9_apart 43 = .ok (.aload_n 0, 1) := by decide +kernel
theorem dX9_apart_44 : decode cX9_apart 44 = .ok (.getfield 37, 3) := by decide +kernel
theorem dX9_apart_47 : decode cX9_apart 47 = .ok (.bipush 10, 2) := by decide +kernel
theorem dX9_apart_49 : decode cX9_apart 49 = .ok (.iload_n 1, 1) := by decide +kernel
theorem dX9_apart_50 : decode cX9_apart 50 = .ok (.imul, 1) := by decide +kernel
theorem dX9_apart_51 : decode cX9_apart 51 = .ok (.iload_n 2, 1) := by decide +kernel
theorem dX9_apart_52 : decode cX9_apart 52 = .ok (.iadd, 1) := by decide +kernel
theorem dX9_apart_53 : decode cX9_apart 53 = .ok (.iaload, 1) := by decide +kernel
theorem dX9_apart_54 : decode cX9_apart 54 = .ok (.ireturn, 1) := by decide +kernel
theorem dX9_nextTo_0 : decode cX9_nextTo 0 = .ok (.iconst (-1), 1) := by decide +kernel
theorem dX9_nextTo_1 : decode cX9_nextTo 1 = .ok (.istore_n 3, 1) := by decide +kernel
theorem dX9_nextTo_2 : decode cX9_nextTo 2 = .ok (.iconst 0, 1) := by decide +kernel
theorem dX9_nextTo_3 : decode cX9_nextTo 3 = .ok (.istore 4, 2) := by decide +kernel
theorem dX9_nextTo_5 : decode cX9_nextTo 5 = .ok (.iload 4, 2) := by decide +kernel
theorem dX9_nextTo_7 : decode cX9_nextTo 7 = .ok (.aload_n 0, 1) := by decide +kernel
theorem dX9_nextTo_8 : decode cX9_nextTo 8 = .ok (.getfield 108, 3) := by decide +kernel
theorem dX9_nextTo_11 : decode cX9_nextTo 11 = .ok (.if_icmp .ge 146, 3) := by decide +kernel
theorem dX9_nextTo_14 : decode cX9_nextTo 14 = .ok (.iload_n 1, 1) := by decide +kernel
theorem dX9_nextTo_15 : decode cX9_nextTo 15 = .ok (.iload_n 2, 1) := by decide +kernel
theorem dX9_nextTo_16 : decode cX9_nextTo 16 = .ok (.if_icmp .eq 141, 3) := by decide +kernel
theorem dX9_nextTo_19 : decode cX9_nextTo 19 = .ok (.aload_n 0, 1) := by decide +kernel
theorem dX9_nextTo_20 : decode cX9_nextTo 20 = .ok (.getfield 7, 3) := by decide +kernel
theorem dX9_nextTo_23 : decode cX9_nextTo 23 = .ok (.iload 4, 2) := by decide +kernel
theorem dX9_nextTo_25 : decode cX9_nextTo 25 = .ok (.iaload, 1) := by decide +kernel
theorem dX9_nextTo_26 : decode cX9_nextTo 26 = .ok (.iload_n 1, 1) := by decide +kernel
theorem dX9_nextTo_27 : decode cX9_nextTo 27 = .ok (.if_icmp .ne 13, 3) := by decide +kernel
theorem dX9_nextTo_30 : decode cX9_nextTo 30 = .ok (.aload_n 0, 1) := by decide +kernel
theorem dX9_nextTo_31 : decode cX9_nextTo 31 = .ok (.getfield 13, 3) := by decide +kernel
theorem dX9_nextTo_34 : decode cX9_nextTo 34 = .ok (.iload 4, 2) := by decide +kernel
theorem dX9_nextTo_36 : decode cX9_nextTo 36 = .ok (.iaload, 1) := by decide +kernel
theorem dX9_nextTo_37 : decode cX9_nextTo 37 = .ok (.goto 25, 3) := by decide +kernel
theorem dX9_nextTo_40 : decode cX9_nextTo 40 = .ok (.aload_n 0, 1) := by decide +kernel
theorem dX9_nextTo_41 : decode cX9_nextTo 41 = .ok (.getfield 13, 3) := by decide +kernel
theorem dX9_nextTo_44 : decode cX9_nextTo 44 = .ok (.iload 4, 2) := by decide +kernel
theorem dX9_nextTo_46 : decode cX9_nextTo 46 = .ok (.iaload, 1) := by decide +kernel
theorem dX9_nextTo_47 : decode cX9_nextTo 47 = .ok (.iload_n 1, 1) := by decide +kernel
theorem dX9_nextTo_48 : decode cX9_nextTo 48 = .ok (.if_icmp .ne 13, 3) := by decide +kernel
theorem dX9_nextTo_51 : decode cX9_nextTo 51 = .ok (.aload_n 0, 1) := by decide +kernel
theorem dX9_nextTo_52 : decode cX9_nextTo 52 = .ok (.getfield 7, 3) := by decide +kernel
theorem dX9_nextTo_55 : decode cX9_nextTo 55 = .ok (.iload 4, 2) := by decide +kernel
theorem dX9_nextTo_57 : decode cX9_nextTo 57 = .ok (.iaload, 1) := by decide +kernel
theorem dX9_nextTo_58 : decode cX9_nextTo 58 = .ok (.goto 4, 3) := by decide +kernel
theorem dX9_nextTo_61 : decode cX9_nextTo 61 = .ok (.iconst (-1), 1) := by decide +kernel
theorem dX9_nextTo_62 : decode cX9_nextTo 62 = .ok (.istore 5, 2) := by decide +kernel
theorem dX9_nextTo_64 : decode cX9_nextTo 64 = .ok (.iload 5, 2) := by decide +kernel
theorem dX9_nextTo_66 : decode cX9_nextTo 66 = .ok (.iconst (-1), 1) := by decide +kernel
theorem dX9_nextTo_67 : decode cX9_nextTo 67 = .ok (.if_icmp .eq 58, 3) := by decide +kernel
theorem dX9_nextTo_70 : decode cX9_nextTo 70 = .ok (.aload_n 0, 1) := by decide +kernel
theorem dX9_nextTo_71 : decode cX9_nextTo 71 = .ok (.getfield 37, 3) := by decide +kernel
theorem dX9_nextTo_74 : decode cX9_nextTo 74 = .ok (.bipush 10, 2) := by decide +kernel
theorem dX9_nextTo_76 : decode cX9_nextTo 76 = .ok (.iload 5, 2) := by decide +kernel
theorem dX9_nextTo_78 : decode cX9_nextTo 78 = .ok (.imul, 1) := by decide +kernel
theorem dX9_nextTo_79 : decode cX9_nextTo 79 = .ok (.iload_n 2, 1) := by decide +kernel
theorem dX9_nextTo_80 : decode cX9_nextTo 80 = .ok (.iadd, 1) := by decide +kernel
theorem dX9_nextTo_81 : decode cX9_nextTo 81 = .ok (.iaload, 1) := by decide +kernel
theorem dX9_nextTo_82 : decode cX9_nextTo 82 = .ok (.ldc 115, 2) := by decide +kernel
theorem dX9_nextTo_84 : decode cX9_nextTo 84 = .ok (.if_icmp .ge 41, 3) := by decide +kernel
theorem dX9_nextTo_87 : decode cX9_nextTo 87 = .ok (.aload_n 0, 1) := by decide +kernel
theorem dX9_nextTo_88 : decode cX9_nextTo 88 = .ok (.getfield 16, 3) := by decide +kernel
theorem dX9_nextTo_91 : decode cX9_nextTo 91 = .ok (.iload 4, 2) := by decide +kernel
theorem dX9_nextTo_93 : decode cX9_nextTo 93 = .ok (.iaload, 1) := by decide +kernel
theorem dX9_nextTo_94 : decode cX9_nextTo 94 = .ok (.aload_n 0, 1) := by decide +kernel
theorem dX9_nextTo_95 : decode cX9_nextTo 95 = .ok (.getfield 37, 3) := by decide +kernel
theorem dX9_nextTo_98 : decode cX9_nextTo 98 = .ok (.bipush 10, 2) := by decide +kernel
theorem dX9_nextTo_100 : decode cX9_nextTo 100 = .ok (.iload 5, 2) := by decide +kernel
theorem dX9_nextTo_102 : decode cX9_nextTo 102 = .ok (.imul, 1) := by decide +kernel
theorem dX9_nextTo_103 : decode cX9_nextTo 103 = .ok (.iload_n 2, 1) := by decide +kernel
theorem dX9_nextTo_104 : decode cX9_nextTo 104 = .ok (.iadd, 1) := by decide +kernel
theorem dX9_nextTo_105 : decode cX9_nextTo 105 = .ok (.iaload, 1) := by decide +kernel
theorem dX9_nextTo_106 : decode cX9_nextTo 106 = .ok (.iadd, 1) := by decide +kernel
theorem dX9_nextTo_107 : decode cX9_nextTo 107 = .ok (.aload_n 0, 1) := by decide +kernel
theorem dX9_nextTo_108 : decode cX9_nextTo 108 = .ok (.getfield 37, 3) := by decide +kernel
theorem dX9_nextTo_111 : decode cX9_nextTo 111 = .ok (.bipush 10, 2) := by decide +kernel
theorem dX9_nextTo_113 : decode cX9_nextTo 113 = .ok (.iload_n 1, 1) := by decide +kernel
theorem dX9_nextTo_114 : decode cX9_nextTo 114 = .ok (.imul, 1) := by decide +kernel
theorem dX9_nextTo_115 : decode cX9_nextTo 115 = .ok (.iload_n 2, 1) := by decide +kernel
theorem dX9_nextTo_116 : decode cX9_nextTo 116 = .ok (.iadd, 1) := by decide +kernel
theorem dX9_nextTo_117 : decode cX9_nextTo 117 = .ok (.iaload, 1) := by decide +kernel
theorem dX9_nextTo_118 : decode cX9_nextTo 118 = .ok (.if_icmp .ne 7, 3) := by decide +kernel
theorem dX9_nextTo_121 : decode cX9_nextTo 121 = .ok (.iconst 1, 1) := by decide +kernel
theorem dX9_nextTo_122 : decode cX9_nextTo 122 = .ok (.goto 4, 3) := by decide +kernel
theorem dX9_nextTo_125 : decode cX9_nextTo 125 = .ok (.iconst 0, 1) := by decide +kernel
theorem dX9_nextTo_126 : decode cX9_nextTo 126 = .ok (.istore 6, 2) := by decide +kernel
theorem dX9_nextTo_128 : decode cX9_nextTo 128 = .ok (.iload 6, 2) := by decide +kernel
theorem dX9_nextTo_130 : decode cX9_nextTo 130 = .ok (.ifCond .eq 19, 3) := by decide +kernel
theorem dX9_nextTo_133 : decode cX9_nextTo 133 = .ok (.iload_n 3, 1) := by decide +kernel
theorem dX9_nextTo_134 : decode cX9_nextTo 134 = .ok (.iconst (-1), 1) := by decide +kernel
theorem dX9_nextTo_135 : decode cX9_nextTo 135 = .ok (.if_icmp .eq 9, 3) := by decide +kernel
theorem dX9_nextTo_138 : decode cX9_nextTo 138 = .ok (.iload 5, 2) := by decide +kernel
theorem dX9_nextTo_140 : decode cX9_nextTo 140 = .ok (.iload_n 3, 1) := by decide +kernel
theorem dX9_nextTo_141 : decode cX9_nextTo 141 = .ok (.if_icmp .ge 8, 3) := by decide +kernel
theorem dX9_nextTo_144 : decode cX9_nextTo 144 = .ok (.iload 5, 2) := by decide +kernel
theorem dX9_nextTo_146 : decode cX9_nextTo 146 = .ok (.goto 4, 3) := by decide +kernel
theorem dX9_nextTo_149 : decode cX9_nextTo 149 = .ok (.iload_n 3, 1) := by decide +kernel
theorem dX9_nextTo_150 : decode cX9_nextTo 150 = .ok (.istore_n 3, 1) := by decide +kernel
theorem dX9_nextTo_151 : decode cX9_nextTo 151 = .ok (.iinc 4 1, 3) := by decide +kernel
theorem dX9_nextTo_154 : decode cX9_nextTo 154 = .ok (.goto (-149), 3) := by decide +kernel
theorem dX9_nextTo_157 : decode cX9_nextTo 157 = .ok (.iload_n 3, 1) := by decide +kernel
theorem dX9_nextTo_158 : decode cX9_nextTo 158 = .ok (.ireturn, 1) := by decide +kernel
theorem dX9_next_0 : decode cX9_next 0 = .ok (.aload_n 0, 1) := by decide +kernel
theorem dX9_next_1 : decode cX9_next 1 = .ok (.iload_n 1, 1) := by decide +kernel
theorem dX9_next_2 : decode cX9_next 2 = .ok (.invokevirtual 104, 3) := by decide +kernel
theorem dX9_next_5 : decode cX9_next 5 = .ok (.ifCond .eq 11, 3) := by decide +kernel
theorem dX9_next_8 : decode cX9_next 8 = .ok (.aload_n 0, 1) := by decide +kernel
theorem dX9_next_9 : decode cX9_next 9 = .ok (.iload_n 2, 1) := by decide +kernel
theorem dX9_next_10 : decode cX9_next 10 = .ok (.invokevirtual 104, 3) := by decide +kernel
theorem dX9_next_13 : decode cX9_next 13 = .ok (.ifCond .ne 6, 3) := by decide +kernel
theorem dX9_next_16 : decode cX9_next 16 = .ok (.bipush (-2), 2) := by decide +kernel
theorem dX9_next_18 : decode cX9_next 18 = .ok (.ireturn, 1) := by decide +kernel
theorem dX9_next_19 : decode cX9_next 19 = .ok (.aload_n 0, 1) := by decide +kernel
theorem dX9_next_20 : decode cX9_next 20 = .ok (.invokevirtual 116, 3) := by decide +kernel
theorem dX9_next_23 : decode cX9_next 23 = .ok (.aload_n 0, 1) := by decide +kernel
theorem dX9_next_24 : decode cX9_next 24 = .ok (.iload_n 1, 1) := by decide +kernel
theorem dX9_next_25 : decode cX9_next 25 = .ok (.iload_n 2, 1) := by decide +kernel
theorem dX9_next_26 : decode cX9_next 26 = .ok (.invokevirtual 119, 3) := by decide +kernel
theorem dX9_next_29 : decode cX9_next 29 = .ok (.ireturn, 1) := by decide +kernel
theorem dX9_amount_0 : decode cX9_amount 0 = .ok (.aload_n 0, 1) := by decide +kernel
theorem dX9_amount_1 : decode cX9_amount 1 = .ok (.iload_n 1, 1) := by decide +kernel
theorem dX9_amount_2 : decode cX9_amount 2 = .ok (.invokevirtual 111, 3) := by decide +kernel
theorem dX9_amount_5 : decode cX9_amount 5 = .ok (.ifCond .eq 25, 3) := by decide +kernel
theorem dX9_amount_8 : decode cX9_amount 8 = .ok (.aload_n 0, 1) := by decide +kernel
theorem dX9_amount_9 : decode cX9_amount 9 = .ok (.iload_n 2, 1) := by decide +kernel
theorem dX9_amount_10 : decode cX9_amount 10 = .ok (.invokevirtual 104, 3) := by decide +kernel
theorem dX9_amount_13 : decode cX9_amount 13 = .ok (.ifCond .eq 17, 3) := by decide +kernel
theorem dX9_amount_16 : decode cX9_amount 16 = .ok (.aload_n 0, 1) := by decide +kernel
theorem dX9_amount_17 : decode cX9_amount 17 = .ok (.getfield 19, 3) := by decide +kernel
theorem dX9_amount_20 : decode cX9_amount 20 = .ok (.bipush 10, 2) := by decide +kernel
theorem dX9_amount_22 : decode cX9_amount 22 = .ok (.iload_n 1, 1) := by decide +kernel
theorem dX9_amount_23 : decode cX9_amount 23 = .ok (.imul, 1) := by decide +kernel
theorem dX9_amount_24 : decode cX9_amount 24 = .ok (.iload_n 2, 1) := by decide +kernel
theorem dX9_amount_25 : decode cX9_amount 25 = .ok (.iadd, 1) := by decide +kernel
theorem dX9_amount_26 : decode cX9_amount 26 = .ok (.iaload, 1) := by decide +kernel
theorem dX9_amount_27 : decode cX9_amount 27 = .ok (.goto 5, 3) := by decide +kernel
theorem dX9_amount_30 : decode cX9_amount 30 = .ok (.bipush (-2), 2) := by decide +kernel
theorem dX9_amount_32 : decode cX9_amount 32 = .ok (.ireturn, 1) := by decide +kernel
theorem dX9_sumOf_0 : decode cX9_sumOf 0 = .ok (.iconst 0, 1) := by decide +kernel
theorem dX9_sumOf_1 : decode cX9_sumOf 1 = .ok (.istore_n 2, 1) := by decide +kernel
theorem dX9_sumOf_2 : decode cX9_sumOf 2 = .ok (.iconst 0, 1) := by decide +kernel
theorem dX9_sumOf_3 : decode cX9_sumOf 3 = .ok (.istore_n 3, 1) := by decide +kernel
theorem dX9_sumOf_4 : decode cX9_sumOf 4 = .ok (.iload_n 3, 1) := by decide +kernel
theorem dX9_sumOf_5 : decode cX9_sumOf 5 = .ok (.aload_n 0, 1) := by decide +kernel
theorem dX9_sumOf_6 : decode cX9_sumOf 6 = .ok (.getfield 86, 3) := by decide +kernel
theorem dX9_sumOf_9 : decode cX9_sumOf 9 = .ok (.if_icmp .ge 23, 3) := by decide +kernel
theorem dX9_sumOf_12 : decode cX9_sumOf 12 = .ok (.iload_n 2, 1) := by decide +kernel
theorem dX9_sumOf_13 : decode cX9_sumOf 13 = .ok (.aload_n 0, 1) := by decide +kernel
theorem dX9_sumOf_14 : decode cX9_sumOf 14 = .ok (.getfield 19, 3) := by decide +kernel
theorem dX9_sumOf_17 : decode cX9_sumOf 17 = .ok (.bipush 10, 2) := by decide +kernel
theorem dX9_sumOf_19 : decode cX9_sumOf 19 = .ok (.iload_n 1, 1) := by decide +kernel
theorem dX9_sumOf_20 : decode cX9_sumOf 20 = .ok (.imul, 1) := by decide +kernel
theorem dX9_sumOf_21 : decode cX9_sumOf 21 = .ok (.iload_n 3, 1) := by decide +kernel
theorem dX9_sumOf_22 : decode cX9_sumOf 22 = .ok (.iadd, 1) := by decide +kernel
theorem dX9_sumOf_23 : decode cX9_sumOf 23 = .ok (.iaload, 1) := by decide +kernel
theorem dX9_sumOf_24 : decode cX9_sumOf 24 = .ok (.iadd, 1) := by decide +kernel
theorem dX9_sumOf_25 : decode cX9_sumOf 25 = .ok (.istore_n 2, 1) := by decide +kernel
theorem dX9_sumOf_26 : decode cX9_sumOf 26 = .ok (.iinc 3 1, 3) := by decide +kernel
theorem dX9_sumOf_29 : decode cX9_sumOf 29 = .ok (.goto (-25), 3) := by decide +kernel
theorem dX9_sumOf_32 : decode cX9_sumOf 32 = .ok (.iload_n 2, 1) := by decide +kernel
theorem dX9_sumOf_33 : decode cX9_sumOf 33 = .ok (.ireturn, 1) := by decide +kernel
theorem dX9_sum_0 : decode cX9_sum 0 = .ok (.aload_n 0, 1) := by decide +kernel
theorem dX9_sum_1 : decode cX9_sum 1 = .ok (.iload_n 1, 1) := by decide +kernel
theorem dX9_sum_2 : decode cX9_sum 2 = .ok (.invokevirtual 111, 3) := by decide +kernel
theorem dX9_sum_5 : decode cX9_sum 5 = .ok (.ifCond .eq 11, 3) := by decide +kernel
theorem dX9_sum_8 : decode cX9_sum 8 = .ok (.aload_n 0, 1) := by decide +kernel
theorem dX9_sum_9 : decode cX9_sum 9 = .ok (.iload_n 1, 1) := by decide +kernel
theorem dX9_sum_10 : decode cX9_sum 10 = .ok (.invokevirtual 123, 3) := by decide +kernel
theorem dX9_sum_13 : decode cX9_sum 13 = .ok (.goto 5, 3) := by decide +kernel
theorem dX9_sum_16 : decode cX9_sum 16 = .ok (.bipush (-2), 2) := by decide +kernel
theorem dX9_sum_18 : decode cX9_sum 18 = .ok (.ireturn, 1) := by decide +kernel
theorem dX9_begin_0 : decode cX9_begin 0 = .ok (.iconst 0, 1) := by decide +kernel
theorem dX9_begin_1 : decode cX9_begin 1 = .ok (.istore_n 3, 1) := by decide +kernel
theorem dX9_begin_2 : decode cX9_begin 2 = .ok (.iload_n 3, 1) := by decide +kernel
theorem dX9_begin_3 : decode cX9_begin 3 = .ok (.bipush 100, 2) := by decide +kernel
theorem dX9_begin_5 : decode cX9_begin 5 = .ok (.if_icmp .ge 16, 3) := by decide +kernel
theorem dX9_begin_8 : decode cX9_begin 8 = .ok (.aload_n 0, 1) := by decide +kernel
theorem dX9_begin_9 : decode cX9_begin 9 = .ok (.getfield 40, 3) := by decide +kernel
theorem dX9_begin_12 : decode cX9_begin 12 = .ok (.iload_n 3, 1) := by decide +kernel
theorem dX9_begin_13 : decode cX9_begin 13 = .ok (.iconst 0, 1) := by decide +kernel
theorem dX9_begin_14 : decode cX9_begin 14 = .ok (.iastore, 1) := by decide +kernel
theorem dX9_begin_15 : decode cX9_begin 15 = .ok (.iinc 3 1, 3) := by decide +kernel
theorem dX9_begin_18 : decode cX9_begin 18 = .ok (.goto (-16), 3) := by decide +kernel
theorem dX9_begin_21 : decode cX9_begin 21 = .ok (.iconst 0, 1) := by decide +kernel
theorem dX9_begin_22 : decode cX9_begin 22 = .ok (.istore_n 3, 1) := by decide +kernel
theorem dX9_begin_23 : decode cX9_begin 23 = .ok (.iload_n 3, 1) := by decide +kernel
theorem dX9_begin_24 : decode cX9_begin 24 = .ok (.aload_n 0, 1) := by decide +kernel
theorem dX9_begin_25 : decode cX9_begin 25 = .ok (.getfield 86, 3) := by decide +kernel
theorem dX9_begin_28 : decode cX9_begin 28 = .ok (.if_icmp .ge 43, 3) := by decide +kernel
theorem dX9_begin_31 : decode cX9_begin 31 = .ok (.aload_n 0, 1) := by decide +kernel
theorem dX9_begin_32 : decode cX9_begin 32 = .ok (.getfield 43, 3) := by decide +kernel
theorem dX9_begin_35 : decode cX9_begin 35 = .ok (.iload_n 3, 1) := by decide +kernel
theorem dX9_begin_36 : decode cX9_begin 36 = .ok (.aload_n 0, 1) := by decide +kernel
theorem dX9_begin_37 : decode cX9_begin 37 = .ok (.getfield 19, 3) := by decide +kernel
theorem dX9_begin_40 : decode cX9_begin 40 = .ok (.bipush 10, 2) := by decide +kernel
theorem dX9_begin_42 : decode cX9_begin 42 = .ok (.iload_n 1, 1) := by decide +kernel
theorem dX9_begin_43 : decode cX9_begin 43 = .ok (.imul, 1) := by decide +kernel
theorem dX9_begin_44 : decode cX9_begin 44 = .ok (.iload_n 3, 1) := by decide +kernel
theorem dX9_begin_45 : decode cX9_begin 45 = .ok (.iadd, 1) := by decide +kernel
theorem dX9_begin_46 : decode cX9_begin 46 = .ok (.iaload, 1) := by decide +kernel
theorem dX9_begin_47 : decode cX9_begin 47 = .ok (.iastore, 1) := by decide +kernel
theorem dX9_begin_48 : decode cX9_begin 48 = .ok (.aload_n 0, 1) := by decide +kernel
theorem dX9_begin_49 : decode cX9_begin 49 = .ok (.getfield 46, 3) := by decide +kernel
theorem dX9_begin_52 : decode cX9_begin 52 = .ok (.iload_n 3, 1) := by decide +kernel
theorem dX9_begin_53 : decode cX9_begin 53 = .ok (.aload_n 0, 1) := by decide +kernel
theorem dX9_begin_54 : decode cX9_begin 54 = .ok (.getfield 19, 3) := by decide +kernel
theorem dX9_begin_57 : decode cX9_begin 57 = .ok (.bipush 10, 2) := by decide +kernel
theorem dX9_begin_59 : decode cX9_begin 59 = .ok (.iload_n 2, 1) := by decide +kernel
theorem dX9_begin_60 : decode cX9_begin 60 = .ok (.imul, 1) := by decide +kernel
theorem dX9_begin_61 : decode cX9_begin 61 = .ok (.iload_n 3, 1) := by decide +kernel
theorem dX9_begin_62 : decode cX9_begin 62 = .ok (.iadd, 1) := by decide +kernel
theorem dX9_begin_63 : decode cX9_begin 63 = .ok (.iaload, 1) := by decide +kernel
theorem dX9_begin_64 : decode cX9_begin 64 = .ok (.iastore, 1) := by decide +kernel
theorem dX9_begin_65 : decode cX9_begin 65 = .ok (.iinc 3 1, 3) := by decide +kernel
theorem dX9_begin_68 : decode cX9_begin 68 = .ok (.goto (-45), 3) := by decide +kernel
theorem dX9_begin_71 : decode cX9_begin 71 = .ok (.return_, 1) := by decide +kernel
theorem dX9_findWay_0 : decode cX9_findWay 0 = .ok (.iconst 0, 1) := by decide +kernel
theorem dX9_findWay_1 : decode cX9_findWay 1 = .ok (.istore_n 1, 1) := by decide +kernel
theorem dX9_findWay_2 : decode cX9_findWay 2 = .ok (.iload_n 1, 1) := by decide +kernel
theorem dX9_findWay_3 : decode cX9_findWay 3 = .ok (.aload_n 0, 1) := by decide +kernel
theorem dX9_findWay_4 : decode cX9_findWay 4 = .ok (.getfield 86, 3) := by decide +kernel
theorem dX9_findWay_7 : decode cX9_findWay 7 = .ok (.if_icmp .ge 58, 3) := by decide +kernel
theorem dX9_findWay_10 : decode cX9_findWay 10 = .ok (.aload_n 0, 1) := by decide +kernel
theorem dX9_findWay_11 : decode cX9_findWay 11 = .ok (.getfield 52, 3) := by decide +kernel
theorem dX9_findWay_14 : decode cX9_findWay 14 = .ok (.iload_n 1, 1) := by decide +kernel
theorem dX9_findWay_15 : decode cX9_findWay 15 = .ok (.aload_n 0, 1) := by decide +kernel
theorem dX9_findWay_16 : decode cX9_findWay 16 = .ok (.getfield 43, 3) := by decide +kernel
theorem dX9_findWay_19 : decode cX9_findWay 19 = .ok (.iload_n 1, 1) := by decide +kernel
theorem dX9_findWay_20 : decode cX9_findWay 20 = .ok (.iaload, 1) := by decide +kernel
theorem dX9_findWay_21 : decode cX9_findWay 21 = .ok (.ifCond .le 7, 3) := by decide +kernel
theorem dX9_findWay_24 : decode cX9_findWay 24 = .ok (.iconst 0, 1) := by decide +kernel
theorem dX9_findWay_25 : decode cX9_findWay 25 = .ok (.goto 5, 3) := by decide +kernel
theorem dX9_findWay_28 : decode cX9_findWay 28 = .ok (.ldc 115, 2) := by decide +kernel
theorem dX9_findWay_30 : decode cX9_findWay 30 = .ok (.iastore, 1) := by decide +kernel
theorem dX9_findWay_31 : decode cX9_findWay 31 = .ok (.aload_n 0, 1) := by decide +kernel
theorem dX9_findWay_32 : decode cX9_findWay 32 = .ok (.getfield 52, 3) := by decide +kernel
theorem dX9_findWay_35 : decode cX9_findWay 35 = .ok (.bipush 10, 2) := by decide +kernel
theorem dX9_findWay_37 : decode cX9_findWay 37 = .ok (.iload_n 1, 1) := by decide +kernel
theorem dX9_findWay_38 : decode cX9_findWay 38 = .ok (.iadd, 1) := by decide +kernel
theorem dX9_findWay_39 : decode cX9_findWay 39 = .ok (.ldc 115, 2) := by decide +kernel
theorem dX9_findWay_41 : decode cX9_findWay 41 = .ok (.iastore, 1) := by decide +kernel
theorem dX9_findWay_42 : decode cX9_findWay 42 = .ok (.aload_n 0, 1) := by decide +kernel
theorem dX9_findWay_43 : decode cX9_findWay 43 = .ok (.getfield 55, 3) := by decide +kernel
theorem dX9_findWay_46 : decode cX9_findWay 46 = .ok (.iload_n 1, 1) := by decide +kernel
theorem dX9_findWay_47 : decode cX9_findWay 47 = .ok (.iconst (-1), 1) := by decide +kernel
theorem dX9_findWay_48 : decode cX9_findWay 48 = .ok (.iastore, 1) := by decide +kernel
theorem dX9_findWay_49 : decode cX9_findWay 49 = .ok (.aload_n 0, 1) := by decide +kernel
theorem dX9_findWay_50 : decode cX9_findWay 50 = .ok (.getfield 55, 3) := by decide +kernel
theorem dX9_findWay_53 : decode cX9_findWay 53 = .ok (.bipush 10, 2) := by decide +kernel
theorem dX9_findWay_55 : decode cX9_findWay 55 = .ok (.iload_n 1, 1) := by decide +kernel
theorem dX9_findWay_56 : decode cX9_findWay 56 = .ok (.iadd, 1) := by decide +kernel
theorem dX9_findWay_57 : decode cX9_findWay 57 = .ok (.iconst (-1), 1) := by decide +kernel
theorem dX9_findWay_58 : decode cX9_findWay 58 = .ok (.iastore, 1) := by decide +kernel
theorem dX9_findWay_59 : decode cX9_findWay 59 = .ok (.iinc 1 1, 3) := by decide +kernel
theorem dX9_findWay_62 : decode cX9_findWay 62 = .ok (.goto (-60), 3) := by decide +kernel
theorem dX9_findWay_65 : decode cX9_findWay 65 = .ok (.iconst 1, 1) := by decide +kernel
theorem dX9_findWay_66 : decode cX9_findWay 66 = .ok (.istore_n 1, 1) := by decide +kernel
theorem dX9_findWay_67 : decode cX9_findWay 67 = .ok (.iload_n 1, 1) := by decide +kernel
theorem dX9_findWay_68 : decode cX9_findWay 68 = .ok (.ifCond .eq 191, 3) := by decide +kernel
theorem dX9_findWay_71 : decode cX9_findWay 71 = .ok (.iconst 0, 1) := by decide +kernel
theorem dX9_findWay_72 : decode cX9_findWay 72 = .ok (.istore_n 1, 1) := by decide +kernel
theorem dX9_findWay_73 : decode cX9_findWay 73 = .ok (.iconst 0, 1) := by decide +kernel
theorem dX9_findWay_74 : decode cX9_findWay 74 = .ok (.istore_n 2, 1) := by decide +kernel
theorem dX9_findWay_75 : decode cX9_findWay 75 = .ok (.iload_n 2, 1) := by decide +kernel
theorem dX9_findWay_76 : decode cX9_findWay 76 = .ok (.aload_n 0, 1) := by decide +kernel
theorem dX9_findWay_77 : decode cX9_findWay 77 = .ok (.getfield 86, 3) := by decide +kernel
theorem dX9_findWay_80 : decode cX9_findWay 80 = .ok (.if_icmp .ge 176, 3) := by decide +kernel
theorem dX9_findWay_83 : decode cX9_findWay 83 = .ok (.iconst 0, 1) := by decide +kernel
theorem dX9_findWay_84 : decode cX9_findWay 84 = .ok (.istore_n 3, 1) := by decide +kernel
theorem dX9_findWay_85 : decode cX9_findWay 85 = .ok (.iload_n 3, 1) := by decide +kernel
theorem dX9_findWay_86 : decode cX9_findWay 86 = .ok (.aload_n 0, 1) := by decide +kernel
theorem dX9_findWay_87 : decode cX9_findWay 87 = .ok (.getfield 86, 3) := by decide +kernel
theorem dX9_findWay_90 : decode cX9_findWay 90 = .ok (.if_icmp .ge 160, 3) := by decide +kernel
theorem dX9_findWay_93 : decode cX9_findWay 93 = .ok (.aload_n 0, 1) := by decide +kernel
theorem dX9_findWay_94 : decode cX9_findWay 94 = .ok (.getfield 37, 3) := by decide +kernel
theorem dX9_findWay_97 : decode cX9_findWay 97 = .ok (.bipush 10, 2) := by decide +kernel
theorem dX9_findWay_99 : decode cX9_findWay 99 = .ok (.iload_n 2, 1) := by decide +kernel
theorem dX9_findWay_100 : decode cX9_findWay 100 = .ok (.imul, 1) := by decide +kernel
theorem dX9_findWay_101 : decode cX9_findWay 101 = .ok (.iload_n 3, 1) := by decide +kernel
theorem dX9_findWay_102 : decode cX9_findWay 102 = .ok (.iadd, 1) := by decide +kernel
theorem dX9_findWay_103 : decode cX9_findWay 103 = .ok (.iaload, 1) := by decide +kernel
theorem dX9_findWay_104 : decode cX9_findWay 104 = .ok (.istore 4, 2) := by decide +kernel
theorem dX9_findWay_106 : decode cX9_findWay 106 = .ok (.aload_n 0, 1) := by decide +kernel
theorem dX9_findWay_107 : decode cX9_findWay 107 = .ok (.getfield 52, 3) := by decide +kernel
theorem dX9_findWay_110 : decode cX9_findWay 110 = .ok (.iload_n 2, 1) := by decide +kernel
theorem dX9_findWay_111 : decode cX9_findWay 111 = .ok (.iaload, 1) := by decide +kernel
theorem dX9_findWay_112 : decode cX9_findWay 112 = .ok (.ldc 115, 2) := by decide +kernel
theorem dX9_findWay_114 : decode cX9_findWay 114 = .ok (.if_icmp .ge 54, 3) := by decide +kernel
theorem dX9_findWay_117 : decode cX9_findWay 117 = .ok (.aload_n 0, 1) := by decide +kernel
theorem dX9_findWay_118 : decode cX9_findWay 118 = .ok (.getfield 52, 3) := by decide +kernel
theorem dX9_findWay_121 : decode cX9_findWay 121 = .ok (.iload_n 2, 1) := by decide +kernel
theorem dX9_findWay_122 : decode cX9_findWay 122 = .ok (.iaload, 1) := by decide +kernel
theorem dX9_findWay_123 : decode cX9_findWay 123 = .ok (.iload 4, 2) := by decide +kernel
theorem dX9_findWay_125 : decode cX9_findWay 125 = .ok (.iadd, 1) := by decide +kernel
theorem dX9_findWay_126 : decode cX9_findWay 126 = .ok (.aload_n 0, 1) := by decide +kernel
theorem dX9_findWay_127 : decode cX9_findWay 127 = .ok (.getfield 52, 3) := by decide +kernel
theorem dX9_findWay_130 : decode cX9_findWay 130 = .ok (.bipush 10, 2) := by decide +kernel
theorem dX9_findWay_132 : decode cX9_findWay 132 = .ok (.iload_n 3, 1) := by decide +kernel
theorem dX9_findWay_133 : decode cX9_findWay 133 = .ok (.iadd, 1) := by decide +kernel
theorem dX9_findWay_134 : decode cX9_findWay 134 = .ok (.iaload, 1) := by decide +kernel
theorem dX9_findWay_135 : decode cX9_findWay 135 = .ok (.if_icmp .ge 33, 3) := by decide +kernel
theorem dX9_findWay_138 : decode cX9_findWay 138 = .ok (.aload_n 0, 1) := by decide +kernel
theorem dX9_findWay_139 : decode cX9_findWay 139 = .ok (.getfield 52, 3) := by decide +kernel
theorem dX9_findWay_142 : decode cX9_findWay 142 = .ok (.bipush 10, 2) := by decide +kernel
theorem dX9_findWay_144 : decode cX9_findWay 144 = .ok (.iload_n 3, 1) := by decide +kernel
theorem dX9_findWay_145 : decode cX9_findWay 145 = .ok (.iadd, 1) := by decide +kernel
theorem dX9_findWay_146 : decode cX9_findWay 146 = .ok (.aload_n 0, 1) := by decide +kernel
theorem dX9_findWay_147 : decode cX9_findWay 147 = .ok (.getfield 52, 3) := by decide +kernel
theorem dX9_findWay_150 : decode cX9_findWay 150 = .ok (.iload_n 2, 1) := by decide +kernel
theorem dX9_findWay_151 : decode cX9_findWay 151 = .ok (.iaload, 1) := by decide +kernel
theorem dX9_findWay_152 : decode cX9_findWay 152 = .ok (.iload 4, 2) := by decide +kernel
theorem dX9_findWay_154 : decode cX9_findWay 154 = .ok (.iadd, 1) := by decide +kernel
theorem dX9_findWay_155 : decode cX9_findWay 155 = .ok (.iastore, 1) := by decide +kernel
theorem dX9_findWay_156 : decode cX9_findWay 156 = .ok (.aload_n 0, 1) := by decide +kernel
theorem dX9_findWay_157 : decode cX9_findWay 157 = .ok (.getfield 55, 3) := by decide +kernel
theorem dX9_findWay_160 : decode cX9_findWay 160 = .ok (.bipush 10, 2) := by decide +kernel
theorem dX9_findWay_162 : decode cX9_findWay 162 = .ok (.iload_n 3, 1) := by decide +kernel
theorem dX9_findWay_163 : decode cX9_findWay 163 = .ok (.iadd, 1) := by decide +kernel
theorem dX9_findWay_164 : decode cX9_findWay 164 = .ok (.iload_n 2, 1) := by decide +kernel
theorem dX9_findWay_165 : decode cX9_findWay 165 = .ok (.iastore, 1) := by decide +kernel
theorem dX9_findWay_166 : decode cX9_findWay 166 = .ok (.iconst 1, 1) := by decide +kernel
theorem dX9_findWay_167 : decode cX9_findWay 167 = .ok (.istore_n 1, 1) := by decide +kernel
theorem dX9_findWay_168 : decode cX9_findWay 168 = .ok (.aload_n 0, 1) := by decide +kernel
theorem dX9_findWay_169 : decode cX9_findWay 169 = .ok (.getfield 40, 3) := by decide +kernel
theorem dX9_findWay_172 : decode cX9_findWay 172 = .ok (.bipush 10, 2) := by decide +kernel
theorem dX9_findWay_174 : decode cX9_findWay 174 = .ok (.iload_n 2, 1) := by decide +kernel
theorem dX9_findWay_175 : decode cX9_findWay 175 = .ok (.imul, 1) := by decide +kernel
theorem dX9_findWay_176 : decode cX9_findWay 176 = .ok (.iload_n 3, 1) := by decide +kernel
theorem dX9_findWay_177 : decode cX9_findWay 177 = .ok (.iadd, 1) := by decide +kernel
theorem dX9_findWay_178 : decode cX9_findWay 178 = .ok (.iaload, 1) := by decide +kernel
theorem dX9_findWay_179 : decode cX9_findWay 179 = .ok (.ifCond .le 65, 3) := by decide +kernel
theorem dX9_findWay_182 : decode cX9_findWay 182 = .ok (.aload_n 0, 1) := by decide +kernel
theorem dX9_findWay_183 : decode cX9_findWay 183 = .ok (.getfield 52, 3) := by decide +kernel
theorem dX9_findWay_186 : decode cX9_findWay 186 = .ok (.bipush 10, 2) := by decide +kernel
theorem dX9_findWay_188 : decode cX9_findWay 188 = .ok (.iload_n 3, 1) := by decide +kernel
theorem dX9_findWay_189 : decode cX9_findWay 189 = .ok (.iadd, 1) := by decide +kernel
theorem dX9_findWay_190 : decode cX9_findWay 190 = .ok (.iaload, 1) := by decide +kernel
theorem dX9_findWay_191 : decode cX9_findWay 191 = .ok (.ldc 115, 2) := by decide +kernel
theorem dX9_findWay_193 : decode cX9_findWay 193 = .ok (.if_icmp .ge 51, 3) := by decide +kernel
theorem dX9_findWay_196 : decode cX9_findWay 196 = .ok (.aload_n 0, 1) := by decide +kernel
theorem dX9_findWay_197 : decode cX9_findWay 197 = .ok (.getfield 52, 3) := by decide +kernel
theorem dX9_findWay_200 : decode cX9_findWay 200 = .ok (.bipush 10, 2) := by decide +kernel
theorem dX9_findWay_202 : decode cX9_findWay 202 = .ok (.iload_n 3, 1) := by decide +kernel
theorem dX9_findWay_203 : decode cX9_findWay 203 = .ok (.iadd, 1) := by decide +kernel
theorem dX9_findWay_204 : decode cX9_findWay 204 = .ok (.iaload, 1) := by decide +kernel
theorem dX9_findWay_205 : decode cX9_findWay 205 = .ok (.iload 4, 2) := by decide +kernel
theorem dX9_findWay_207 : decode cX9_findWay 207 = .ok (.isub, 1) := by decide +kernel
theorem dX9_findWay_208 : decode cX9_findWay 208 = .ok (.aload_n 0, 1) := by decide +kernel
theorem dX9_findWay_209 : decode cX9_findWay 209 = .ok (.getfield 52, 3) := by decide +kernel
theorem dX9_findWay_212 : decode cX9_findWay 212 = .ok (.iload_n 2, 1) := by decide +kernel
theorem dX9_findWay_213 : decode cX9_findWay 213 = .ok (.iaload, 1) := by decide +kernel
theorem dX9_findWay_214 : decode cX9_findWay 214 = .ok (.if_icmp .ge 30, 3) := by decide +kernel
theorem dX9_findWay_217 : decode cX9_findWay 217 = .ok (.aload_n 0, 1) := by decide +kernel
theorem dX9_findWay_218 : decode cX9_findWay 218 = .ok (.getfield 52, 3) := by decide +kernel
theorem dX9_findWay_221 : decode cX9_findWay 221 = .ok (.iload_n 2, 1) := by decide +kernel
theorem dX9_findWay_222 : decode cX9_findWay 222 = .ok (.aload_n 0, 1) := by decide +kernel
theorem dX9_findWay_223 : decode cX9_findWay 223 = .ok (.getfield 52, 3) := by decide +kernel
theorem dX9_findWay_226 : decode cX9_findWay 226 = .ok (.bipush 10, 2) := by decide +kernel
theorem dX9_findWay_228 : decode cX9_findWay 228 = .ok (.iload_n 3, 1) := by decide +kernel
theorem dX9_findWay_229 : decode cX9_findWay 229 = .ok (.iadd, 1) := by decide +kernel
theorem dX9_findWay_230 : decode cX9_findWay 230 = .ok (.iaload, 1) := by decide +kernel
theorem dX9_findWay_231 : decode cX9_findWay 231 = .ok (.iload 4, 2) := by decide +kernel
theorem dX9_findWay_233 : decode cX9_findWay 233 = .ok (.isub, 1) := by decide +kernel
theorem dX9_findWay_234 : decode cX9_findWay 234 = .ok (.iastore, 1) := by decide +kernel
theorem dX9_findWay_235 : decode cX9_findWay 235 = .ok (.aload_n 0, 1) := by decide +kernel
theorem dX9_findWay_236 : decode cX9_findWay 236 = .ok (.getfield 55, 3) := by decide +kernel
theorem dX9_findWay_239 : decode cX9_findWay 239 = .ok (.iload_n 2, 1) := by decide +kernel
theorem dX9_findWay_240 : decode cX9_findWay 240 = .ok (.iload_n 3, 1) := by decide +kernel
theorem dX9_findWay_241 : decode cX9_findWay 241 = .ok (.iastore, 1) := by decide +kernel
theorem dX9_findWay_242 : decode cX9_findWay 242 = .ok (.iconst 1, 1) := by decide +kernel
theorem dX9_findWay_243 : decode cX9_findWay 243 = .ok (.istore_n 1, 1) := by decide +kernel
theorem dX9_findWay_244 : decode cX9_findWay 244 = .ok (.iinc 3 1, 3) := by decide +kernel
theorem dX9_findWay_247 : decode cX9_findWay 247 = .ok (.goto (-162), 3) := by decide +kernel
theorem dX9_findWay_250 : decode cX9_findWay 250 = .ok (.iinc 2 1, 3) := by decide +kernel
theorem dX9_findWay_253 : decode cX9_findWay 253 = .ok (.goto (-178), 3) := by decide +kernel
theorem dX9_findWay_256 : decode cX9_findWay 256 = .ok (.goto (-189), 3) := by decide +kernel
theorem dX9_findWay_259 : decode cX9_findWay 259 = .ok (.iconst (-1), 1) := by decide +kernel
theorem dX9_findWay_260 : decode cX9_findWay 260 = .ok (.istore_n 2, 1) := by decide +kernel
theorem dX9_findWay_261 : decode cX9_findWay 261 = .ok (.iconst 0, 1) := by decide +kernel
theorem dX9_findWay_262 : decode cX9_findWay 262 = .ok (.istore_n 3, 1) := by decide +kernel
theorem dX9_findWay_263 : decode cX9_findWay 263 = .ok (.iload_n 3, 1) := by decide +kernel
theorem dX9_findWay_264 : decode cX9_findWay 264 = .ok (.aload_n 0, 1) := by decide +kernel
theorem dX9_findWay_265 : decode cX9_findWay 265 = .ok (.getfield 86, 3) := by decide +kernel
theorem dX9_findWay_268 : decode cX9_findWay 268 = .ok (.if_icmp .ge 76, 3) := by decide +kernel
theorem dX9_findWay_271 : decode cX9_findWay 271 = .ok (.aload_n 0, 1) := by decide +kernel
theorem dX9_findWay_272 : decode cX9_findWay 272 = .ok (.getfield 46, 3) := by decide +kernel
theorem dX9_findWay_275 : decode cX9_findWay 275 = .ok (.iload_n 3, 1) := by decide +kernel
theorem dX9_findWay_276 : decode cX9_findWay 276 = .ok (.iaload, 1) := by decide +kernel
theorem dX9_findWay_277 : decode cX9_findWay 277 = .ok (.ifCond .le 21, 3) := by decide +kernel
theorem dX9_findWay_280 : decode cX9_findWay 280 = .ok (.aload_n 0, 1) := by decide +kernel
theorem dX9_findWay_281 : decode cX9_findWay 281 = .ok (.getfield 52, 3) := by decide +kernel
theorem dX9_findWay_284 : decode cX9_findWay 284 = .ok (.bipush 10, 2) := by decide +kernel
theorem dX9_findWay_286 : decode cX9_findWay 286 = .ok (.iload_n 3, 1) := by decide +kernel
theorem dX9_findWay_287 : decode cX9_findWay 287 = .ok (.iadd, 1) := by decide +kernel
theorem dX9_findWay_288 : decode cX9_findWay 288 = .ok (.iaload, 1) := by decide +kernel
theorem dX9_findWay_289 : decode cX9_findWay 289 = .ok (.ldc 115, 2) := by decide +kernel
theorem dX9_findWay_291 : decode cX9_findWay 291 = .ok (.if_icmp .ge 7, 3) := by decide +kernel
theorem dX9_findWay_294 : decode cX9_findWay 294 = .ok (.iconst 1, 1) := by decide +kernel
theorem dX9_findWay_295 : decode cX9_findWay 295 = .ok (.goto 4, 3) := by decide +kernel
theorem dX9_findWay_298 : decode cX9_findWay 298 = .ok (.iconst 0, 1) := by decide +kernel
theorem dX9_findWay_299 : decode cX9_findWay 299 = .ok (.istore 4, 2) := by decide +kernel
theorem dX9_findWay_301 : decode cX9_findWay 301 = .ok (.iload 4, 2) := by decide +kernel
theorem dX9_findWay_303 : decode cX9_findWay 303 = .ok (.ifCond .eq 33, 3) := by decide +kernel
theorem dX9_findWay_306 : decode cX9_findWay 306 = .ok (.iload_n 2, 1) := by decide +kernel
theorem dX9_findWay_307 : decode cX9_findWay 307 = .ok (.iconst (-1), 1) := by decide +kernel
theorem dX9_findWay_308 : decode cX9_findWay 308 = .ok (.if_icmp .eq 24, 3) := by decide +kernel
theorem dX9_findWay_311 : decode cX9_findWay 311 = .ok (.aload_n 0, 1) := by decide +kernel
theorem dX9_findWay_312 : decode cX9_findWay 312 = .ok (.getfield 52, 3) := by decide +kernel
theorem dX9_findWay_315 : decode cX9_findWay 315 = .ok (.bipush 10, 2) := by decide +kernel
theorem dX9_findWay_317 : decode cX9_findWay 317 = .ok (.iload_n 3, 1) := by decide +kernel
theorem dX9_findWay_318 : decode cX9_findWay 318 = .ok (.iadd, 1) := by decide +kernel
theorem dX9_findWay_319 : decode cX9_findWay 319 = .ok (.iaload, 1) := by decide +kernel
theorem dX9_findWay_320 : decode cX9_findWay 320 = .ok (.aload_n 0, 1) := by decide +kernel
theorem dX9_findWay_321 : decode cX9_findWay 321 = .ok (.getfield 52, 3) := by decide +kernel
theorem dX9_findWay_324 : decode cX9_findWay 324 = .ok (.bipush 10, 2) := by decide +kernel
theorem dX9_findWay_326 : decode cX9_findWay 326 = .ok (.iload_n 2, 1) := by decide +kernel
theorem dX9_findWay_327 : decode cX9_findWay 327 = .ok (.iadd, 1) := by decide +kernel
theorem dX9_findWay_328 : decode cX9_findWay 328 = .ok (.iaload, 1) := by decide +kernel
theorem dX9_findWay_329 : decode cX9_findWay 329 = .ok (.if_icmp .ge 7, 3) := by decide +kernel
theorem dX9_findWay_332 : decode cX9_findWay 332 = .ok (.iload_n 3, 1) := by decide +kernel
theorem dX9_findWay_333 : decode cX9_findWay 333 = .ok (.goto 4, 3) := by decide +kernel
theorem dX9_findWay_336 : decode cX9_findWay 336 = .ok (.iload_n 2, 1) := by decide +kernel
theorem dX9_findWay_337 : decode cX9_findWay 337 = .ok (.istore_n 2, 1) := by decide +kernel
theorem dX9_findWay_338 : decode cX9_findWay 338 = .ok (.iinc 3 1, 3) := by decide +kernel
theorem dX9_findWay_341 : decode cX9_findWay 341 = .ok (.goto (-78), 3) := by decide +kernel
theorem dX9_findWay_344 : decode cX9_findWay 344 = .ok (.iload_n 2, 1) := by decide +kernel
theorem dX9_findWay_345 : decode cX9_findWay 345 = .ok (.ireturn, 1) := by decide +kernel
theorem dX9_go_0 : decode cX9_go 0 = .ok (.iload_n 2, 1) := by decide +kernel
theorem dX9_go_1 : decode cX9_go 1 = .ok (.aload_n 0, 1) := by decide +kernel
theorem dX9_go_2 : decode cX9_go 2 = .ok (.getfield 46, 3) := by decide +kernel
theorem dX9_go_5 : decode cX9_go 5 = .ok (.iload_n 1, 1) := by decide +kernel
theorem dX9_go_6 : decode cX9_go 6 = .ok (.iaload, 1) := by decide +kernel
theorem dX9_go_7 : decode cX9_go 7 = .ok (.if_icmp .ge 7, 3) := by decide +kernel
theorem dX9_go_10 : decode cX9_go 10 = .ok (.iload_n 2, 1) := by decide +kernel
theorem dX9_go_11 : decode cX9_go 11 = .ok (.goto 9, 3) := by decide +kernel
theorem dX9_go_14 : decode cX9_go 14 = .ok (.aload_n 0, 1) := by decide +kernel
theorem dX9_go_15 : decode cX9_go 15 = .ok (.getfield 46, 3) := by decide +kernel
theorem dX9_go_18 : decode cX9_go 18 = .ok (.iload_n 1, 1) := by decide +kernel
theorem dX9_go_19 : decode cX9_go 19 = .ok (.iaload, 1) := by decide +kernel
theorem dX9_go_20 : decode cX9_go 20 = .ok (.istore_n 3, 1) := by decide +kernel
theorem dX9_go_21 : decode cX9_go 21 = .ok (.iload_n 1, 1) := by decide +kernel
theorem dX9_go_22 : decode cX9_go 22 = .ok (.istore 4, 2) := by decide +kernel
theorem dX9_go_24 : decode cX9_go 24 = .ok (.aload_n 0, 1) := by decide +kernel
theorem dX9_go_25 : decode cX9_go 25 = .ok (.getfield 55, 3) := by decide +kernel
theorem dX9_go_28 : decode cX9_go 28 = .ok (.bipush 10, 2) := by decide +kernel
theorem dX9_go_30 : decode cX9_go 30 = .ok (.iload 4, 2) := by decide +kernel
theorem dX9_go_32 : decode cX9_go 32 = .ok (.iadd, 1) := by decide +kernel
theorem dX9_go_33 : decode cX9_go 33 = .ok (.iaload, 1) := by decide +kernel
theorem dX9_go_34 : decode cX9_go 34 = .ok (.istore 5, 2) := by decide +kernel
theorem dX9_go_36 : decode cX9_go 36 = .ok (.aload_n 0, 1) := by decide +kernel
theorem dX9_go_37 : decode cX9_go 37 = .ok (.getfield 55, 3) := by decide +kernel
theorem dX9_go_40 : decode cX9_go 40 = .ok (.iload 5, 2) := by decide +kernel
theorem dX9_go_42 : decode cX9_go 42 = .ok (.iaload, 1) := by decide +kernel
theorem dX9_go_43 : decode cX9_go 43 = .ok (.iconst (-1), 1) := by decide +kernel
theorem dX9_go_44 : decode cX9_go 44 = .ok (.if_icmp .eq 62, 3) := by decide +kernel
theorem dX9_go_47 : decode cX9_go 47 = .ok (.aload_n 0, 1) := by decide +kernel
theorem dX9_go_48 : decode cX9_go 48 = .ok (.getfield 55, 3) := by decide +kernel
theorem dX9_go_51 : decode cX9_go 51 = .ok (.iload 5, 2) := by decide +kernel
theorem dX9_go_53 : decode cX9_go 53 = .ok (.iaload, 1) := by decide +kernel
theorem dX9_go_54 : decode cX9_go 54 = .ok (.istore 4, 2) := by decide +kernel
theorem dX9_go_56 : decode cX9_go 56 = .ok (.aload_n 0, 1) := by decide +kernel
theorem dX9_go_57 : decode cX9_go 57 = .ok (.getfield 40, 3) := by decide +kernel
theorem dX9_go_60 : decode cX9_go 60 = .ok (.bipush 10, 2) := by decide +kernel
theorem dX9_go_62 : decode cX9_go 62 = .ok (.iload 5, 2) := by decide +kernel
theorem dX9_go_64 : decode cX9_go 64 = .ok (.imul, 1) := by decide +kernel
theorem dX9_go_65 : decode cX9_go 65 = .ok (.iload 4, 2) := by decide +kernel
theorem dX9_go_67 : decode cX9_go 67 = .ok (.iadd, 1) := by decide +kernel
theorem dX9_go_68 : decode cX9_go 68 = .ok (.iaload, 1) := by decide +kernel
theorem dX9_go_69 : decode cX9_go 69 = .ok (.iload_n 3, 1) := by decide +kernel
theorem dX9_go_70 : decode cX9_go 70 = .ok (.if_icmp .ge 19, 3) := by decide +kernel
theorem dX9_go_73 : decode cX9_go 73 = .ok (.aload_n 0, 1) := by decide +kernel
theorem dX9_go_74 : decode cX9_go 74 = .ok (.getfield 40, 3) := by decide +kernel
theorem dX9_go_77 : decode cX9_go 77 = .ok (.bipush 10, 2) := by decide +kernel
theorem dX9_go_79 : decode cX9_go 79 = .ok (.iload 5, 2) := by decide +kernel
theorem dX9_go_81 : decode cX9_go 81 = .ok (.imul, 1) := by decide +kernel
theorem dX9_go_82 : decode cX9_go 82 = .ok (.iload 4, 2) := by decide +kernel
theorem dX9_go_84 : decode cX9_go 84 = .ok (.iadd, 1) := by decide +kernel
theorem dX9_go_85 : decode cX9_go 85 = .ok (.iaload, 1) := by decide +kernel
theorem dX9_go_86 : decode cX9_go 86 = .ok (.goto 4, 3) := by decide +kernel
theorem dX9_go_89 : decode cX9_go 89 = .ok (.iload_n 3, 1) := by decide +kernel
theorem dX9_go_90 : decode cX9_go 90 = .ok (.istore_n 3, 1) := by decide +kernel
theorem dX9_go_91 : decode cX9_go 91 = .ok (.aload_n 0, 1) := by decide +kernel
theorem dX9_go_92 : decode cX9_go 92 = .ok (.getfield 55, 3) := by decide +kernel
theorem dX9_go_95 : decode cX9_go 95 = .ok (.bipush 10, 2) := by decide +kernel
theorem dX9_go_97 : decode cX9_go 97 = .ok (.iload 4, 2) := by decide +kernel
theorem dX9_go_99 : decode cX9_go 99 = .ok (.iadd, 1) := by decide +kernel
theorem dX9_go_100 : decode cX9_go 100 = .ok (.iaload, 1) := by decide +kernel
theorem dX9_go_101 : decode cX9_go 101 = .ok (.istore 5, 2) := by decide +kernel
theorem dX9_go_103 : decode cX9_go 103 = .ok (.goto (-67), 3) := by decide +kernel
theorem dX9_go_106 : decode cX9_go 106 = .ok (.aload_n 0, 1) := by decide +kernel
theorem dX9_go_107 : decode cX9_go 107 = .ok (.getfield 43, 3) := by decide +kernel
theorem dX9_go_110 : decode cX9_go 110 = .ok (.iload 5, 2) := by decide +kernel
theorem dX9_go_112 : decode cX9_go 112 = .ok (.iaload, 1) := by decide +kernel
theorem dX9_go_113 : decode cX9_go 113 = .ok (.iload_n 3, 1) := by decide +kernel
theorem dX9_go_114 : decode cX9_go 114 = .ok (.if_icmp .ge 13, 3) := by decide +kernel
theorem dX9_go_117 : decode cX9_go 117 = .ok (.aload_n 0, 1) := by decide +kernel
theorem dX9_go_118 : decode cX9_go 118 = .ok (.getfield 43, 3) := by decide +kernel
theorem dX9_go_121 : decode cX9_go 121 = .ok (.iload 5, 2) := by decide +kernel
theorem dX9_go_123 : decode cX9_go 123 = .ok (.iaload, 1) := by decide +kernel
theorem dX9_go_124 : decode cX9_go 124 = .ok (.goto 4, 3) := by decide +kernel
theorem dX9_go_127 : decode cX9_go 127 = .ok (.iload_n 3, 1) := by decide +kernel
theorem dX9_go_128 : decode cX9_go 128 = .ok (.istore_n 3, 1) := by decide +kernel
theorem dX9_go_129 : decode cX9_go 129 = .ok (.aload_n 0, 1) := by decide +kernel
theorem dX9_go_130 : decode cX9_go 130 = .ok (.getfield 43, 3) := by decide +kernel
theorem dX9_go_133 : decode cX9_go 133 = .ok (.iload 5, 2) := by decide +kernel
theorem dX9_go_135 : decode cX9_go 135 = .ok (.dup2, 1) := by decide +kernel
theorem dX9_go_136 : decode cX9_go 136 = .ok (.iaload, 1) := by decide +kernel
theorem dX9_go_137 : decode cX9_go 137 = .ok (.iload_n 3, 1) := by decide +kernel
theorem dX9_go_138 : decode cX9_go 138 = .ok (.isub, 1) := by decide +kernel
theorem dX9_go_139 : decode cX9_go 139 = .ok (.iastore, 1) := by decide +kernel
theorem dX9_go_140 : decode cX9_go 140 = .ok (.aload_n 0, 1) := by decide +kernel
theorem dX9_go_141 : decode cX9_go 141 = .ok (.getfield 46, 3) := by decide +kernel
theorem dX9_go_144 : decode cX9_go 144 = .ok (.iload_n 1, 1) := by decide +kernel
theorem dX9_go_145 : decode cX9_go 145 = .ok (.dup2, 1) := by decide +kernel
theorem dX9_go_146 : decode cX9_go 146 = .ok (.iaload, 1) := by decide +kernel
theorem dX9_go_147 : decode cX9_go 147 = .ok (.iload_n 3, 1) := by decide +kernel
theorem dX9_go_148 : decode cX9_go 148 = .ok (.isub, 1) := by decide +kernel
theorem dX9_go_149 : decode cX9_go 149 = .ok (.iastore, 1) := by decide +kernel
theorem dX9_go_150 : decode cX9_go 150 = .ok (.iload_n 1, 1) := by decide +kernel
theorem dX9_go_151 : decode cX9_go 151 = .ok (.istore 4, 2) := by decide +kernel
theorem dX9_go_153 : decode cX9_go 153 = .ok (.aload_n 0, 1) := by decide +kernel
theorem dX9_go_154 : decode cX9_go 154 = .ok (.getfield 55, 3) := by decide +kernel
theorem dX9_go_157 : decode cX9_go 157 = .ok (.bipush 10, 2) := by decide +kernel
theorem dX9_go_159 : decode cX9_go 159 = .ok (.iload 4, 2) := by decide +kernel
theorem dX9_go_161 : decode cX9_go 161 = .ok (.iadd, 1) := by decide +kernel
theorem dX9_go_162 : decode cX9_go 162 = .ok (.iaload, 1) := by decide +kernel
theorem dX9_go_163 : decode cX9_go 163 = .ok (.istore 5, 2) := by decide +kernel
theorem dX9_go_165 : decode cX9_go 165 = .ok (.aload_n 0, 1) := by decide +kernel
theorem dX9_go_166 : decode cX9_go 166 = .ok (.getfield 40, 3) := by decide +kernel
theorem dX9_go_169 : decode cX9_go 169 = .ok (.bipush 10, 2) := by decide +kernel
theorem dX9_go_171 : decode cX9_go 171 = .ok (.iload 5, 2) := by decide +kernel
theorem dX9_go_173 : decode cX9_go 173 = .ok (.imul, 1) := by decide +kernel
theorem dX9_go_174 : decode cX9_go 174 = .ok (.iload 4, 2) := by decide +kernel
theorem dX9_go_176 : decode cX9_go 176 = .ok (.iadd, 1) := by decide +kernel
theorem dX9_go_177 : decode cX9_go 177 = .ok (.dup2, 1) := by decide +kernel
theorem dX9_go_178 : decode cX9_go 178 = .ok (.iaload, 1) := by decide +kernel
theorem dX9_go_179 : decode cX9_go 179 = .ok (.iload_n 3, 1) := by decide +kernel
theorem dX9_go_180 : decode cX9_go 180 = .ok (.iadd, 1) := by decide +kernel
theorem dX9_go_181 : decode cX9_go 181 = .ok (.iastore, 1) := by decide +kernel
theorem dX9_go_182 : decode cX9_go 182 = .ok (.aload_n 0, 1) := by decide +kernel
theorem dX9_go_183 : decode cX9_go 183 = .ok (.getfield 55, 3) := by decide +kernel
theorem dX9_go_186 : decode cX9_go 186 = .ok (.iload 5, 2) := by decide +kernel
theorem dX9_go_188 : decode cX9_go 188 = .ok (.iaload, 1) := by decide +kernel
theorem dX9_go_189 : decode cX9_go 189 = .ok (.iconst (-1), 1) := by decide +kernel
theorem dX9_go_190 : decode cX9_go 190 = .ok (.if_icmp .eq 61, 3) := by decide +kernel
theorem dX9_go_193 : decode cX9_go 193 = .ok (.aload_n 0, 1) := by decide +kernel
theorem dX9_go_194 : decode cX9_go 194 = .ok (.getfield 55, 3) := by decide +kernel
theorem dX9_go_197 : decode cX9_go 197 = .ok (.iload 5, 2) := by decide +kernel
theorem dX9_go_199 : decode cX9_go 199 = .ok (.iaload, 1) := by decide +kernel
theorem dX9_go_200 : decode cX9_go 200 = .ok (.istore 4, 2) := by decide +kernel
theorem dX9_go_202 : decode cX9_go 202 = .ok (.aload_n 0, 1) := by decide +kernel
theorem dX9_go_203 : decode cX9_go 203 = .ok (.getfield 40, 3) := by decide +kernel
theorem dX9_go_206 : decode cX9_go 206 = .ok (.bipush 10, 2) := by decide +kernel
theorem dX9_go_208 : decode cX9_go 208 = .ok (.iload 5, 2) := by decide +kernel
theorem dX9_go_210 : decode cX9_go 210 = .ok (.imul, 1) := by decide +kernel
theorem dX9_go_211 : decode cX9_go 211 = .ok (.iload 4, 2) := by decide +kernel
theorem dX9_go_213 : decode cX9_go 213 = .ok (.iadd, 1) := by decide +kernel
theorem dX9_go_214 : decode cX9_go 214 = .ok (.dup2, 1) := by decide +kernel
theorem dX9_go_215 : decode cX9_go 215 = .ok (.iaload, 1) := by decide +kernel
theorem dX9_go_216 : decode cX9_go 216 = .ok (.iload_n 3, 1) := by decide +kernel
theorem dX9_go_217 : decode cX9_go 217 = .ok (.isub, 1) := by decide +kernel
theorem dX9_go_218 : decode cX9_go 218 = .ok (.iastore, 1) := by decide +kernel
theorem dX9_go_219 : decode cX9_go 219 = .ok (.aload_n 0, 1) := by decide +kernel
theorem dX9_go_220 : decode cX9_go 220 = .ok (.getfield 55, 3) := by decide +kernel
theorem dX9_go_223 : decode cX9_go 223 = .ok (.bipush 10, 2) := by decide +kernel
theorem dX9_go_225 : decode cX9_go 225 = .ok (.iload 4, 2) := by decide +kernel
theorem dX9_go_227 : decode cX9_go 227 = .ok (.iadd, 1) := by decide +kernel
theorem dX9_go_228 : decode cX9_go 228 = .ok (.iaload, 1) := by decide +kernel
theorem dX9_go_229 : decode cX9_go 229 = .ok (.istore 5, 2) := by decide +kernel
theorem dX9_go_231 : decode cX9_go 231 = .ok (.aload_n 0, 1) := by decide +kernel
theorem dX9_go_232 : decode cX9_go 232 = .ok (.getfield 40, 3) := by decide +kernel
theorem dX9_go_235 : decode cX9_go 235 = .ok (.bipush 10, 2) := by decide +kernel
theorem dX9_go_237 : decode cX9_go 237 = .ok (.iload 5, 2) := by decide +kernel
theorem dX9_go_239 : decode cX9_go 239 = .ok (.imul, 1) := by decide +kernel
theorem dX9_go_240 : decode cX9_go 240 = .ok (.iload 4, 2) := by decide +kernel
theorem dX9_go_242 : decode cX9_go 242 = .ok (.iadd, 1) := by decide +kernel
theorem dX9_go_243 : decode cX9_go 243 = .ok (.dup2, 1) := by decide +kernel
theorem dX9_go_244 : decode cX9_go 244 = .ok (.iaload, 1) := by decide +kernel
theorem dX9_go_245 : decode cX9_go 245 = .ok (.iload_n 3, 1) := by decide +kernel
theorem dX9_go_246 : decode cX9_go 246 = .ok (.iadd, 1) := by decide +kernel
theorem dX9_go_247 : decode cX9_go 247 = .ok (.iastore, 1) := by decide +kernel
theorem dX9_go_248 : decode cX9_go 248 = .ok (.goto (-66), 3) := by decide +kernel
theorem dX9_go_251 : decode cX9_go 251 = .ok (.iload_n 3, 1) := by decide +kernel
theorem dX9_go_252 : decode cX9_go 252 = .ok (.ireturn, 1) := by decide +kernel
theorem dX9_costOf_0 : decode cX9_costOf 0 = .ok (.iconst 0, 1) := by decide +kernel
theorem dX9_costOf_1 : decode cX9_costOf 1 = .ok (.istore_n 2, 1) := by decide +kernel
theorem dX9_costOf_2 : decode cX9_costOf 2 = .ok (.iconst 0, 1) := by decide +kernel
theorem dX9_costOf_3 : decode cX9_costOf 3 = .ok (.istore_n 3, 1) := by decide +kernel
theorem dX9_costOf_4 : decode cX9_costOf 4 = .ok (.iload_n 3, 1) := by decide +kernel
theorem dX9_costOf_5 : decode cX9_costOf 5 = .ok (.aload_n 0, 1) := by decide +kernel
theorem dX9_costOf_6 : decode cX9_costOf 6 = .ok (.getfield 86, 3) := by decide +kernel
theorem dX9_costOf_9 : decode cX9_costOf 9 = .ok (.if_icmp .ge 52, 3) := by decide +kernel
theorem dX9_costOf_12 : decode cX9_costOf 12 = .ok (.iconst 0, 1) := by decide +kernel
theorem dX9_costOf_13 : decode cX9_costOf 13 = .ok (.istore 4, 2) := by decide +kernel
theorem dX9_costOf_15 : decode cX9_costOf 15 = .ok (.iload 4, 2) := by decide +kernel
theorem dX9_costOf_17 : decode cX9_costOf 17 = .ok (.aload_n 0, 1) := by decide +kernel
theorem dX9_costOf_18 : decode cX9_costOf 18 = .ok (.getfield 86, 3) := by decide +kernel
theorem dX9_costOf_21 : decode cX9_costOf 21 = .ok (.if_icmp .ge 34, 3) := by decide +kernel
theorem dX9_costOf_24 : decode cX9_costOf 24 = .ok (.iload_n 2, 1) := by decide +kernel
theorem dX9_costOf_25 : decode cX9_costOf 25 = .ok (.aload_n 1, 1) := by decide +kernel
theorem dX9_costOf_26 : decode cX9_costOf 26 = .ok (.bipush 10, 2) := by decide +kernel
theorem dX9_costOf_28 : decode cX9_costOf 28 = .ok (.iload_n 3, 1) := by decide +kernel
theorem dX9_costOf_29 : decode cX9_costOf 29 = .ok (.imul, 1) := by decide +kernel
theorem dX9_costOf_30 : decode cX9_costOf 30 = .ok (.iload 4, 2) := by decide +kernel
theorem dX9_costOf_32 : decode cX9_costOf 32 = .ok (.iadd, 1) := by decide +kernel
theorem dX9_costOf_33 : decode cX9_costOf 33 = .ok (.iaload, 1) := by decide +kernel
theorem dX9_costOf_34 : decode cX9_costOf 34 = .ok (.aload_n 0, 1) := by decide +kernel
theorem dX9_costOf_35 : decode cX9_costOf 35 = .ok (.getfield 37, 3) := by decide +kernel
theorem dX9_costOf_38 : decode cX9_costOf 38 = .ok (.bipush 10, 2) := by decide +kernel
theorem dX9_costOf_40 : decode cX9_costOf 40 = .ok (.iload_n 3, 1) := by decide +kernel
theorem dX9_costOf_41 : decode cX9_costOf 41 = .ok (.imul, 1) := by decide +kernel
theorem dX9_costOf_42 : decode cX9_costOf 42 = .ok (.iload 4, 2) := by decide +kernel
theorem dX9_costOf_44 : decode cX9_costOf 44 = .ok (.iadd, 1) := by decide +kernel
theorem dX9_costOf_45 : decode cX9_costOf 45 = .ok (.iaload, 1) := by decide +kernel
theorem dX9_costOf_46 : decode cX9_costOf 46 = .ok (.imul, 1) := by decide +kernel
theorem dX9_costOf_47 : decode cX9_costOf 47 = .ok (.iadd, 1) := by decide +kernel
theorem dX9_costOf_48 : decode cX9_costOf 48 = .ok (.istore_n 2, 1) := by decide +kernel
theorem dX9_costOf_49 : decode cX9_costOf 49 = .ok (.iinc 4 1, 3) := by decide +kernel
theorem dX9_costOf_52 : decode cX9_costOf 52 = .ok (.goto (-37), 3) := by decide +kernel
theorem dX9_costOf_55 : decode cX9_costOf 55 = .ok (.iinc 3 1, 3) := by decide +kernel
theorem dX9_costOf_58 : decode cX9_costOf 58 = .ok (.goto (-54), 3) := by decide +kernel
theorem dX9_costOf_61 : decode cX9_costOf 61 = .ok (.iload_n 2, 1) := by decide +kernel
theorem dX9_costOf_62 : decode cX9_costOf 62 = .ok (.ireturn, 1) := by decide +kernel
theorem dX9_solve_0 : decode cX9_solve 0 = .ok (.aload_n 0, 1) := by decide +kernel
theorem dX9_solve_1 : decode cX9_solve 1 = .ok (.iload_n 1, 1) := by decide +kernel
theorem dX9_solve_2 : decode cX9_solve 2 = .ok (.iload_n 2, 1) := by decide +kernel
theorem dX9_solve_3 : decode cX9_solve 3 = .ok (.invokevirtual 127, 3) := by decide +kernel
theorem dX9_solve_6 : decode cX9_solve 6 = .ok (.iload_n 3, 1) := by decide +kernel
theorem dX9_solve_7 : decode cX9_solve 7 = .ok (.istore 4, 2) := by decide +kernel
theorem dX9_solve_9 : decode cX9_solve 9 = .ok (.iload 4, 2) := by decide +kernel
theorem dX9_solve_11 : decode cX9_solve 11 = .ok (.ifCond .le 25, 3) := by decide +kernel
theorem dX9_solve_14 : decode cX9_solve 14 = .ok (.aload_n 0, 1) := by decide +kernel
theorem dX9_solve_15 : decode cX9_solve 15 = .ok (.invokevirtual 131, 3) := by decide +kernel
theorem dX9_solve_18 : decode cX9_solve 18 = .ok (.istore 5, 2) := by decide +kernel
theorem dX9_solve_20 : decode cX9_solve 20 = .ok (.iload 4, 2) := by decide +kernel
theorem dX9_solve_22 : decode cX9_solve 22 = .ok (.aload_n 0, 1) := by decide +kernel
theorem dX9_solve_23 : decode cX9_solve 23 = .ok (.iload 5, 2) := by decide +kernel
theorem dX9_solve_25 : decode cX9_solve 25 = .ok (.iload 4, 2) := by decide +kernel
theorem dX9_solve_27 : decode cX9_solve 27 = .ok (.invokevirtual 135, 3) := by decide +kernel
theorem dX9_solve_30 : decode cX9_solve 30 = .ok (.isub, 1) := by decide +kernel
theorem dX9_solve_31 : decode cX9_solve 31 = .ok (.istore 4, 2) := by decide +kernel
theorem dX9_solve_33 : decode cX9_solve 33 = .ok (.goto (-24), 3) := by decide +kernel
theorem dX9_solve_36 : decode cX9_solve 36 = .ok (.aload_n 0, 1) := by decide +kernel
theorem dX9_solve_37 : decode cX9_solve 37 = .ok (.aload_n 0, 1) := by decide +kernel
theorem dX9_solve_38 : decode cX9_solve 38 = .ok (.getfield 40, 3) := by decide +kernel
theorem dX9_solve_41 : decode cX9_solve 41 = .ok (.invokevirtual 138, 3) := by decide +kernel
theorem dX9_solve_44 : decode cX9_solve 44 = .ok (.ireturn, 1) := by decide +kernel
theorem dX9_against_0 : decode cX9_against 0 = .ok (.aload_n 0, 1) := by decide +kernel
theorem dX9_against_1 : decode cX9_against 1 = .ok (.iload_n 1, 1) := by decide +kernel
theorem dX9_against_2 : decode cX9_against 2 = .ok (.invokevirtual 111, 3) := by decide +kernel
theorem dX9_against_5 : decode cX9_against 5 = .ok (.ifCond .eq 11, 3) := by decide +kernel
theorem dX9_against_8 : decode cX9_against 8 = .ok (.aload_n 0, 1) := by decide +kernel
theorem dX9_against_9 : decode cX9_against 9 = .ok (.iload_n 2, 1) := by decide +kernel
theorem dX9_against_10 : decode cX9_against 10 = .ok (.invokevirtual 111, 3) := by decide +kernel
theorem dX9_against_13 : decode cX9_against 13 = .ok (.ifCond .ne 6, 3) := by decide +kernel
theorem dX9_against_16 : decode cX9_against 16 = .ok (.bipush (-2), 2) := by decide +kernel
theorem dX9_against_18 : decode cX9_against 18 = .ok (.ireturn, 1) := by decide +kernel
theorem dX9_against_19 : decode cX9_against 19 = .ok (.aload_n 0, 1) := by decide +kernel
theorem dX9_against_20 : decode cX9_against 20 = .ok (.invokevirtual 142, 3) := by decide +kernel
theorem dX9_against_23 : decode cX9_against 23 = .ok (.ifCond .eq 16, 3) := by decide +kernel
theorem dX9_against_26 : decode cX9_against 26 = .ok (.aload_n 0, 1) := by decide +kernel
theorem dX9_against_27 : decode cX9_against 27 = .ok (.iload_n 1, 1) := by decide +kernel
theorem dX9_against_28 : decode cX9_against 28 = .ok (.invokevirtual 123, 3) := by decide +kernel
theorem dX9_against_31 : decode cX9_against 31 = .ok (.aload_n 0, 1) := by decide +kernel
theorem dX9_against_32 : decode cX9_against 32 = .ok (.iload_n 2, 1) := by decide +kernel
theorem dX9_against_33 : decode cX9_against 33 = .ok (.invokevirtual 123, 3) := by decide +kernel
theorem dX9_against_36 : decode cX9_against 36 = .ok (.if_icmp .eq 8, 3) := by decide +kernel
theorem dX9_against_39 : decode cX9_against 39 = .ok (.bipush (-4), 2) := by decide +kernel
theorem dX9_against_41 : decode cX9_against 41 = .ok (.goto 4, 3) := by decide +kernel
theorem dX9_against_44 : decode cX9_against 44 = .ok (.iconst 0, 1) := by decide +kernel
theorem dX9_against_45 : decode cX9_against 45 = .ok (.ireturn, 1) := by decide +kernel
theorem dX9_least_0 : decode cX9_least 0 = .ok (.aload_n 0, 1) := by decide +kernel
theorem dX9_least_1 : decode cX9_least 1 = .ok (.iload_n 1, 1) := by decide +kernel
theorem dX9_least_2 : decode cX9_least 2 = .ok (.iload_n 2, 1) := by decide +kernel
theorem dX9_least_3 : decode cX9_least 3 = .ok (.invokevirtual 146, 3) := by decide +kernel
theorem dX9_least_6 : decode cX9_least 6 = .ok (.istore_n 3, 1) := by decide +kernel
theorem dX9_least_7 : decode cX9_least 7 = .ok (.iload_n 3, 1) := by decide +kernel
theorem dX9_least_8 : decode cX9_least 8 = .ok (.ifCond .eq 7, 3) := by decide +kernel
theorem dX9_least_11 : decode cX9_least 11 = .ok (.iload_n 3, 1) := by decide +kernel
theorem dX9_least_12 : decode cX9_least 12 = .ok (.goto 14, 3) := by decide +kernel
theorem dX9_least_15 : decode cX9_least 15 = .ok (.aload_n 0, 1) := by decide +kernel
theorem dX9_least_16 : decode cX9_least 16 = .ok (.iload_n 1, 1) := by decide +kernel
theorem dX9_least_17 : decode cX9_least 17 = .ok (.iload_n 2, 1) := by decide +kernel
theorem dX9_least_18 : decode cX9_least 18 = .ok (.aload_n 0, 1) := by decide +kernel
theorem dX9_least_19 : decode cX9_least 19 = .ok (.iload_n 1, 1) := by decide +kernel
theorem dX9_least_20 : decode cX9_least 20 = .ok (.invokevirtual 123, 3) := by decide +kernel
theorem dX9_least_23 : decode cX9_least 23 = .ok (.invokevirtual 149, 3) := by decide +kernel
theorem dX9_least_26 : decode cX9_least 26 = .ok (.ireturn, 1) := by decide +kernel
theorem dX9_findHeights_0 : decode cX9_findHeights 0 = .ok (.iconst 0, 1) := by decide +kernel
theorem dX9_findHeights_1 : decode cX9_findHeights 1 = .ok (.istore_n 1, 1) := by decide +kernel
theorem dX9_findHeights_2 : decode cX9_findHeights 2 = .ok (.iload_n 1, 1) := by decide +kernel
theorem dX9_findHeights_3 : decode cX9_findHeights 3 = .ok (.aload_n 0, 1) := by decide +kernel
theorem dX9_findHeights_4 : decode cX9_findHeights 4 = .ok (.getfield 86, 3) := by decide +kernel
theorem dX9_findHeights_7 : decode cX9_findHeights 7 = .ok (.if_icmp .ge 25, 3) := by decide +kernel
theorem dX9_findHeights_10 : decode cX9_findHeights 10 = .ok (.aload_n 0, 1) := by decide +kernel
theorem dX9_findHeights_11 : decode cX9_findHeights 11 = .ok (.getfield 49, 3) := by decide +kernel
theorem dX9_findHeights_14 : decode cX9_findHeights 14 = .ok (.iload_n 1, 1) := by decide +kernel
theorem dX9_findHeights_15 : decode cX9_findHeights 15 = .ok (.iload_n 1, 1) := by decide +kernel
theorem dX9_findHeights_16 : decode cX9_findHeights 16 = .ok (.ifCond .ne 7, 3) := by decide +kernel
theorem dX9_findHeights_19 : decode cX9_findHeights 19 = .ok (.iconst 0, 1) := by decide +kernel
theorem dX9_findHeights_20 : decode cX9_findHeights 20 = .ok (.goto 5, 3) := by decide +kernel
theorem dX9_findHeights_23 : decode cX9_findHeights 23 = .ok (.ldc 115, 2) := by decide +kernel
theorem dX9_findHeights_25 : decode cX9_findHeights 25 = .ok (.iastore, 1) := by decide +kernel
theorem dX9_findHeights_26 : decode cX9_findHeights 26 = .ok (.iinc 1 1, 3) := by decide +kernel
theorem dX9_findHeights_29 : decode cX9_findHeights 29 = .ok (.goto (-27), 3) := by decide +kernel
theorem dX9_findHeights_32 : decode cX9_findHeights 32 = .ok (.iconst 1, 1) := by decide +kernel
theorem dX9_findHeights_33 : decode cX9_findHeights 33 = .ok (.istore_n 1, 1) := by decide +kernel
theorem dX9_findHeights_34 : decode cX9_findHeights 34 = .ok (.iload_n 1, 1) := by decide +kernel
theorem dX9_findHeights_35 : decode cX9_findHeights 35 = .ok (.ifCond .eq 159, 3) := by decide +kernel
theorem dX9_findHeights_38 : decode cX9_findHeights 38 = .ok (.iconst 0, 1) := by decide +kernel
theorem dX9_findHeights_39 : decode cX9_findHeights 39 = .ok (.istore_n 1, 1) := by decide +kernel
theorem dX9_findHeights_40 : decode cX9_findHeights 40 = .ok (.iconst 0, 1) := by decide +kernel
theorem dX9_findHeights_41 : decode cX9_findHeights 41 = .ok (.istore_n 2, 1) := by decide +kernel
theorem dX9_findHeights_42 : decode cX9_findHeights 42 = .ok (.iload_n 2, 1) := by decide +kernel
theorem dX9_findHeights_43 : decode cX9_findHeights 43 = .ok (.aload_n 0, 1) := by decide +kernel
theorem dX9_findHeights_44 : decode cX9_findHeights 44 = .ok (.getfield 86, 3) := by decide +kernel
theorem dX9_findHeights_47 : decode cX9_findHeights 47 = .ok (.if_icmp .ge 144, 3) := by decide +kernel
theorem dX9_findHeights_50 : decode cX9_findHeights 50 = .ok (.iconst 0, 1) := by decide +kernel
theorem dX9_findHeights_51 : decode cX9_findHeights 51 = .ok (.istore_n 3, 1) := by decide +kernel
theorem dX9_findHeights_52 : decode cX9_findHeights 52 = .ok (.iload_n 3, 1) := by decide +kernel
theorem dX9_findHeights_53 : decode cX9_findHeights 53 = .ok (.aload_n 0, 1) := by decide +kernel
theorem dX9_findHeights_54 : decode cX9_findHeights 54 = .ok (.getfield 86, 3) := by decide +kernel
theorem dX9_findHeights_57 : decode cX9_findHeights 57 = .ok (.if_icmp .ge 128, 3) := by decide +kernel
theorem dX9_findHeights_60 : decode cX9_findHeights 60 = .ok (.aload_n 0, 1) := by decide +kernel
theorem dX9_findHeights_61 : decode cX9_findHeights 61 = .ok (.getfield 37, 3) := by decide +kernel
theorem dX9_findHeights_64 : decode cX9_findHeights 64 = .ok (.bipush 10, 2) := by decide +kernel
theorem dX9_findHeights_66 : decode cX9_findHeights 66 = .ok (.iload_n 2, 1) := by decide +kernel
theorem dX9_findHeights_67 : decode cX9_findHeights 67 = .ok (.imul, 1) := by decide +kernel
theorem dX9_findHeights_68 : decode cX9_findHeights 68 = .ok (.iload_n 3, 1) := by decide +kernel
theorem dX9_findHeights_69 : decode cX9_findHeights 69 = .ok (.iadd, 1) := by decide +kernel
theorem dX9_findHeights_70 : decode cX9_findHeights 70 = .ok (.iaload, 1) := by decide +kernel
theorem dX9_findHeights_71 : decode cX9_findHeights 71 = .ok (.istore 4, 2) := by decide +kernel
theorem dX9_findHeights_73 : decode cX9_findHeights 73 = .ok (.aload_n 0, 1) := by decide +kernel
theorem dX9_findHeights_74 : decode cX9_findHeights 74 = .ok (.getfield 49, 3) := by decide +kernel
theorem dX9_findHeights_77 : decode cX9_findHeights 77 = .ok (.iload_n 3, 1) := by decide +kernel
theorem dX9_findHeights_78 : decode cX9_findHeights 78 = .ok (.iaload, 1) := by decide +kernel
theorem dX9_findHeights_79 : decode cX9_findHeights 79 = .ok (.ldc 115, 2) := by decide +kernel
theorem dX9_findHeights_81 : decode cX9_findHeights 81 = .ok (.if_icmp .ge 38, 3) := by decide +kernel
theorem dX9_findHeights_84 : decode cX9_findHeights 84 = .ok (.aload_n 0, 1) := by decide +kernel
theorem dX9_findHeights_85 : decode cX9_findHeights 85 = .ok (.getfield 49, 3) := by decide +kernel
theorem dX9_findHeights_88 : decode cX9_findHeights 88 = .ok (.iload_n 3, 1) := by decide +kernel
theorem dX9_findHeights_89 : decode cX9_findHeights 89 = .ok (.iaload, 1) := by decide +kernel
theorem dX9_findHeights_90 : decode cX9_findHeights 90 = .ok (.iload 4, 2) := by decide +kernel
theorem dX9_findHeights_92 : decode cX9_findHeights 92 = .ok (.iadd, 1) := by decide +kernel
theorem dX9_findHeights_93 : decode cX9_findHeights 93 = .ok (.aload_n 0, 1) := by decide +kernel
theorem dX9_findHeights_94 : decode cX9_findHeights 94 = .ok (.getfield 49, 3) := by decide +kernel
theorem dX9_findHeights_97 : decode cX9_findHeights 97 = .ok (.iload_n 2, 1) := by decide +kernel
theorem dX9_findHeights_98 : decode cX9_findHeights 98 = .ok (.iaload, 1) := by decide +kernel
theorem dX9_findHeights_99 : decode cX9_findHeights 99 = .ok (.if_icmp .ge 20, 3) := by decide +kernel
theorem dX9_findHeights_102 : decode cX9_findHeights 102 = .ok (.aload_n 0, 1) := by decide +kernel
theorem dX9_findHeights_103 : decode cX9_findHeights 103 = .ok (.getfield 49, 3) := by decide +kernel
theorem dX9_findHeights_106 : decode cX9_findHeights 106 = .ok (.iload_n 2, 1) := by decide +kernel
theorem dX9_findHeights_107 : decode cX9_findHeights 107 = .ok (.aload_n 0, 1) := by decide +kernel
theorem dX9_findHeights_108 : decode cX9_findHeights 108 = .ok (.getfield 49, 3) := by decide +kernel
theorem dX9_findHeights_111 : decode cX9_findHeights 111 = .ok (.iload_n 3, 1) := by decide +kernel
theorem dX9_findHeights_112 : decode cX9_findHeights 112 = .ok (.iaload, 1) := by decide +kernel
theorem dX9_findHeights_113 : decode cX9_findHeights 113 = .ok (.iload 4, 2) := by decide +kernel
theorem dX9_findHeights_115 : decode cX9_findHeights 115 = .ok (.iadd, 1) := by decide +kernel
theorem dX9_findHeights_116 : decode cX9_findHeights 116 = .ok (.iastore, 1) := by decide +kernel
theorem dX9_findHeights_117 : decode cX9_findHeights 117 = .ok (.iconst 1, 1) := by decide +kernel
theorem dX9_findHeights_118 : decode cX9_findHeights 118 = .ok (.istore_n 1, 1) := by decide +kernel
theorem dX9_findHeights_119 : decode cX9_findHeights 119 = .ok (.aload_n 0, 1) := by decide +kernel
theorem dX9_findHeights_120 : decode cX9_findHeights 120 = .ok (.getfield 40, 3) := by decide +kernel
theorem dX9_findHeights_123 : decode cX9_findHeights 123 = .ok (.bipush 10, 2) := by decide +kernel
theorem dX9_findHeights_125 : decode cX9_findHeights 125 = .ok (.iload_n 2, 1) := by decide +kernel
theorem dX9_findHeights_126 : decode cX9_findHeights 126 = .ok (.imul, 1) := by decide +kernel
theorem dX9_findHeights_127 : decode cX9_findHeights 127 = .ok (.iload_n 3, 1) := by decide +kernel
theorem dX9_findHeights_128 : decode cX9_findHeights 128 = .ok (.iadd, 1) := by decide +kernel
theorem dX9_findHeights_129 : decode cX9_findHeights 129 = .ok (.iaload, 1) := by decide +kernel
theorem dX9_findHeights_130 : decode cX9_findHeights 130 = .ok (.ifCond .le 49, 3) := by decide +kernel
theorem dX9_findHeights_133 : decode cX9_findHeights 133 = .ok (.aload_n 0, 1) := by decide +kernel
theorem dX9_findHeights_134 : decode cX9_findHeights 134 = .ok (.getfield 49, 3) := by decide +kernel
theorem dX9_findHeights_137 : decode cX9_findHeights 137 = .ok (.iload_n 2, 1) := by decide +kernel
theorem dX9_findHeights_138 : decode cX9_findHeights 138 = .ok (.iaload, 1) := by decide +kernel
theorem dX9_findHeights_139 : decode cX9_findHeights 139 = .ok (.ldc 115, 2) := by decide +kernel
theorem dX9_findHeights_141 : decode cX9_findHeights 141 = .ok (.if_icmp .ge 38, 3) := by decide +kernel
theorem dX9_findHeights_144 : decode cX9_findHeights 144 = .ok (.aload_n 0, 1) := by decide +kernel
theorem dX9_findHeights_145 : decode cX9_findHeights 145 = .ok (.getfield 49, 3) := by decide +kernel
theorem dX9_findHeights_148 : decode cX9_findHeights 148 = .ok (.iload_n 2, 1) := by decide +kernel
theorem dX9_findHeights_149 : decode cX9_findHeights 149 = .ok (.iaload, 1) := by decide +kernel
theorem dX9_findHeights_150 : decode cX9_findHeights 150 = .ok (.iload 4, 2) := by decide +kernel
theorem dX9_findHeights_152 : decode cX9_findHeights 152 = .ok (.isub, 1) := by decide +kernel
theorem dX9_findHeights_153 : decode cX9_findHeights 153 = .ok (.aload_n 0, 1) := by decide +kernel
theorem dX9_findHeights_154 : decode cX9_findHeights 154 = .ok (.getfield 49, 3) := by decide +kernel
theorem dX9_findHeights_157 : decode cX9_findHeights 157 = .ok (.iload_n 3, 1) := by decide +kernel
theorem dX9_findHeights_158 : decode cX9_findHeights 158 = .ok (.iaload, 1) := by decide +kernel
theorem dX9_findHeights_159 : decode cX9_findHeights 159 = .ok (.if_icmp .ge 20, 3) := by decide +kernel
theorem dX9_findHeights_162 : decode cX9_findHeights 162 = .ok (.aload_n 0, 1) := by decide +kernel
theorem dX9_findHeights_163 : decode cX9_findHeights 163 = .ok (.getfield 49, 3) := by decide +kernel
theorem dX9_findHeights_166 : decode cX9_findHeights 166 = .ok (.iload_n 3, 1) := by decide +kernel
theorem dX9_findHeights_167 : decode cX9_findHeights 167 = .ok (.aload_n 0, 1) := by decide +kernel
theorem dX9_findHeights_168 : decode cX9_findHeights 168 = .ok (.getfield 49, 3) := by decide +kernel
theorem dX9_findHeights_171 : decode cX9_findHeights 171 = .ok (.iload_n 2, 1) := by decide +kernel
theorem dX9_findHeights_172 : decode cX9_findHeights 172 = .ok (.iaload, 1) := by decide +kernel
theorem dX9_findHeights_173 : decode cX9_findHeights 173 = .ok (.iload 4, 2) := by decide +kernel
theorem dX9_findHeights_175 : decode cX9_findHeights 175 = .ok (.isub, 1) := by decide +kernel
theorem dX9_findHeights_176 : decode cX9_findHeights 176 = .ok (.iastore, 1) := by decide +kernel
theorem dX9_findHeights_177 : decode cX9_findHeights 177 = .ok (.iconst 1, 1) := by decide +kernel
theorem dX9_findHeights_178 : decode cX9_findHeights 178 = .ok (.istore_n 1, 1) := by decide +kernel
theorem dX9_findHeights_179 : decode cX9_findHeights 179 = .ok (.iinc 3 1, 3) := by decide +kernel
theorem dX9_findHeights_182 : decode cX9_findHeights 182 = .ok (.goto (-130), 3) := by decide +kernel
theorem dX9_findHeights_185 : decode cX9_findHeights 185 = .ok (.iinc 2 1, 3) := by decide +kernel
theorem dX9_findHeights_188 : decode cX9_findHeights 188 = .ok (.goto (-146), 3) := by decide +kernel
theorem dX9_findHeights_191 : decode cX9_findHeights 191 = .ok (.goto (-157), 3) := by decide +kernel
theorem dX9_findHeights_194 : decode cX9_findHeights 194 = .ok (.return_, 1) := by decide +kernel
theorem dX9_isTight_0 : decode cX9_isTight 0 = .ok (.aload_n 0, 1) := by decide +kernel
theorem dX9_isTight_1 : decode cX9_isTight 1 = .ok (.getfield 49, 3) := by decide +kernel
theorem dX9_isTight_4 : decode cX9_isTight 4 = .ok (.iload_n 1, 1) := by decide +kernel
theorem dX9_isTight_5 : decode cX9_isTight 5 = .ok (.iaload, 1) := by decide +kernel
theorem dX9_isTight_6 : decode cX9_isTight 6 = .ok (.aload_n 0, 1) := by decide +kernel
theorem dX9_isTight_7 : decode cX9_isTight 7 = .ok (.getfield 49, 3) := by decide +kernel
theorem dX9_isTight_10 : decode cX9_isTight 10 = .ok (.iload_n 2, 1) := by decide +kernel
theorem dX9_isTight_11 : decode cX9_isTight 11 = .ok (.iaload, 1) := by decide +kernel
theorem dX9_isTight_12 : decode cX9_isTight 12 = .ok (.isub, 1) := by decide +kernel
theorem dX9_isTight_13 : decode cX9_isTight 13 = .ok (.aload_n 0, 1) := by decide +kernel
theorem dX9_isTight_14 : decode cX9_isTight 14 = .ok (.getfield 37, 3) := by decide +kernel
theorem dX9_isTight_17 : decode cX9_isTight 17 = .ok (.bipush 10, 2) := by decide +kernel
theorem dX9_isTight_19 : decode cX9_isTight 19 = .ok (.iload_n 1, 1) := by decide +kernel
theorem dX9_isTight_20 : decode cX9_isTight 20 = .ok (.imul, 1) := by decide +kernel
theorem dX9_isTight_21 : decode cX9_isTight 21 = .ok (.iload_n 2, 1) := by decide +kernel
theorem dX9_isTight_22 : decode cX9_isTight 22 = .ok (.iadd, 1) := by decide +kernel
theorem dX9_isTight_23 : decode cX9_isTight 23 = .ok (.iaload, 1) := by decide +kernel
theorem dX9_isTight_24 : decode cX9_isTight 24 = .ok (.if_icmp .ne 7, 3) := by decide +kernel
theorem dX9_isTight_27 : decode cX9_isTight 27 = .ok (.iconst 1, 1) := by decide +kernel
theorem dX9_isTight_28 : decode cX9_isTight 28 = .ok (.goto 4, 3) := by decide +kernel
theorem dX9_isTight_31 : decode cX9_isTight 31 = .ok (.iconst 0, 1) := by decide +kernel
theorem dX9_isTight_32 : decode cX9_isTight 32 = .ok (.ireturn, 1) := by decide +kernel
theorem dX9_canTurn_0 : decode cX9_canTurn 0 = .ok (.iconst 0, 1) := by decide +kernel
theorem dX9_canTurn_1 : decode cX9_canTurn 1 = .ok (.istore_n 3, 1) := by decide +kernel
theorem dX9_canTurn_2 : decode cX9_canTurn 2 = .ok (.iload_n 3, 1) := by decide +kernel
theorem dX9_canTurn_3 : decode cX9_canTurn 3 = .ok (.bipush 20, 2) := by decide +kernel
theorem dX9_canTurn_5 : decode cX9_canTurn 5 = .ok (.if_icmp .ge 23, 3) := by decide +kernel
theorem dX9_canTurn_8 : decode cX9_canTurn 8 = .ok (.aload_n 0, 1) := by decide +kernel
theorem dX9_canTurn_9 : decode cX9_canTurn 9 = .ok (.getfield 62, 3) := by decide +kernel
theorem dX9_canTurn_12 : decode cX9_canTurn 12 = .ok (.iload_n 3, 1) := by decide +kernel
theorem dX9_canTurn_13 : decode cX9_canTurn 13 = .ok (.iconst 0, 1) := by decide +kernel
theorem dX9_canTurn_14 : decode cX9_canTurn 14 = .ok (.bastore, 1) := by decide +kernel
theorem dX9_canTurn_15 : decode cX9_canTurn 15 = .ok (.aload_n 0, 1) := by decide +kernel
theorem dX9_canTurn_16 : decode cX9_canTurn 16 = .ok (.getfield 55, 3) := by decide +kernel
theorem dX9_canTurn_19 : decode cX9_canTurn 19 = .ok (.iload_n 3, 1) := by decide +kernel
theorem dX9_canTurn_20 : decode cX9_canTurn 20 = .ok (.iconst (-1), 1) := by decide +kernel
theorem dX9_canTurn_21 : decode cX9_canTurn 21 = .ok (.iastore, 1) := by decide +kernel
theorem dX9_canTurn_22 : decode cX9_canTurn 22 = .ok (.iinc 3 1, 3) := by decide +kernel
theorem dX9_canTurn_25 : decode cX9_canTurn 25 = .ok (.goto (-23), 3) := by decide +kernel
theorem dX9_canTurn_28 : decode cX9_canTurn 28 = .ok (.iconst 0, 1) := by decide +kernel
theorem dX9_canTurn_29 : decode cX9_canTurn 29 = .ok (.istore_n 3, 1) := by decide +kernel
theorem dX9_canTurn_30 : decode cX9_canTurn 30 = .ok (.iconst 1, 1) := by decide +kernel
theorem dX9_canTurn_31 : decode cX9_canTurn 31 = .ok (.istore 4, 2) := by decide +kernel
theorem dX9_canTurn_33 : decode cX9_canTurn 33 = .ok (.aload_n 0, 1) := by decide +kernel
theorem dX9_canTurn_34 : decode cX9_canTurn 34 = .ok (.getfield 65, 3) := by decide +kernel
theorem dX9_canTurn_37 : decode cX9_canTurn 37 = .ok (.iconst 0, 1) := by decide +kernel
theorem dX9_canTurn_38 : decode cX9_canTurn 38 = .ok (.bipush 10, 2) := by decide +kernel
theorem dX9_canTurn_40 : decode cX9_canTurn 40 = .ok (.iload_n 2, 1) := by decide +kernel
theorem dX9_canTurn_41 : decode cX9_canTurn 41 = .ok (.iadd, 1) := by decide +kernel
theorem dX9_canTurn_42 : decode cX9_canTurn 42 = .ok (.iastore, 1) := by decide +kernel
theorem dX9_canTurn_43 : decode cX9_canTurn 43 = .ok (.aload_n 0, 1) := by decide +kernel
theorem dX9_canTurn_44 : decode cX9_canTurn 44 = .ok (.getfield 62, 3) := by decide +kernel
theorem dX9_canTurn_47 : decode cX9_canTurn 47 = .ok (.bipush 10, 2) := by decide +kernel
theorem dX9_canTurn_49 : decode cX9_canTurn 49 = .ok (.iload_n 2, 1) := by decide +kernel
theorem dX9_canTurn_50 : decode cX9_canTurn 50 = .ok (.iadd, 1) := by decide +kernel
theorem dX9_canTurn_51 : decode cX9_canTurn 51 = .ok (.iconst 1, 1) := by decide +kernel
theorem dX9_canTurn_52 : decode cX9_canTurn 52 = .ok (.bastore, 1) := by decide +kernel
theorem dX9_canTurn_53 : decode cX9_canTurn 53 = .ok (.iload_n 3, 1) := by decide +kernel
theorem dX9_canTurn_54 : decode cX9_canTurn 54 = .ok (.iload 4, 2) := by decide +kernel
theorem dX9_canTurn_56 : decode cX9_canTurn 56 = .ok (.if_icmp .ge 197, 3) := by decide +kernel
theorem dX9_canTurn_59 : decode cX9_canTurn 59 = .ok (.aload_n 0, 1) := by decide +kernel
theorem dX9_canTurn_60 : decode cX9_canTurn 60 = .ok (.getfield 62, 3) := by decide +kernel
theorem dX9_canTurn_63 : decode cX9_canTurn 63 = .ok (.iload_n 1, 1) := by decide +kernel
theorem dX9_canTurn_64 : decode cX9_canTurn 64 = .ok (.baload, 1) := by decide +kernel
theorem dX9_canTurn_65 : decode cX9_canTurn 65 = .ok (.ifCond .ne 188, 3) := by decide +kernel
theorem dX9_canTurn_68 : decode cX9_canTurn 68 = .ok (.aload_n 0, 1) := by decide +kernel
theorem dX9_canTurn_69 : decode cX9_canTurn 69 = .ok (.getfield 65, 3) := by decide +kernel
theorem dX9_canTurn_72 : decode cX9_canTurn 72 = .ok (.iload_n 3, 1) := by decide +kernel
theorem dX9_canTurn_73 : decode cX9_canTurn 73 = .ok (.iaload, 1) := by decide +kernel
theorem dX9_canTurn_74 : decode cX9_canTurn 74 = .ok (.istore 5, 2) := by decide +kernel
theorem dX9_canTurn_76 : decode cX9_canTurn 76 = .ok (.iinc 3 1, 3) := by decide +kernel
theorem dX9_canTurn_79 : decode cX9_canTurn 79 = .ok (.iconst 0, 1) := by decide +kernel
theorem dX9_canTurn_80 : decode cX9_canTurn 80 = .ok (.istore 6, 2) := by decide +kernel
theorem dX9_canTurn_82 : decode cX9_canTurn 82 = .ok (.iload 6, 2) := by decide +kernel
theorem dX9_canTurn_84 : decode cX9_canTurn 84 = .ok (.aload_n 0, 1) := by decide +kernel
theorem dX9_canTurn_85 : decode cX9_canTurn 85 = .ok (.getfield 86, 3) := by decide +kernel
theorem dX9_canTurn_88 : decode cX9_canTurn 88 = .ok (.if_icmp .ge 162, 3) := by decide +kernel
theorem dX9_canTurn_91 : decode cX9_canTurn 91 = .ok (.iload 5, 2) := by decide +kernel
theorem dX9_canTurn_93 : decode cX9_canTurn 93 = .ok (.bipush 10, 2) := by decide +kernel
theorem dX9_canTurn_95 : decode cX9_canTurn 95 = .ok (.if_icmp .lt 17, 3) := by decide +kernel
theorem dX9_canTurn_98 : decode cX9_canTurn 98 = .ok (.bipush 10, 2) := by decide +kernel
theorem dX9_canTurn_100 : decode cX9_canTurn 100 = .ok (.iload 6, 2) := by decide +kernel
theorem dX9_canTurn_102 : decode cX9_canTurn 102 = .ok (.imul, 1) := by decide +kernel
theorem dX9_canTurn_103 : decode cX9_canTurn 103 = .ok (.iload 5, 2) := by decide +kernel
theorem dX9_canTurn_105 : decode cX9_canTurn 105 = .ok (.iadd, 1) := by decide +kernel
theorem dX9_canTurn_106 : decode cX9_canTurn 106 = .ok (.bipush 10, 2) := by decide +kernel
theorem dX9_canTurn_108 : decode cX9_canTurn 108 = .ok (.isub, 1) := by decide +kernel
theorem dX9_canTurn_109 : decode cX9_canTurn 109 = .ok (.goto 11, 3) := by decide +kernel
theorem dX9_canTurn_112 : decode cX9_canTurn 112 = .ok (.bipush 10, 2) := by decide +kernel
theorem dX9_canTurn_114 : decode cX9_canTurn 114 = .ok (.iload 5, 2) := by decide +kernel
theorem dX9_canTurn_116 : decode cX9_canTurn 116 = .ok (.imul, 1) := by decide +kernel
theorem dX9_canTurn_117 : decode cX9_canTurn 117 = .ok (.iload 6, 2) := by decide +kernel
theorem dX9_canTurn_119 : decode cX9_canTurn 119 = .ok (.iadd, 1) := by decide +kernel
theorem dX9_canTurn_120 : decode cX9_canTurn 120 = .ok (.istore 7, 2) := by decide +kernel
theorem dX9_canTurn_122 : decode cX9_canTurn 122 = .ok (.iload 5, 2) := by decide +kernel
theorem dX9_canTurn_124 : decode cX9_canTurn 124 = .ok (.bipush 10, 2) := by decide +kernel
theorem dX9_canTurn_126 : decode cX9_canTurn 126 = .ok (.if_icmp .lt 8, 3) := by decide +kernel
theorem dX9_canTurn_129 : decode cX9_canTurn 129 = .ok (.iload 6, 2) := by decide +kernel
theorem dX9_canTurn_131 : decode cX9_canTurn 131 = .ok (.goto 8, 3) := by decide +kernel
theorem dX9_canTurn_134 : decode cX9_canTurn 134 = .ok (.bipush 10, 2) := by decide +kernel
theorem dX9_canTurn_136 : decode cX9_canTurn 136 = .ok (.iload 6, 2) := by decide +kernel
theorem dX9_canTurn_138 : decode cX9_canTurn 138 = .ok (.iadd, 1) := by decide +kernel
theorem dX9_canTurn_139 : decode cX9_canTurn 139 = .ok (.istore 8, 2) := by decide +kernel
theorem dX9_canTurn_141 : decode cX9_canTurn 141 = .ok (.aload_n 0, 1) := by decide +kernel
theorem dX9_canTurn_142 : decode cX9_canTurn 142 = .ok (.getfield 58, 3) := by decide +kernel
theorem dX9_canTurn_145 : decode cX9_canTurn 145 = .ok (.iload 7, 2) := by decide +kernel
theorem dX9_canTurn_147 : decode cX9_canTurn 147 = .ok (.baload, 1) := by decide +kernel
theorem dX9_canTurn_148 : decode cX9_canTurn 148 = .ok (.ifCond .ne 49, 3) := by decide +kernel
theorem dX9_canTurn_151 : decode cX9_canTurn 151 = .ok (.iload 7, 2) := by decide +kernel
theorem dX9_canTurn_153 : decode cX9_canTurn 153 = .ok (.bipush 10, 2) := by decide +kernel
theorem dX9_canTurn_155 : decode cX9_canTurn 155 = .ok (.iload_n 1, 1) := by decide +kernel
theorem dX9_canTurn_156 : decode cX9_canTurn 156 = .ok (.imul, 1) := by decide +kernel
theorem dX9_canTurn_157 : decode cX9_canTurn 157 = .ok (.iload_n 2, 1) := by decide +kernel
theorem dX9_canTurn_158 : decode cX9_canTurn 158 = .ok (.iadd, 1) := by decide +kernel
theorem dX9_canTurn_159 : decode cX9_canTurn 159 = .ok (.if_icmp .eq 38, 3) := by decide +kernel
theorem dX9_canTurn_162 : decode cX9_canTurn 162 = .ok (.iload 5, 2) := by decide +kernel
theorem dX9_canTurn_164 : decode cX9_canTurn 164 = .ok (.bipush 10, 2) := by decide +kernel
theorem dX9_canTurn_166 : decode cX9_canTurn 166 = .ok (.if_icmp .lt 16, 3) := by decide +kernel
theorem dX9_canTurn_169 : decode cX9_canTurn 169 = .ok (.aload_n 0, 1) := by decide +kernel
theorem dX9_canTurn_170 : decode cX9_canTurn 170 = .ok (.getfield 40, 3) := by decide +kernel
theorem dX9_canTurn_173 : decode cX9_canTurn 173 = .ok (.iload 7, 2) := by decide +kernel
theorem dX9_canTurn_175 : decode cX9_canTurn 175 = .ok (.iaload, 1) := by decide +kernel
theorem dX9_canTurn_176 : decode cX9_canTurn 176 = .ok (.ifCond .le 21, 3) := by decide +kernel
theorem dX9_canTurn_179 : decode cX9_canTurn 179 = .ok (.goto 14, 3) := by decide +kernel
theorem dX9_canTurn_182 : decode cX9_canTurn 182 = .ok (.aload_n 0, 1) := by decide +kernel
theorem dX9_canTurn_183 : decode cX9_canTurn 183 = .ok (.iload 5, 2) := by decide +kernel
theorem dX9_canTurn_185 : decode cX9_canTurn 185 = .ok (.iload 6, 2) := by decide +kernel
theorem dX9_canTurn_187 : decode cX9_canTurn 187 = .ok (.invokevirtual 153, 3) := by decide +kernel
theorem dX9_canTurn_190 : decode cX9_canTurn 190 = .ok (.ifCond .eq 7, 3) := by decide +kernel
theorem dX9_canTurn_193 : decode cX9_canTurn 193 = .ok (.iconst 1, 1) := by decide +kernel
theorem dX9_canTurn_194 : decode cX9_canTurn 194 = .ok (.goto 4, 3) := by decide +kernel
theorem dX9_canTurn_197 : decode cX9_canTurn 197 = .ok (.iconst 0, 1) := by decide +kernel
theorem dX9_canTurn_198 : decode cX9_canTurn 198 = .ok (.istore 9, 2) := by decide +kernel
theorem dX9_canTurn_200 : decode cX9_canTurn 200 = .ok (.iload 9, 2) := by decide +kernel
theorem dX9_canTurn_202 : decode cX9_canTurn 202 = .ok (.ifCond .eq 42, 3) := by decide +kernel
theorem dX9_canTurn_205 : decode cX9_canTurn 205 = .ok (.aload_n 0, 1) := by decide +kernel
theorem dX9_canTurn_206 : decode cX9_canTurn 206 = .ok (.getfield 62, 3) := by decide +kernel
theorem dX9_canTurn_209 : decode cX9_canTurn 209 = .ok (.iload 8, 2) := by decide +kernel
theorem dX9_canTurn_211 : decode cX9_canTurn 211 = .ok (.baload, 1) := by decide +kernel
theorem dX9_canTurn_212 : decode cX9_canTurn 212 = .ok (.ifCond .ne 32, 3) := by decide +kernel
theorem dX9_canTurn_215 : decode cX9_canTurn 215 = .ok (.aload_n 0, 1) := by decide +kernel
theorem dX9_canTurn_216 : decode cX9_canTurn 216 = .ok (.getfield 62, 3) := by decide +kernel
theorem dX9_canTurn_219 : decode cX9_canTurn 219 = .ok (.iload 8, 2) := by decide +kernel
theorem dX9_canTurn_221 : decode cX9_canTurn 221 = .ok (.iconst 1, 1) := by decide +kernel
theorem dX9_canTurn_222 : decode cX9_canTurn 222 = .ok (.bastore, 1) := by decide +kernel
theorem dX9_canTurn_223 : decode cX9_canTurn 223 = .ok (.aload_n 0, 1) := by decide +kernel
theorem dX9_canTurn_224 : decode cX9_canTurn 224 = .ok (.getfield 55, 3) := by decide +kernel
theorem dX9_canTurn_227 : decode cX9_canTurn 227 = .ok (.iload 8, 2) := by decide +kernel
theorem dX9_canTurn_229 : decode cX9_canTurn 229 = .ok (.iload 5, 2) := by decide +kernel
theorem dX9_canTurn_231 : decode cX9_canTurn 231 = .ok (.iastore, 1) := by decide +kernel
theorem dX9_canTurn_232 : decode cX9_canTurn 232 = .ok (.aload_n 0, 1) := by decide +kernel
theorem dX9_canTurn_233 : decode cX9_canTurn 233 = .ok (.getfield 65, 3) := by decide +kernel
theorem dX9_canTurn_236 : decode cX9_canTurn 236 = .ok (.iload 4, 2) := by decide +kernel
theorem dX9_canTurn_238 : decode cX9_canTurn 238 = .ok (.iload 8, 2) := by decide +kernel
theorem dX9_canTurn_240 : decode cX9_canTurn 240 = .ok (.iastore, 1) := by decide +kernel
theorem dX9_canTurn_241 : decode cX9_canTurn 241 = .ok (.iinc 4 1, 3) := by decide +kernel
theorem dX9_canTurn_244 : decode cX9_canTurn 244 = .ok (.iinc 6 1, 3) := by decide +kernel
theorem dX9_canTurn_247 : decode cX9_canTurn 247 = .ok (.goto (-165), 3) := by decide +kernel
theorem dX9_canTurn_250 : decode cX9_canTurn 250 = .ok (.goto (-197), 3) := by decide +kernel
theorem dX9_canTurn_253 : decode cX9_canTurn 253 = .ok (.aload_n 0, 1) := by decide +kernel
theorem dX9_canTurn_254 : decode cX9_canTurn 254 = .ok (.getfield 62, 3) := by decide +kernel
theorem dX9_canTurn_257 : decode cX9_canTurn 257 = .ok (.iload_n 1, 1) := by decide +kernel
theorem dX9_canTurn_258 : decode cX9_canTurn 258 = .ok (.baload, 1) := by decide +kernel
theorem dX9_canTurn_259 : decode cX9_canTurn 259 = .ok (.ireturn, 1) := by decide +kernel
theorem dX9_turn_0 : decode cX9_turn 0 = .ok (.ldc 115, 2) := by decide +kernel
theorem dX9_turn_2 : decode cX9_turn 2 = .ok (.istore_n 3, 1) := by decide +kernel
theorem dX9_turn_3 : decode cX9_turn 3 = .ok (.iload_n 1, 1) := by decide +kernel
theorem dX9_turn_4 : decode cX9_turn 4 = .ok (.istore 4, 2) := by decide +kernel
theorem dX9_turn_6 : decode cX9_turn 6 = .ok (.iload 4, 2) := by decide +kernel
theorem dX9_turn_8 : decode cX9_turn 8 = .ok (.bipush 10, 2) := by decide +kernel
theorem dX9_turn_10 : decode cX9_turn 10 = .ok (.iload_n 2, 1) := by decide +kernel
theorem dX9_turn_11 : decode cX9_turn 11 = .ok (.iadd, 1) := by decide +kernel
theorem dX9_turn_12 : decode cX9_turn 12 = .ok (.if_icmp .eq 58, 3) := by decide +kernel
theorem dX9_turn_15 : decode cX9_turn 15 = .ok (.iload 4, 2) := by decide +kernel
theorem dX9_turn_17 : decode cX9_turn 17 = .ok (.bipush 10, 2) := by decide +kernel
theorem dX9_turn_19 : decode cX9_turn 19 = .ok (.if_icmp .ge 39, 3) := by decide +kernel
theorem dX9_turn_22 : decode cX9_turn 22 = .ok (.aload_n 0, 1) := by decide +kernel
theorem dX9_turn_23 : decode cX9_turn 23 = .ok (.getfield 40, 3) := by decide +kernel
theorem dX9_turn_26 : decode cX9_turn 26 = .ok (.bipush 10, 2) := by decide +kernel
theorem dX9_turn_28 : decode cX9_turn 28 = .ok (.iload 4, 2) := by decide +kernel
theorem dX9_turn_30 : decode cX9_turn 30 = .ok (.imul, 1) := by decide +kernel
theorem dX9_turn_31 : decode cX9_turn 31 = .ok (.aload_n 0, 1) := by decide +kernel
theorem dX9_turn_32 : decode cX9_turn 32 = .ok (.getfield 55, 3) := by decide +kernel
theorem dX9_turn_35 : decode cX9_turn 35 = .ok (.iload 4, 2) := by decide +kernel
theorem dX9_turn_37 : decode cX9_turn 37 = .ok (.iaload, 1) := by decide +kernel
theorem dX9_turn_38 : decode cX9_turn 38 = .ok (.iadd, 1) := by decide +kernel
theorem dX9_turn_39 : decode cX9_turn 39 = .ok (.bipush 10, 2) := by decide +kernel
theorem dX9_turn_41 : decode cX9_turn 41 = .ok (.isub, 1) := by decide +kernel
theorem dX9_turn_42 : decode cX9_turn 42 = .ok (.iaload, 1) := by decide +kernel
theorem dX9_turn_43 : decode cX9_turn 43 = .ok (.istore 5, 2) := by decide +kernel
theorem dX9_turn_45 : decode cX9_turn 45 = .ok (.iload 5, 2) := by decide +kernel
theorem dX9_turn_47 : decode cX9_turn 47 = .ok (.iload_n 3, 1) := by decide +kernel
theorem dX9_turn_48 : decode cX9_turn 48 = .ok (.if_icmp .ge 8, 3) := by decide +kernel
theorem dX9_turn_51 : decode cX9_turn 51 = .ok (.iload 5, 2) := by decide +kernel
theorem dX9_turn_53 : decode cX9_turn 53 = .ok (.goto 4, 3) := by decide +kernel
theorem dX9_turn_56 : decode cX9_turn 56 = .ok (.iload_n 3, 1) := by decide +kernel
theorem dX9_turn_57 : decode cX9_turn 57 = .ok (.istore_n 3, 1) := by decide +kernel
theorem dX9_turn_58 : decode cX9_turn 58 = .ok (.aload_n 0, 1) := by decide +kernel
theorem dX9_turn_59 : decode cX9_turn 59 = .ok (.getfield 55, 3) := by decide +kernel
theorem dX9_turn_62 : decode cX9_turn 62 = .ok (.iload 4, 2) := by decide +kernel
theorem dX9_turn_64 : decode cX9_turn 64 = .ok (.iaload, 1) := by decide +kernel
theorem dX9_turn_65 : decode cX9_turn 65 = .ok (.istore 4, 2) := by decide +kernel
theorem dX9_turn_67 : decode cX9_turn 67 = .ok (.goto (-61), 3) := by decide +kernel
theorem dX9_turn_70 : decode cX9_turn 70 = .ok (.iload_n 1, 1) := by decide +kernel
theorem dX9_turn_71 : decode cX9_turn 71 = .ok (.istore 4, 2) := by decide +kernel
theorem dX9_turn_73 : decode cX9_turn 73 = .ok (.iload 4, 2) := by decide +kernel
theorem dX9_turn_75 : decode cX9_turn 75 = .ok (.bipush 10, 2) := by decide +kernel
theorem dX9_turn_77 : decode cX9_turn 77 = .ok (.iload_n 2, 1) := by decide +kernel
theorem dX9_turn_78 : decode cX9_turn 78 = .ok (.iadd, 1) := by decide +kernel
theorem dX9_turn_79 : decode cX9_turn 79 = .ok (.if_icmp .eq 75, 3) := by decide +kernel
theorem dX9_turn_82 : decode cX9_turn 82 = .ok (.iload 4, 2) := by decide +kernel
theorem dX9_turn_84 : decode cX9_turn 84 = .ok (.bipush 10, 2) := by decide +kernel
theorem dX9_turn_86 : decode cX9_turn 86 = .ok (.if_icmp .ge 31, 3) := by decide +kernel
theorem dX9_turn_89 : decode cX9_turn 89 = .ok (.aload_n 0, 1) := by decide +kernel
theorem dX9_turn_90 : decode cX9_turn 90 = .ok (.getfield 40, 3) := by decide +kernel
theorem dX9_turn_93 : decode cX9_turn 93 = .ok (.bipush 10, 2) := by decide +kernel
theorem dX9_turn_95 : decode cX9_turn 95 = .ok (.iload 4, 2) := by decide +kernel
theorem dX9_turn_97 : decode cX9_turn 97 = .ok (.imul, 1) := by decide +kernel
theorem dX9_turn_98 : decode cX9_turn 98 = .ok (.aload_n 0, 1) := by decide +kernel
theorem dX9_turn_99 : decode cX9_turn 99 = .ok (.getfield 55, 3) := by decide +kernel
theorem dX9_turn_102 : decode cX9_turn 102 = .ok (.iload 4, 2) := by decide +kernel
theorem dX9_turn_104 : decode cX9_turn 104 = .ok (.iaload, 1) := by decide +kernel
theorem dX9_turn_105 : decode cX9_turn 105 = .ok (.iadd, 1) := by decide +kernel
theorem dX9_turn_106 : decode cX9_turn 106 = .ok (.bipush 10, 2) := by decide +kernel
theorem dX9_turn_108 : decode cX9_turn 108 = .ok (.isub, 1) := by decide +kernel
theorem dX9_turn_109 : decode cX9_turn 109 = .ok (.dup2, 1) := by decide +kernel
theorem dX9_turn_110 : decode cX9_turn 110 = .ok (.iaload, 1) := by decide +kernel
theorem dX9_turn_111 : decode cX9_turn 111 = .ok (.iload_n 3, 1) := by decide +kernel
theorem dX9_turn_112 : decode cX9_turn 112 = .ok (.isub, 1) := by decide +kernel
theorem dX9_turn_113 : decode cX9_turn 113 = .ok (.iastore, 1) := by decide +kernel
theorem dX9_turn_114 : decode cX9_turn 114 = .ok (.goto 28, 3) := by decide +kernel
theorem dX9_turn_117 : decode cX9_turn 117 = .ok (.aload_n 0, 1) := by decide +kernel
theorem dX9_turn_118 : decode cX9_turn 118 = .ok (.getfield 40, 3) := by decide +kernel
theorem dX9_turn_121 : decode cX9_turn 121 = .ok (.bipush 10, 2) := by decide +kernel
theorem dX9_turn_123 : decode cX9_turn 123 = .ok (.aload_n 0, 1) := by decide +kernel
theorem dX9_turn_124 : decode cX9_turn 124 = .ok (.getfield 55, 3) := by decide +kernel
theorem dX9_turn_127 : decode cX9_turn 127 = .ok (.iload 4, 2) := by decide +kernel
theorem dX9_turn_129 : decode cX9_turn 129 = .ok (.iaload, 1) := by decide +kernel
theorem dX9_turn_130 : decode cX9_turn 130 = .ok (.imul, 1) := by decide +kernel
theorem dX9_turn_131 : decode cX9_turn 131 = .ok (.iload 4, 2) := by decide +kernel
theorem dX9_turn_133 : decode cX9_turn 133 = .ok (.iadd, 1) := by decide +kernel
theorem dX9_turn_134 : decode cX9_turn 134 = .ok (.bipush 10, 2) := by decide +kernel
theorem dX9_turn_136 : decode cX9_turn 136 = .ok (.isub, 1) := by decide +kernel
theorem dX9_turn_137 : decode cX9_turn 137 = .ok (.dup2, 1) := by decide +kernel
theorem dX9_turn_138 : decode cX9_turn 138 = .ok (.iaload, 1) := by decide +kernel
theorem dX9_turn_139 : decode cX9_turn 139 = .ok (.iload_n 3, 1) := by decide +kernel
theorem dX9_turn_140 : decode cX9_turn 140 = .ok (.iadd, 1) := by decide +kernel
theorem dX9_turn_141 : decode cX9_turn 141 = .ok (.iastore, 1) := by decide +kernel
theorem dX9_turn_142 : decode cX9_turn 142 = .ok (.aload_n 0, 1) := by decide +kernel
theorem dX9_turn_143 : decode cX9_turn 143 = .ok (.getfield 55, 3) := by decide +kernel
theorem dX9_turn_146 : decode cX9_turn 146 = .ok (.iload 4, 2) := by decide +kernel
theorem dX9_turn_148 : decode cX9_turn 148 = .ok (.iaload, 1) := by decide +kernel
theorem dX9_turn_149 : decode cX9_turn 149 = .ok (.istore 4, 2) := by decide +kernel
theorem dX9_turn_151 : decode cX9_turn 151 = .ok (.goto (-78), 3) := by decide +kernel
theorem dX9_turn_154 : decode cX9_turn 154 = .ok (.aload_n 0, 1) := by decide +kernel
theorem dX9_turn_155 : decode cX9_turn 155 = .ok (.getfield 40, 3) := by decide +kernel
theorem dX9_turn_158 : decode cX9_turn 158 = .ok (.bipush 10, 2) := by decide +kernel
theorem dX9_turn_160 : decode cX9_turn 160 = .ok (.iload_n 1, 1) := by decide +kernel
theorem dX9_turn_161 : decode cX9_turn 161 = .ok (.imul, 1) := by decide +kernel
theorem dX9_turn_162 : decode cX9_turn 162 = .ok (.iload_n 2, 1) := by decide +kernel
theorem dX9_turn_163 : decode cX9_turn 163 = .ok (.iadd, 1) := by decide +kernel
theorem dX9_turn_164 : decode cX9_turn 164 = .ok (.dup2, 1) := by decide +kernel
theorem dX9_turn_165 : decode cX9_turn 165 = .ok (.iaload, 1) := by decide +kernel
theorem dX9_turn_166 : decode cX9_turn 166 = .ok (.iload_n 3, 1) := by decide +kernel
theorem dX9_turn_167 : decode cX9_turn 167 = .ok (.iadd, 1) := by decide +kernel
theorem dX9_turn_168 : decode cX9_turn 168 = .ok (.iastore, 1) := by decide +kernel
theorem dX9_turn_169 : decode cX9_turn 169 = .ok (.return_, 1) := by decide +kernel
theorem dX9_loosen_0 : decode cX9_loosen 0 = .ok (.iconst 0, 1) := by decide +kernel
theorem dX9_loosen_1 : decode cX9_loosen 1 = .ok (.istore_n 1, 1) := by decide +kernel
theorem dX9_loosen_2 : decode cX9_loosen 2 = .ok (.iload_n 1, 1) := by decide +kernel
theorem dX9_loosen_3 : decode cX9_loosen 3 = .ok (.bipush 100, 2) := by decide +kernel
theorem dX9_loosen_5 : decode cX9_loosen 5 = .ok (.if_icmp .ge 16, 3) := by decide +kernel
theorem dX9_loosen_8 : decode cX9_loosen 8 = .ok (.aload_n 0, 1) := by decide +kernel
theorem dX9_loosen_9 : decode cX9_loosen 9 = .ok (.getfield 58, 3) := by decide +kernel
theorem dX9_loosen_12 : decode cX9_loosen 12 = .ok (.iload_n 1, 1) := by decide +kernel
theorem dX9_loosen_13 : decode cX9_loosen 13 = .ok (.iconst 0, 1) := by decide +kernel
theorem dX9_loosen_14 : decode cX9_loosen 14 = .ok (.bastore, 1) := by decide +kernel
theorem dX9_loosen_15 : decode cX9_loosen 15 = .ok (.iinc 1 1, 3) := by decide +kernel
theorem dX9_loosen_18 : decode cX9_loosen 18 = .ok (.goto (-16), 3) := by decide +kernel
theorem dX9_loosen_21 : decode cX9_loosen 21 = .ok (.return_, 1) := by decide +kernel
theorem dX9_findPlan_0 : decode cX9_findPlan 0 = .ok (.aload_n 0, 1) := by decide +kernel
theorem dX9_findPlan_1 : decode cX9_findPlan 1 = .ok (.iload_n 1, 1) := by decide +kernel
theorem dX9_findPlan_2 : decode cX9_findPlan 2 = .ok (.iload_n 2, 1) := by decide +kernel
theorem dX9_findPlan_3 : decode cX9_findPlan 3 = .ok (.aload_n 0, 1) := by decide +kernel
theorem dX9_findPlan_4 : decode cX9_findPlan 4 = .ok (.iload_n 1, 1) := by decide +kernel
theorem dX9_findPlan_5 : decode cX9_findPlan 5 = .ok (.invokevirtual 123, 3) := by decide +kernel
theorem dX9_findPlan_8 : decode cX9_findPlan 8 = .ok (.invokevirtual 149, 3) := by decide +kernel
theorem dX9_findPlan_11 : decode cX9_findPlan 11 = .ok (.istore_n 3, 1) := by decide +kernel
theorem dX9_findPlan_12 : decode cX9_findPlan 12 = .ok (.aload_n 0, 1) := by decide +kernel
theorem dX9_findPlan_13 : decode cX9_findPlan 13 = .ok (.invokevirtual 157, 3) := by decide +kernel
theorem dX9_findPlan_16 : decode cX9_findPlan 16 = .ok (.aload_n 0, 1) := by decide +kernel
theorem dX9_findPlan_17 : decode cX9_findPlan 17 = .ok (.invokevirtual 160, 3) := by decide +kernel
theorem dX9_findPlan_20 : decode cX9_findPlan 20 = .ok (.iconst 0, 1) := by decide +kernel
theorem dX9_findPlan_21 : decode cX9_findPlan 21 = .ok (.istore 4, 2) := by decide +kernel
theorem dX9_findPlan_23 : decode cX9_findPlan 23 = .ok (.iload 4, 2) := by decide +kernel
theorem dX9_findPlan_25 : decode cX9_findPlan 25 = .ok (.aload_n 0, 1) := by decide +kernel
theorem dX9_findPlan_26 : decode cX9_findPlan 26 = .ok (.getfield 86, 3) := by decide +kernel
theorem dX9_findPlan_29 : decode cX9_findPlan 29 = .ok (.if_icmp .ge 78, 3) := by decide +kernel
theorem dX9_findPlan_32 : decode cX9_findPlan 32 = .ok (.iload_n 3, 1) := by decide +kernel
theorem dX9_findPlan_33 : decode cX9_findPlan 33 = .ok (.ifCond .lt 74, 3) := by decide +kernel
theorem dX9_findPlan_36 : decode cX9_findPlan 36 = .ok (.iconst 0, 1) := by decide +kernel
theorem dX9_findPlan_37 : decode cX9_findPlan 37 = .ok (.istore 5, 2) := by decide +kernel
theorem dX9_findPlan_39 : decode cX9_findPlan 39 = .ok (.iload 5, 2) := by decide +kernel
theorem dX9_findPlan_41 : decode cX9_findPlan 41 = .ok (.aload_n 0, 1) := by decide +kernel
theorem dX9_findPlan_42 : decode cX9_findPlan 42 = .ok (.getfield 86, 3) := by decide +kernel
theorem dX9_findPlan_45 : decode cX9_findPlan 45 = .ok (.if_icmp .ge 56, 3) := by decide +kernel
theorem dX9_findPlan_48 : decode cX9_findPlan 48 = .ok (.aload_n 0, 1) := by decide +kernel
theorem dX9_findPlan_49 : decode cX9_findPlan 49 = .ok (.iload 4, 2) := by decide +kernel
theorem dX9_findPlan_51 : decode cX9_findPlan 51 = .ok (.iload 5, 2) := by decide +kernel
theorem dX9_findPlan_53 : decode cX9_findPlan 53 = .ok (.invokevirtual 153, 3) := by decide +kernel
theorem dX9_findPlan_56 : decode cX9_findPlan 56 = .ok (.ifCond .eq 25, 3) := by decide +kernel
theorem dX9_findPlan_59 : decode cX9_findPlan 59 = .ok (.aload_n 0, 1) := by decide +kernel
theorem dX9_findPlan_60 : decode cX9_findPlan 60 = .ok (.iload 4, 2) := by decide +kernel
theorem dX9_findPlan_62 : decode cX9_findPlan 62 = .ok (.iload 5, 2) := by decide +kernel
theorem dX9_findPlan_64 : decode cX9_findPlan 64 = .ok (.invokevirtual 163, 3) := by decide +kernel
theorem dX9_findPlan_67 : decode cX9_findPlan 67 = .ok (.ifCond .eq 14, 3) := by decide +kernel
theorem dX9_findPlan_70 : decode cX9_findPlan 70 = .ok (.aload_n 0, 1) := by decide +kernel
theorem dX9_findPlan_71 : decode cX9_findPlan 71 = .ok (.iload 4, 2) := by decide +kernel
theorem dX9_findPlan_73 : decode cX9_findPlan 73 = .ok (.iload 5, 2) := by decide +kernel
theorem dX9_findPlan_75 : decode cX9_findPlan 75 = .ok (.invokevirtual 166, 3) := by decide +kernel
theorem dX9_findPlan_78 : decode cX9_findPlan 78 = .ok (.goto (-30), 3) := by decide +kernel
theorem dX9_findPlan_81 : decode cX9_findPlan 81 = .ok (.aload_n 0, 1) := by decide +kernel
theorem dX9_findPlan_82 : decode cX9_findPlan 82 = .ok (.getfield 58, 3) := by decide +kernel
theorem dX9_findPlan_85 : decode cX9_findPlan 85 = .ok (.bipush 10, 2) := by decide +kernel
theorem dX9_findPlan_87 : decode cX9_findPlan 87 = .ok (.iload 4, 2) := by decide +kernel
theorem dX9_findPlan_89 : decode cX9_findPlan 89 = .ok (.imul, 1) := by decide +kernel
theorem dX9_findPlan_90 : decode cX9_findPlan 90 = .ok (.iload 5, 2) := by decide +kernel
theorem dX9_findPlan_92 : decode cX9_findPlan 92 = .ok (.iadd, 1) := by decide +kernel
theorem dX9_findPlan_93 : decode cX9_findPlan 93 = .ok (.iconst 1, 1) := by decide +kernel
theorem dX9_findPlan_94 : decode cX9_findPlan 94 = .ok (.bastore, 1) := by decide +kernel
theorem dX9_findPlan_95 : decode cX9_findPlan 95 = .ok (.iinc 5 1, 3) := by decide +kernel
theorem dX9_findPlan_98 : decode cX9_findPlan 98 = .ok (.goto (-59), 3) := by decide +kernel
theorem dX9_findPlan_101 : decode cX9_findPlan 101 = .ok (.iinc 4 1, 3) := by decide +kernel
theorem dX9_findPlan_104 : decode cX9_findPlan 104 = .ok (.goto (-81), 3) := by decide +kernel
theorem dX9_findPlan_107 : decode cX9_findPlan 107 = .ok (.return_, 1) := by decide +kernel
theorem dX9_plan_0 : decode cX9_plan 0 = .ok (.aload_n 0, 1) := by decide +kernel
theorem dX9_plan_1 : decode cX9_plan 1 = .ok (.iload_n 1, 1) := by decide +kernel
theorem dX9_plan_2 : decode cX9_plan 2 = .ok (.invokevirtual 111, 3) := by decide +kernel
theorem dX9_plan_5 : decode cX9_plan 5 = .ok (.ifCond .eq 28, 3) := by decide +kernel
theorem dX9_plan_8 : decode cX9_plan 8 = .ok (.aload_n 0, 1) := by decide +kernel
theorem dX9_plan_9 : decode cX9_plan 9 = .ok (.iload_n 2, 1) := by decide +kernel
theorem dX9_plan_10 : decode cX9_plan 10 = .ok (.invokevirtual 111, 3) := by decide +kernel
theorem dX9_plan_13 : decode cX9_plan 13 = .ok (.ifCond .eq 20, 3) := by decide +kernel
theorem dX9_plan_16 : decode cX9_plan 16 = .ok (.aload_n 0, 1) := by decide +kernel
theorem dX9_plan_17 : decode cX9_plan 17 = .ok (.iload_n 3, 1) := by decide +kernel
theorem dX9_plan_18 : decode cX9_plan 18 = .ok (.invokevirtual 104, 3) := by decide +kernel
theorem dX9_plan_21 : decode cX9_plan 21 = .ok (.ifCond .eq 12, 3) := by decide +kernel
theorem dX9_plan_24 : decode cX9_plan 24 = .ok (.aload_n 0, 1) := by decide +kernel
theorem dX9_plan_25 : decode cX9_plan 25 = .ok (.iload 4, 2) := by decide +kernel
theorem dX9_plan_27 : decode cX9_plan 27 = .ok (.invokevirtual 104, 3) := by decide +kernel
theorem dX9_plan_30 : decode cX9_plan 30 = .ok (.ifCond .ne 6, 3) := by decide +kernel
theorem dX9_plan_33 : decode cX9_plan 33 = .ok (.bipush (-2), 2) := by decide +kernel
theorem dX9_plan_35 : decode cX9_plan 35 = .ok (.ireturn, 1) := by decide +kernel
theorem dX9_plan_36 : decode cX9_plan 36 = .ok (.aload_n 0, 1) := by decide +kernel
theorem dX9_plan_37 : decode cX9_plan 37 = .ok (.iload_n 1, 1) := by decide +kernel
theorem dX9_plan_38 : decode cX9_plan 38 = .ok (.iload_n 2, 1) := by decide +kernel
theorem dX9_plan_39 : decode cX9_plan 39 = .ok (.invokevirtual 146, 3) := by decide +kernel
theorem dX9_plan_42 : decode cX9_plan 42 = .ok (.istore 5, 2) := by decide +kernel
theorem dX9_plan_44 : decode cX9_plan 44 = .ok (.iload 5, 2) := by decide +kernel
theorem dX9_plan_46 : decode cX9_plan 46 = .ok (.ifCond .eq 6, 3) := by decide +kernel
theorem dX9_plan_49 : decode cX9_plan 49 = .ok (.iload 5, 2) := by decide +kernel
theorem dX9_plan_51 : decode cX9_plan 51 = .ok (.ireturn, 1) := by decide +kernel
theorem dX9_plan_52 : decode cX9_plan 52 = .ok (.aload_n 0, 1) := by decide +kernel
theorem dX9_plan_53 : decode cX9_plan 53 = .ok (.iload_n 1, 1) := by decide +kernel
theorem dX9_plan_54 : decode cX9_plan 54 = .ok (.iload_n 2, 1) := by decide +kernel
theorem dX9_plan_55 : decode cX9_plan 55 = .ok (.invokevirtual 169, 3) := by decide +kernel
theorem dX9_plan_58 : decode cX9_plan 58 = .ok (.aload_n 0, 1) := by decide +kernel
theorem dX9_plan_59 : decode cX9_plan 59 = .ok (.getfield 40, 3) := by decide +kernel
theorem dX9_plan_62 : decode cX9_plan 62 = .ok (.bipush 10, 2) := by decide +kernel
theorem dX9_plan_64 : decode cX9_plan 64 = .ok (.iload_n 3, 1) := by decide +kernel
theorem dX9_plan_65 : decode cX9_plan 65 = .ok (.imul, 1) := by decide +kernel
theorem dX9_plan_66 : decode cX9_plan 66 = .ok (.iload 4, 2) := by decide +kernel
theorem dX9_plan_68 : decode cX9_plan 68 = .ok (.iadd, 1) := by decide +kernel
theorem dX9_plan_69 : decode cX9_plan 69 = .ok (.iaload, 1) := by decide +kernel
theorem dX9_plan_70 : decode cX9_plan 70 = .ok (.ireturn, 1) := by decide +kernel
theorem dX9_alone_0 : decode cX9_alone 0 = .ok (.aload_n 0, 1) := by decide +kernel
theorem dX9_alone_1 : decode cX9_alone 1 = .ok (.iload_n 1, 1) := by decide +kernel
theorem dX9_alone_2 : decode cX9_alone 2 = .ok (.iload_n 2, 1) := by decide +kernel
theorem dX9_alone_3 : decode cX9_alone 3 = .ok (.invokevirtual 146, 3) := by decide +kernel
theorem dX9_alone_6 : decode cX9_alone 6 = .ok (.istore_n 3, 1) := by decide +kernel
theorem dX9_alone_7 : decode cX9_alone 7 = .ok (.iload_n 3, 1) := by decide +kernel
theorem dX9_alone_8 : decode cX9_alone 8 = .ok (.ifCond .eq 5, 3) := by decide +kernel
theorem dX9_alone_11 : decode cX9_alone 11 = .ok (.iload_n 3, 1) := by decide +kernel
theorem dX9_alone_12 : decode cX9_alone 12 = .ok (.ireturn, 1) := by decide +kernel
theorem dX9_alone_13 : decode cX9_alone 13 = .ok (.aload_n 0, 1) := by decide +kernel
theorem dX9_alone_14 : decode cX9_alone 14 = .ok (.iload_n 1, 1) := by decide +kernel
theorem dX9_alone_15 : decode cX9_alone 15 = .ok (.iload_n 2, 1) := by decide +kernel
theorem dX9_alone_16 : decode cX9_alone 16 = .ok (.invokevirtual 169, 3) := by decide +kernel
theorem dX9_alone_19 : decode cX9_alone 19 = .ok (.aload_n 0, 1) := by decide +kernel
theorem dX9_alone_20 : decode cX9_alone 20 = .ok (.invokevirtual 160, 3) := by decide +kernel
theorem dX9_alone_23 : decode cX9_alone 23 = .ok (.iconst 0, 1) := by decide +kernel
theorem dX9_alone_24 : decode cX9_alone 24 = .ok (.istore 4, 2) := by decide +kernel
theorem dX9_alone_26 : decode cX9_alone 26 = .ok (.iload 4, 2) := by decide +kernel
theorem dX9_alone_28 : decode cX9_alone 28 = .ok (.aload_n 0, 1) := by decide +kernel
theorem dX9_alone_29 : decode cX9_alone 29 = .ok (.getfield 86, 3) := by decide +kernel
theorem dX9_alone_32 : decode cX9_alone 32 = .ok (.if_icmp .ge 51, 3) := by decide +kernel
theorem dX9_alone_35 : decode cX9_alone 35 = .ok (.iconst 0, 1) := by decide +kernel
theorem dX9_alone_36 : decode cX9_alone 36 = .ok (.istore 5, 2) := by decide +kernel
theorem dX9_alone_38 : decode cX9_alone 38 = .ok (.iload 5, 2) := by decide +kernel
theorem dX9_alone_40 : decode cX9_alone 40 = .ok (.aload_n 0, 1) := by decide +kernel
theorem dX9_alone_41 : decode cX9_alone 41 = .ok (.getfield 86, 3) := by decide +kernel
theorem dX9_alone_44 : decode cX9_alone 44 = .ok (.if_icmp .ge 33, 3) := by decide +kernel
theorem dX9_alone_47 : decode cX9_alone 47 = .ok (.aload_n 0, 1) := by decide +kernel
theorem dX9_alone_48 : decode cX9_alone 48 = .ok (.iload 4, 2) := by decide +kernel
theorem dX9_alone_50 : decode cX9_alone 50 = .ok (.iload 5, 2) := by decide +kernel
theorem dX9_alone_52 : decode cX9_alone 52 = .ok (.invokevirtual 153, 3) := by decide +kernel
theorem dX9_alone_55 : decode cX9_alone 55 = .ok (.ifCond .eq 16, 3) := by decide +kernel
theorem dX9_alone_58 : decode cX9_alone 58 = .ok (.aload_n 0, 1) := by decide +kernel
theorem dX9_alone_59 : decode cX9_alone 59 = .ok (.iload 4, 2) := by decide +kernel
theorem dX9_alone_61 : decode cX9_alone 61 = .ok (.iload 5, 2) := by decide +kernel
theorem dX9_alone_63 : decode cX9_alone 63 = .ok (.invokevirtual 163, 3) := by decide +kernel
theorem dX9_alone_66 : decode cX9_alone 66 = .ok (.ifCond .eq 5, 3) := by decide +kernel
theorem dX9_alone_69 : decode cX9_alone 69 = .ok (.iconst 0, 1) := by decide +kernel
theorem dX9_alone_70 : decode cX9_alone 70 = .ok (.ireturn, 1) := by decide +kernel
theorem dX9_alone_71 : decode cX9_alone 71 = .ok (.iinc 5 1, 3) := by decide +kernel
theorem dX9_alone_74 : decode cX9_alone 74 = .ok (.goto (-36), 3) := by decide +kernel
theorem dX9_alone_77 : decode cX9_alone 77 = .ok (.iinc 4 1, 3) := by decide +kernel
theorem dX9_alone_80 : decode cX9_alone 80 = .ok (.goto (-54), 3) := by decide +kernel
theorem dX9_alone_83 : decode cX9_alone 83 = .ok (.iconst 1, 1) := by decide +kernel
theorem dX9_alone_84 : decode cX9_alone 84 = .ok (.ireturn, 1) := by decide +kernel
theorem dX9_height_0 : decode cX9_height 0 = .ok (.aload_n 0, 1) := by decide +kernel
theorem dX9_height_1 : decode cX9_height 1 = .ok (.iload_n 3, 1) := by decide +kernel
theorem dX9_height_2 : decode cX9_height 2 = .ok (.invokevirtual 104, 3) := by decide +kernel
theorem dX9_height_5 : decode cX9_height 5 = .ok (.ifCond .eq 12, 3) := by decide +kernel
theorem dX9_height_8 : decode cX9_height 8 = .ok (.aload_n 0, 1) := by decide +kernel
theorem dX9_height_9 : decode cX9_height 9 = .ok (.iload_n 1, 1) := by decide +kernel
theorem dX9_height_10 : decode cX9_height 10 = .ok (.iload_n 2, 1) := by decide +kernel
theorem dX9_height_11 : decode cX9_height 11 = .ok (.invokevirtual 146, 3) := by decide +kernel
theorem dX9_height_14 : decode cX9_height 14 = .ok (.ifCond .eq 6, 3) := by decide +kernel
theorem dX9_height_17 : decode cX9_height 17 = .ok (.ldc 172, 2) := by decide +kernel
theorem dX9_height_19 : decode cX9_height 19 = .ok (.ireturn, 1) := by decide +kernel
theorem dX9_height_20 : decode cX9_height 20 = .ok (.aload_n 0, 1) := by decide +kernel
theorem dX9_height_21 : decode cX9_height 21 = .ok (.iload_n 1, 1) := by decide +kernel
theorem dX9_height_22 : decode cX9_height 22 = .ok (.iload_n 2, 1) := by decide +kernel
theorem dX9_height_23 : decode cX9_height 23 = .ok (.aload_n 0, 1) := by decide +kernel
theorem dX9_height_24 : decode cX9_height 24 = .ok (.iload_n 1, 1) := by decide +kernel
theorem dX9_height_25 : decode cX9_height 25 = .ok (.invokevirtual 123, 3) := by decide +kernel
theorem dX9_height_28 : decode cX9_height 28 = .ok (.invokevirtual 149, 3) := by decide +kernel
theorem dX9_height_31 : decode cX9_height 31 = .ok (.istore 4, 2) := by decide +kernel
theorem dX9_height_33 : decode cX9_height 33 = .ok (.aload_n 0, 1) := by decide +kernel
theorem dX9_height_34 : decode cX9_height 34 = .ok (.invokevirtual 157, 3) := by decide +kernel
theorem dX9_height_37 : decode cX9_height 37 = .ok (.iload 4, 2) := by decide +kernel
theorem dX9_height_39 : decode cX9_height 39 = .ok (.ifCond .ge 8, 3) := by decide +kernel
theorem dX9_height_42 : decode cX9_height 42 = .ok (.ldc 172, 2) := by decide +kernel
theorem dX9_height_44 : decode cX9_height 44 = .ok (.goto 9, 3) := by decide +kernel
theorem dX9_height_47 : decode cX9_height 47 = .ok (.aload_n 0, 1) := by decide +kernel
theorem dX9_height_48 : decode cX9_height 48 = .ok (.getfield 49, 3) := by decide +kernel
theorem dX9_height_51 : decode cX9_height 51 = .ok (.iload_n 3, 1) := by decide +kernel
theorem dX9_height_52 : decode cX9_height 52 = .ok (.iaload, 1) := by decide +kernel
theorem dX9_height_53 : decode cX9_height 53 = .ok (.ireturn, 1) := by decide +kernel
theorem dX9_load_0 : decode cX9_load 0 = .ok (.aload_n 0, 1) := by decide +kernel
theorem dX9_load_1 : decode cX9_load 1 = .ok (.iload_n 1, 1) := by decide +kernel
theorem dX9_load_2 : decode cX9_load 2 = .ok (.invokevirtual 111, 3) := by decide +kernel
theorem dX9_load_5 : decode cX9_load 5 = .ok (.ifCond .eq 28, 3) := by decide +kernel
theorem dX9_load_8 : decode cX9_load 8 = .ok (.aload_n 0, 1) := by decide +kernel
theorem dX9_load_9 : decode cX9_load 9 = .ok (.iload_n 2, 1) := by decide +kernel
theorem dX9_load_10 : decode cX9_load 10 = .ok (.invokevirtual 111, 3) := by decide +kernel
theorem dX9_load_13 : decode cX9_load 13 = .ok (.ifCond .eq 20, 3) := by decide +kernel
theorem dX9_load_16 : decode cX9_load 16 = .ok (.aload_n 0, 1) := by decide +kernel
theorem dX9_load_17 : decode cX9_load 17 = .ok (.iload_n 3, 1) := by decide +kernel
theorem dX9_load_18 : decode cX9_load 18 = .ok (.invokevirtual 104, 3) := by decide +kernel
theorem dX9_load_21 : decode cX9_load 21 = .ok (.ifCond .eq 12, 3) := by decide +kernel
theorem dX9_load_24 : decode cX9_load 24 = .ok (.aload_n 0, 1) := by decide +kernel
theorem dX9_load_25 : decode cX9_load 25 = .ok (.iload 4, 2) := by decide +kernel
theorem dX9_load_27 : decode cX9_load 27 = .ok (.invokevirtual 104, 3) := by decide +kernel
theorem dX9_load_30 : decode cX9_load 30 = .ok (.ifCond .ne 6, 3) := by decide +kernel
theorem dX9_load_33 : decode cX9_load 33 = .ok (.bipush (-2), 2) := by decide +kernel
theorem dX9_load_35 : decode cX9_load 35 = .ok (.ireturn, 1) := by decide +kernel
theorem dX9_load_36 : decode cX9_load 36 = .ok (.aload_n 0, 1) := by decide +kernel
theorem dX9_load_37 : decode cX9_load 37 = .ok (.iload_n 1, 1) := by decide +kernel
theorem dX9_load_38 : decode cX9_load 38 = .ok (.iload_n 2, 1) := by decide +kernel
theorem dX9_load_39 : decode cX9_load 39 = .ok (.invokevirtual 146, 3) := by decide +kernel
theorem dX9_load_42 : decode cX9_load 42 = .ok (.istore 5, 2) := by decide +kernel
theorem dX9_load_44 : decode cX9_load 44 = .ok (.iload 5, 2) := by decide +kernel
theorem dX9_load_46 : decode cX9_load 46 = .ok (.ifCond .eq 6, 3) := by decide +kernel
theorem dX9_load_49 : decode cX9_load 49 = .ok (.iload 5, 2) := by decide +kernel
theorem dX9_load_51 : decode cX9_load 51 = .ok (.ireturn, 1) := by decide +kernel
theorem dX9_load_52 : decode cX9_load 52 = .ok (.aload_n 0, 1) := by decide +kernel
theorem dX9_load_53 : decode cX9_load 53 = .ok (.iload_n 1, 1) := by decide +kernel
theorem dX9_load_54 : decode cX9_load 54 = .ok (.iload_n 2, 1) := by decide +kernel
theorem dX9_load_55 : decode cX9_load 55 = .ok (.invokevirtual 169, 3) := by decide +kernel
theorem dX9_load_58 : decode cX9_load 58 = .ok (.iconst 0, 1) := by decide +kernel
theorem dX9_load_59 : decode cX9_load 59 = .ok (.istore 6, 2) := by decide +kernel
theorem dX9_load_61 : decode cX9_load 61 = .ok (.iconst 0, 1) := by decide +kernel
theorem dX9_load_62 : decode cX9_load 62 = .ok (.istore 7, 2) := by decide +kernel
theorem dX9_load_64 : decode cX9_load 64 = .ok (.iload 7, 2) := by decide +kernel
theorem dX9_load_66 : decode cX9_load 66 = .ok (.aload_n 0, 1) := by decide +kernel
theorem dX9_load_67 : decode cX9_load 67 = .ok (.getfield 86, 3) := by decide +kernel
theorem dX9_load_70 : decode cX9_load 70 = .ok (.if_icmp .ge 106, 3) := by decide +kernel
theorem dX9_load_73 : decode cX9_load 73 = .ok (.iconst 0, 1) := by decide +kernel
theorem dX9_load_74 : decode cX9_load 74 = .ok (.istore 8, 2) := by decide +kernel
theorem dX9_load_76 : decode cX9_load 76 = .ok (.iload 8, 2) := by decide +kernel
theorem dX9_load_78 : decode cX9_load 78 = .ok (.aload_n 0, 1) := by decide +kernel
theorem dX9_load_79 : decode cX9_load 79 = .ok (.getfield 86, 3) := by decide +kernel
theorem dX9_load_82 : decode cX9_load 82 = .ok (.if_icmp .ge 88, 3) := by decide +kernel
theorem dX9_load_85 : decode cX9_load 85 = .ok (.iload 7, 2) := by decide +kernel
theorem dX9_load_87 : decode cX9_load 87 = .ok (.istore 9, 2) := by decide +kernel
theorem dX9_load_89 : decode cX9_load 89 = .ok (.aload_n 0, 1) := by decide +kernel
theorem dX9_load_90 : decode cX9_load 90 = .ok (.getfield 40, 3) := by decide +kernel
theorem dX9_load_93 : decode cX9_load 93 = .ok (.bipush 10, 2) := by decide +kernel
theorem dX9_load_95 : decode cX9_load 95 = .ok (.iload 7, 2) := by decide +kernel
theorem dX9_load_97 : decode cX9_load 97 = .ok (.imul, 1) := by decide +kernel
theorem dX9_load_98 : decode cX9_load 98 = .ok (.iload 8, 2) := by decide +kernel
theorem dX9_load_100 : decode cX9_load 100 = .ok (.iadd, 1) := by decide +kernel
theorem dX9_load_101 : decode cX9_load 101 = .ok (.iaload, 1) := by decide +kernel
theorem dX9_load_102 : decode cX9_load 102 = .ok (.ifCond .le 62, 3) := by decide +kernel
theorem dX9_load_105 : decode cX9_load 105 = .ok (.iload 9, 2) := by decide +kernel
theorem dX9_load_107 : decode cX9_load 107 = .ok (.iload 8, 2) := by decide +kernel
theorem dX9_load_109 : decode cX9_load 109 = .ok (.if_icmp .eq 55, 3) := by decide +kernel
theorem dX9_load_112 : decode cX9_load 112 = .ok (.aload_n 0, 1) := by decide +kernel
theorem dX9_load_113 : decode cX9_load 113 = .ok (.iload 9, 2) := by decide +kernel
theorem dX9_load_115 : decode cX9_load 115 = .ok (.iload 8, 2) := by decide +kernel
theorem dX9_load_117 : decode cX9_load 117 = .ok (.invokevirtual 119, 3) := by decide +kernel
theorem dX9_load_120 : decode cX9_load 120 = .ok (.istore 10, 2) := by decide +kernel
theorem dX9_load_122 : decode cX9_load 122 = .ok (.iload 6, 2) := by decide +kernel
theorem dX9_load_124 : decode cX9_load 124 = .ok (.iload 9, 2) := by decide +kernel
theorem dX9_load_126 : decode cX9_load 126 = .ok (.iload_n 3, 1) := by decide +kernel
theorem dX9_load_127 : decode cX9_load 127 = .ok (.if_icmp .ne 26, 3) := by decide +kernel
theorem dX9_load_130 : decode cX9_load 130 = .ok (.iload 10, 2) := by decide +kernel
theorem dX9_load_132 : decode cX9_load 132 = .ok (.iload 4, 2) := by decide +kernel
theorem dX9_load_134 : decode cX9_load 134 = .ok (.if_icmp .ne 19, 3) := by decide +kernel
theorem dX9_load_137 : decode cX9_load 137 = .ok (.aload_n 0, 1) := by decide +kernel
theorem dX9_load_138 : decode cX9_load 138 = .ok (.getfield 40, 3) := by decide +kernel
theorem dX9_load_141 : decode cX9_load 141 = .ok (.bipush 10, 2) := by decide +kernel
theorem dX9_load_143 : decode cX9_load 143 = .ok (.iload 7, 2) := by decide +kernel
theorem dX9_load_145 : decode cX9_load 145 = .ok (.imul, 1) := by decide +kernel
theorem dX9_load_146 : decode cX9_load 146 = .ok (.iload 8, 2) := by decide +kernel
theorem dX9_load_148 : decode cX9_load 148 = .ok (.iadd, 1) := by decide +kernel
theorem dX9_load_149 : decode cX9_load 149 = .ok (.iaload, 1) := by decide +kernel
theorem dX9_load_150 : decode cX9_load 150 = .ok (.goto 4, 3) := by decide +kernel
theorem dX9_load_153 : decode cX9_load 153 = .ok (.iconst 0, 1) := by decide +kernel
theorem dX9_load_154 : decode cX9_load 154 = .ok (.iadd, 1) := by decide +kernel
theorem dX9_load_155 : decode cX9_load 155 = .ok (.istore 6, 2) := by decide +kernel
theorem dX9_load_157 : decode cX9_load 157 = .ok (.iload 10, 2) := by decide +kernel
theorem dX9_load_159 : decode cX9_load 159 = .ok (.istore 9, 2) := by decide +kernel
theorem dX9_load_161 : decode cX9_load 161 = .ok (.goto (-72), 3) := by decide +kernel
theorem dX9_load_164 : decode cX9_load 164 = .ok (.iinc 8 1, 3) := by decide +kernel
theorem dX9_load_167 : decode cX9_load 167 = .ok (.goto (-91), 3) := by decide +kernel
theorem dX9_load_170 : decode cX9_load 170 = .ok (.iinc 7 1, 3) := by decide +kernel
theorem dX9_load_173 : decode cX9_load 173 = .ok (.goto (-109), 3) := by decide +kernel
theorem dX9_load_176 : decode cX9_load 176 = .ok (.iload 6, 2) := by decide +kernel
theorem dX9_load_178 : decode cX9_load 178 = .ok (.ireturn, 1) := by decide +kernel
theorem dX9_fits_0 : decode cX9_fits 0 = .ok (.aload_n 0, 1) := by decide +kernel
theorem dX9_fits_1 : decode cX9_fits 1 = .ok (.iload_n 1, 1) := by decide +kernel
theorem dX9_fits_2 : decode cX9_fits 2 = .ok (.iload_n 2, 1) := by decide +kernel
theorem dX9_fits_3 : decode cX9_fits 3 = .ok (.invokevirtual 127, 3) := by decide +kernel
theorem dX9_fits_6 : decode cX9_fits 6 = .ok (.aload_n 0, 1) := by decide +kernel
theorem dX9_fits_7 : decode cX9_fits 7 = .ok (.iload_n 3, 1) := by decide +kernel
theorem dX9_fits_8 : decode cX9_fits 8 = .ok (.invokevirtual 173, 3) := by decide +kernel
theorem dX9_fits_11 : decode cX9_fits 11 = .ok (.istore 4, 2) := by decide +kernel
theorem dX9_fits_13 : decode cX9_fits 13 = .ok (.iload 4, 2) := by decide +kernel
theorem dX9_fits_15 : decode cX9_fits 15 = .ok (.iconst (-1), 1) := by decide +kernel
theorem dX9_fits_16 : decode cX9_fits 16 = .ok (.if_icmp .eq 32, 3) := by decide +kernel
theorem dX9_fits_19 : decode cX9_fits 19 = .ok (.aload_n 0, 1) := by decide +kernel
theorem dX9_fits_20 : decode cX9_fits 20 = .ok (.iload 4, 2) := by decide +kernel
theorem dX9_fits_22 : decode cX9_fits 22 = .ok (.ldc 115, 2) := by decide +kernel
theorem dX9_fits_24 : decode cX9_fits 24 = .ok (.invokevirtual 135, 3) := by decide +kernel
theorem dX9_fits_27 : decode cX9_fits 27 = .ok (.istore 5, 2) := by decide +kernel
theorem dX9_fits_29 : decode cX9_fits 29 = .ok (.iload 5, 2) := by decide +kernel
theorem dX9_fits_31 : decode cX9_fits 31 = .ok (.ifCond .le 11, 3) := by decide +kernel
theorem dX9_fits_34 : decode cX9_fits 34 = .ok (.aload_n 0, 1) := by decide +kernel
theorem dX9_fits_35 : decode cX9_fits 35 = .ok (.iload_n 3, 1) := by decide +kernel
theorem dX9_fits_36 : decode cX9_fits 36 = .ok (.invokevirtual 173, 3) := by decide +kernel
theorem dX9_fits_39 : decode cX9_fits 39 = .ok (.goto 4, 3) := by decide +kernel
theorem dX9_fits_42 : decode cX9_fits 42 = .ok (.iconst (-1), 1) := by decide +kernel
theorem dX9_fits_43 : decode cX9_fits 43 = .ok (.istore 4, 2) := by decide +kernel
theorem dX9_fits_45 : decode cX9_fits 45 = .ok (.goto (-32), 3) := by decide +kernel
theorem dX9_fits_48 : decode cX9_fits 48 = .ok (.iconst 1, 1) := by decide +kernel
theorem dX9_fits_49 : decode cX9_fits 49 = .ok (.istore 5, 2) := by decide +kernel
theorem dX9_fits_51 : decode cX9_fits 51 = .ok (.iconst 0, 1) := by decide +kernel
theorem dX9_fits_52 : decode cX9_fits 52 = .ok (.istore 6, 2) := by decide +kernel
theorem dX9_fits_54 : decode cX9_fits 54 = .ok (.iload 6, 2) := by decide +kernel
theorem dX9_fits_56 : decode cX9_fits 56 = .ok (.aload_n 0, 1) := by decide +kernel
theorem dX9_fits_57 : decode cX9_fits 57 = .ok (.getfield 86, 3) := by decide +kernel
theorem dX9_fits_60 : decode cX9_fits 60 = .ok (.if_icmp .ge 31, 3) := by decide +kernel
theorem dX9_fits_63 : decode cX9_fits 63 = .ok (.iload 5, 2) := by decide +kernel
theorem dX9_fits_65 : decode cX9_fits 65 = .ok (.ifCond .eq 17, 3) := by decide +kernel
theorem dX9_fits_68 : decode cX9_fits 68 = .ok (.aload_n 0, 1) := by decide +kernel
theorem dX9_fits_69 : decode cX9_fits 69 = .ok (.getfield 43, 3) := by decide +kernel
theorem dX9_fits_72 : decode cX9_fits 72 = .ok (.iload 6, 2) := by decide +kernel
theorem dX9_fits_74 : decode cX9_fits 74 = .ok (.iaload, 1) := by decide +kernel
theorem dX9_fits_75 : decode cX9_fits 75 = .ok (.ifCond .ne 7, 3) := by decide +kernel
theorem dX9_fits_78 : decode cX9_fits 78 = .ok (.iconst 1, 1) := by decide +kernel
theorem dX9_fits_79 : decode cX9_fits 79 = .ok (.goto 4, 3) := by decide +kernel
theorem dX9_fits_82 : decode cX9_fits 82 = .ok (.iconst 0, 1) := by decide +kernel
theorem dX9_fits_83 : decode cX9_fits 83 = .ok (.istore 5, 2) := by decide +kernel
theorem dX9_fits_85 : decode cX9_fits 85 = .ok (.iinc 6 1, 3) := by decide +kernel
theorem dX9_fits_88 : decode cX9_fits 88 = .ok (.goto (-34), 3) := by decide +kernel
theorem dX9_fits_91 : decode cX9_fits 91 = .ok (.iload 5, 2) := by decide +kernel
theorem dX9_fits_93 : decode cX9_fits 93 = .ok (.ireturn, 1) := by decide +kernel
theorem dX9_reach_0 : decode cX9_reach 0 = .ok (.iconst 0, 1) := by decide +kernel
theorem dX9_reach_1 : decode cX9_reach 1 = .ok (.istore_n 2, 1) := by decide +kernel
theorem dX9_reach_2 : decode cX9_reach 2 = .ok (.iconst 0, 1) := by decide +kernel
theorem dX9_reach_3 : decode cX9_reach 3 = .ok (.istore_n 3, 1) := by decide +kernel
theorem dX9_reach_4 : decode cX9_reach 4 = .ok (.iconst 0, 1) := by decide +kernel
theorem dX9_reach_5 : decode cX9_reach 5 = .ok (.istore 4, 2) := by decide +kernel
theorem dX9_reach_7 : decode cX9_reach 7 = .ok (.iload 4, 2) := by decide +kernel
theorem dX9_reach_9 : decode cX9_reach 9 = .ok (.aload_n 0, 1) := by decide +kernel
theorem dX9_reach_10 : decode cX9_reach 10 = .ok (.getfield 86, 3) := by decide +kernel
theorem dX9_reach_13 : decode cX9_reach 13 = .ok (.if_icmp .ge 82, 3) := by decide +kernel
theorem dX9_reach_16 : decode cX9_reach 16 = .ok (.aload_n 0, 1) := by decide +kernel
theorem dX9_reach_17 : decode cX9_reach 17 = .ok (.getfield 62, 3) := by decide +kernel
theorem dX9_reach_20 : decode cX9_reach 20 = .ok (.iload 4, 2) := by decide +kernel
theorem dX9_reach_22 : decode cX9_reach 22 = .ok (.aload_n 0, 1) := by decide +kernel
theorem dX9_reach_23 : decode cX9_reach 23 = .ok (.getfield 43, 3) := by decide +kernel
theorem dX9_reach_26 : decode cX9_reach 26 = .ok (.iload 4, 2) := by decide +kernel
theorem dX9_reach_28 : decode cX9_reach 28 = .ok (.iaload, 1) := by decide +kernel
theorem dX9_reach_29 : decode cX9_reach 29 = .ok (.ifCond .le 7, 3) := by decide +kernel
theorem dX9_reach_32 : decode cX9_reach 32 = .ok (.iconst 1, 1) := by decide +kernel
theorem dX9_reach_33 : decode cX9_reach 33 = .ok (.goto 4, 3) := by decide +kernel
theorem dX9_reach_36 : decode cX9_reach 36 = .ok (.iconst 0, 1) := by decide +kernel
theorem dX9_reach_37 : decode cX9_reach 37 = .ok (.bastore, 1) := by decide +kernel
theorem dX9_reach_38 : decode cX9_reach 38 = .ok (.aload_n 0, 1) := by decide +kernel
theorem dX9_reach_39 : decode cX9_reach 39 = .ok (.getfield 62, 3) := by decide +kernel
theorem dX9_reach_42 : decode cX9_reach 42 = .ok (.bipush 10, 2) := by decide +kernel
theorem dX9_reach_44 : decode cX9_reach 44 = .ok (.iload 4, 2) := by decide +kernel
theorem dX9_reach_46 : decode cX9_reach 46 = .ok (.iadd, 1) := by decide +kernel
theorem dX9_reach_47 : decode cX9_reach 47 = .ok (.iconst 0, 1) := by decide +kernel
theorem dX9_reach_48 : decode cX9_reach 48 = .ok (.bastore, 1) := by decide +kernel
theorem dX9_reach_49 : decode cX9_reach 49 = .ok (.aload_n 0, 1) := by decide +kernel
theorem dX9_reach_50 : decode cX9_reach 50 = .ok (.getfield 55, 3) := by decide +kernel
theorem dX9_reach_53 : decode cX9_reach 53 = .ok (.iload 4, 2) := by decide +kernel
theorem dX9_reach_55 : decode cX9_reach 55 = .ok (.iconst (-1), 1) := by decide +kernel
theorem dX9_reach_56 : decode cX9_reach 56 = .ok (.iastore, 1) := by decide +kernel
theorem dX9_reach_57 : decode cX9_reach 57 = .ok (.aload_n 0, 1) := by decide +kernel
theorem dX9_reach_58 : decode cX9_reach 58 = .ok (.getfield 55, 3) := by decide +kernel
theorem dX9_reach_61 : decode cX9_reach 61 = .ok (.bipush 10, 2) := by decide +kernel
theorem dX9_reach_63 : decode cX9_reach 63 = .ok (.iload 4, 2) := by decide +kernel
theorem dX9_reach_65 : decode cX9_reach 65 = .ok (.iadd, 1) := by decide +kernel
theorem dX9_reach_66 : decode cX9_reach 66 = .ok (.iconst (-1), 1) := by decide +kernel
theorem dX9_reach_67 : decode cX9_reach 67 = .ok (.iastore, 1) := by decide +kernel
theorem dX9_reach_68 : decode cX9_reach 68 = .ok (.aload_n 0, 1) := by decide +kernel
theorem dX9_reach_69 : decode cX9_reach 69 = .ok (.getfield 62, 3) := by decide +kernel
theorem dX9_reach_72 : decode cX9_reach 72 = .ok (.iload 4, 2) := by decide +kernel
theorem dX9_reach_74 : decode cX9_reach 74 = .ok (.baload, 1) := by decide +kernel
theorem dX9_reach_75 : decode cX9_reach 75 = .ok (.ifCond .eq 14, 3) := by decide +kernel
theorem dX9_reach_78 : decode cX9_reach 78 = .ok (.aload_n 0, 1) := by decide +kernel
theorem dX9_reach_79 : decode cX9_reach 79 = .ok (.getfield 65, 3) := by decide +kernel
theorem dX9_reach_82 : decode cX9_reach 82 = .ok (.iload_n 3, 1) := by decide +kernel
theorem dX9_reach_83 : decode cX9_reach 83 = .ok (.iload 4, 2) := by decide +kernel
theorem dX9_reach_85 : decode cX9_reach 85 = .ok (.iastore, 1) := by decide +kernel
theorem dX9_reach_86 : decode cX9_reach 86 = .ok (.iinc 3 1, 3) := by decide +kernel
theorem dX9_reach_89 : decode cX9_reach 89 = .ok (.iinc 4 1, 3) := by decide +kernel
theorem dX9_reach_92 : decode cX9_reach 92 = .ok (.goto (-85), 3) := by decide +kernel
theorem dX9_reach_95 : decode cX9_reach 95 = .ok (.iload_n 2, 1) := by decide +kernel
theorem dX9_reach_96 : decode cX9_reach 96 = .ok (.iload_n 3, 1) := by decide +kernel
theorem dX9_reach_97 : decode cX9_reach 97 = .ok (.if_icmp .ge 170, 3) := by decide +kernel
theorem dX9_reach_100 : decode cX9_reach 100 = .ok (.aload_n 0, 1) := by decide +kernel
theorem dX9_reach_101 : decode cX9_reach 101 = .ok (.getfield 65, 3) := by decide +kernel
theorem dX9_reach_104 : decode cX9_reach 104 = .ok (.iload_n 2, 1) := by decide +kernel
theorem dX9_reach_105 : decode cX9_reach 105 = .ok (.iaload, 1) := by decide +kernel
theorem dX9_reach_106 : decode cX9_reach 106 = .ok (.istore 4, 2) := by decide +kernel
theorem dX9_reach_108 : decode cX9_reach 108 = .ok (.iinc 2 1, 3) := by decide +kernel
theorem dX9_reach_111 : decode cX9_reach 111 = .ok (.iconst 0, 1) := by decide +kernel
theorem dX9_reach_112 : decode cX9_reach 112 = .ok (.istore 5, 2) := by decide +kernel
theorem dX9_reach_114 : decode cX9_reach 114 = .ok (.iload 5, 2) := by decide +kernel
theorem dX9_reach_116 : decode cX9_reach 116 = .ok (.aload_n 0, 1) := by decide +kernel
theorem dX9_reach_117 : decode cX9_reach 117 = .ok (.getfield 86, 3) := by decide +kernel
theorem dX9_reach_120 : decode cX9_reach 120 = .ok (.if_icmp .ge 144, 3) := by decide +kernel
theorem dX9_reach_123 : decode cX9_reach 123 = .ok (.iload 4, 2) := by decide +kernel
theorem dX9_reach_125 : decode cX9_reach 125 = .ok (.bipush 10, 2) := by decide +kernel
theorem dX9_reach_127 : decode cX9_reach 127 = .ok (.if_icmp .ge 11, 3) := by decide +kernel
theorem dX9_reach_130 : decode cX9_reach 130 = .ok (.bipush 10, 2) := by decide +kernel
theorem dX9_reach_132 : decode cX9_reach 132 = .ok (.iload 5, 2) := by decide +kernel
theorem dX9_reach_134 : decode cX9_reach 134 = .ok (.iadd, 1) := by decide +kernel
theorem dX9_reach_135 : decode cX9_reach 135 = .ok (.goto 5, 3) := by decide +kernel
theorem dX9_reach_138 : decode cX9_reach 138 = .ok (.iload 5, 2) := by decide +kernel
theorem dX9_reach_140 : decode cX9_reach 140 = .ok (.istore 6, 2) := by decide +kernel
theorem dX9_reach_142 : decode cX9_reach 142 = .ok (.iload 4, 2) := by decide +kernel
theorem dX9_reach_144 : decode cX9_reach 144 = .ok (.bipush 10, 2) := by decide +kernel
theorem dX9_reach_146 : decode cX9_reach 146 = .ok (.if_icmp .ge 28, 3) := by decide +kernel
theorem dX9_reach_149 : decode cX9_reach 149 = .ok (.aload_n 0, 1) := by decide +kernel
theorem dX9_reach_150 : decode cX9_reach 150 = .ok (.getfield 37, 3) := by decide +kernel
theorem dX9_reach_153 : decode cX9_reach 153 = .ok (.bipush 10, 2) := by decide +kernel
theorem dX9_reach_155 : decode cX9_reach 155 = .ok (.iload 4, 2) := by decide +kernel
theorem dX9_reach_157 : decode cX9_reach 157 = .ok (.imul, 1) := by decide +kernel
theorem dX9_reach_158 : decode cX9_reach 158 = .ok (.iload 5, 2) := by decide +kernel
theorem dX9_reach_160 : decode cX9_reach 160 = .ok (.iadd, 1) := by decide +kernel
theorem dX9_reach_161 : decode cX9_reach 161 = .ok (.iaload, 1) := by decide +kernel
theorem dX9_reach_162 : decode cX9_reach 162 = .ok (.iload_n 1, 1) := by decide +kernel
theorem dX9_reach_163 : decode cX9_reach 163 = .ok (.if_icmp .gt 7, 3) := by decide +kernel
theorem dX9_reach_166 : decode cX9_reach 166 = .ok (.iconst 1, 1) := by decide +kernel
theorem dX9_reach_167 : decode cX9_reach 167 = .ok (.goto 31, 3) := by decide +kernel
theorem dX9_reach_170 : decode cX9_reach 170 = .ok (.iconst 0, 1) := by decide +kernel
theorem dX9_reach_171 : decode cX9_reach 171 = .ok (.goto 27, 3) := by decide +kernel
theorem dX9_reach_174 : decode cX9_reach 174 = .ok (.aload_n 0, 1) := by decide +kernel
theorem dX9_reach_175 : decode cX9_reach 175 = .ok (.getfield 40, 3) := by decide +kernel
theorem dX9_reach_178 : decode cX9_reach 178 = .ok (.bipush 10, 2) := by decide +kernel
theorem dX9_reach_180 : decode cX9_reach 180 = .ok (.iload 5, 2) := by decide +kernel
theorem dX9_reach_182 : decode cX9_reach 182 = .ok (.imul, 1) := by decide +kernel
theorem dX9_reach_183 : decode cX9_reach 183 = .ok (.iload 4, 2) := by decide +kernel
theorem dX9_reach_185 : decode cX9_reach 185 = .ok (.iadd, 1) := by decide +kernel
theorem dX9_reach_186 : decode cX9_reach 186 = .ok (.bipush 10, 2) := by decide +kernel
theorem dX9_reach_188 : decode cX9_reach 188 = .ok (.isub, 1) := by decide +kernel
theorem dX9_reach_189 : decode cX9_reach 189 = .ok (.iaload, 1) := by decide +kernel
theorem dX9_reach_190 : decode cX9_reach 190 = .ok (.ifCond .le 7, 3) := by decide +kernel
theorem dX9_reach_193 : decode cX9_reach 193 = .ok (.iconst 1, 1) := by decide +kernel
theorem dX9_reach_194 : decode cX9_reach 194 = .ok (.goto 4, 3) := by decide +kernel
theorem dX9_reach_197 : decode cX9_reach 197 = .ok (.iconst 0, 1) := by decide +kernel
theorem dX9_reach_198 : decode cX9_reach 198 = .ok (.istore 7, 2) := by decide +kernel
theorem dX9_reach_200 : decode cX9_reach 200 = .ok (.iload 7, 2) := by decide +kernel
theorem dX9_reach_202 : decode cX9_reach 202 = .ok (.ifCond .eq 56, 3) := by decide +kernel
theorem dX9_reach_205 : decode cX9_reach 205 = .ok (.aload_n 0, 1) := by decide +kernel
theorem dX9_reach_206 : decode cX9_reach 206 = .ok (.getfield 62, 3) := by decide +kernel
theorem dX9_reach_209 : decode cX9_reach 209 = .ok (.iload 6, 2) := by decide +kernel
theorem dX9_reach_211 : decode cX9_reach 211 = .ok (.baload, 1) := by decide +kernel
theorem dX9_reach_212 : decode cX9_reach 212 = .ok (.ifCond .ne 46, 3) := by decide +kernel
theorem dX9_reach_215 : decode cX9_reach 215 = .ok (.aload_n 0, 1) := by decide +kernel
theorem dX9_reach_216 : decode cX9_reach 216 = .ok (.getfield 62, 3) := by decide +kernel
theorem dX9_reach_219 : decode cX9_reach 219 = .ok (.iload 6, 2) := by decide +kernel
theorem dX9_reach_221 : decode cX9_reach 221 = .ok (.iconst 1, 1) := by decide +kernel
theorem dX9_reach_222 : decode cX9_reach 222 = .ok (.bastore, 1) := by decide +kernel
theorem dX9_reach_223 : decode cX9_reach 223 = .ok (.aload_n 0, 1) := by decide +kernel
theorem dX9_reach_224 : decode cX9_reach 224 = .ok (.getfield 55, 3) := by decide +kernel
theorem dX9_reach_227 : decode cX9_reach 227 = .ok (.iload 6, 2) := by decide +kernel
theorem dX9_reach_229 : decode cX9_reach 229 = .ok (.iload 4, 2) := by decide +kernel
theorem dX9_reach_231 : decode cX9_reach 231 = .ok (.bipush 10, 2) := by decide +kernel
theorem dX9_reach_233 : decode cX9_reach 233 = .ok (.if_icmp .ge 8, 3) := by decide +kernel
theorem dX9_reach_236 : decode cX9_reach 236 = .ok (.iload 4, 2) := by decide +kernel
theorem dX9_reach_238 : decode cX9_reach 238 = .ok (.goto 8, 3) := by decide +kernel
theorem dX9_reach_241 : decode cX9_reach 241 = .ok (.iload 4, 2) := by decide +kernel
theorem dX9_reach_243 : decode cX9_reach 243 = .ok (.bipush 10, 2) := by decide +kernel
theorem dX9_reach_245 : decode cX9_reach 245 = .ok (.isub, 1) := by decide +kernel
theorem dX9_reach_246 : decode cX9_reach 246 = .ok (.iastore, 1) := by decide +kernel
theorem dX9_reach_247 : decode cX9_reach 247 = .ok (.aload_n 0, 1) := by decide +kernel
theorem dX9_reach_248 : decode cX9_reach 248 = .ok (.getfield 65, 3) := by decide +kernel
theorem dX9_reach_251 : decode cX9_reach 251 = .ok (.iload_n 3, 1) := by decide +kernel
theorem dX9_reach_252 : decode cX9_reach 252 = .ok (.iload 6, 2) := by decide +kernel
theorem dX9_reach_254 : decode cX9_reach 254 = .ok (.iastore, 1) := by decide +kernel
theorem dX9_reach_255 : decode cX9_reach 255 = .ok (.iinc 3 1, 3) := by decide +kernel
theorem dX9_reach_258 : decode cX9_reach 258 = .ok (.iinc 5 1, 3) := by decide +kernel
theorem dX9_reach_261 : decode cX9_reach 261 = .ok (.goto (-147), 3) := by decide +kernel
theorem dX9_reach_264 : decode cX9_reach 264 = .ok (.goto (-169), 3) := by decide +kernel
theorem dX9_reach_267 : decode cX9_reach 267 = .ok (.iconst 0, 1) := by decide +kernel
theorem dX9_reach_268 : decode cX9_reach 268 = .ok (.istore 4, 2) := by decide +kernel
theorem dX9_reach_270 : decode cX9_reach 270 = .ok (.iload 4, 2) := by decide +kernel
theorem dX9_reach_272 : decode cX9_reach 272 = .ok (.aload_n 0, 1) := by decide +kernel
theorem dX9_reach_273 : decode cX9_reach 273 = .ok (.getfield 86, 3) := by decide +kernel
theorem dX9_reach_276 : decode cX9_reach 276 = .ok (.if_icmp .ge 35, 3) := by decide +kernel
theorem dX9_reach_279 : decode cX9_reach 279 = .ok (.aload_n 0, 1) := by decide +kernel
theorem dX9_reach_280 : decode cX9_reach 280 = .ok (.getfield 62, 3) := by decide +kernel
theorem dX9_reach_283 : decode cX9_reach 283 = .ok (.bipush 10, 2) := by decide +kernel
theorem dX9_reach_285 : decode cX9_reach 285 = .ok (.iload 4, 2) := by decide +kernel
theorem dX9_reach_287 : decode cX9_reach 287 = .ok (.iadd, 1) := by decide +kernel
theorem dX9_reach_288 : decode cX9_reach 288 = .ok (.baload, 1) := by decide +kernel
theorem dX9_reach_289 : decode cX9_reach 289 = .ok (.ifCond .eq 16, 3) := by decide +kernel
theorem dX9_reach_292 : decode cX9_reach 292 = .ok (.aload_n 0, 1) := by decide +kernel
theorem dX9_reach_293 : decode cX9_reach 293 = .ok (.getfield 46, 3) := by decide +kernel
theorem dX9_reach_296 : decode cX9_reach 296 = .ok (.iload 4, 2) := by decide +kernel
theorem dX9_reach_298 : decode cX9_reach 298 = .ok (.iaload, 1) := by decide +kernel
theorem dX9_reach_299 : decode cX9_reach 299 = .ok (.ifCond .le 6, 3) := by decide +kernel
theorem dX9_reach_302 : decode cX9_reach 302 = .ok (.iload 4, 2) := by decide +kernel
theorem dX9_reach_304 : decode cX9_reach 304 = .ok (.ireturn, 1) := by decide +kernel
theorem dX9_reach_305 : decode cX9_reach 305 = .ok (.iinc 4 1, 3) := by decide +kernel
theorem dX9_reach_308 : decode cX9_reach 308 = .ok (.goto (-38), 3) := by decide +kernel
theorem dX9_reach_311 : decode cX9_reach 311 = .ok (.iconst (-1), 1) := by decide +kernel
theorem dX9_reach_312 : decode cX9_reach 312 = .ok (.ireturn, 1) := by decide +kernel
theorem dX9_findFarthest_0 : decode cX9_findFarthest 0 = .ok (.iconst 0, 1) := by decide +kernel
theorem dX9_findFarthest_1 : decode cX9_findFarthest 1 = .ok (.istore_n 3, 1) := by decide +kernel
theorem dX9_findFarthest_2 : decode cX9_findFarthest 2 = .ok (.aload_n 0, 1) := by decide +kernel
theorem dX9_findFarthest_3 : decode cX9_findFarthest 3 = .ok (.iload_n 1, 1) := by decide +kernel
theorem dX9_findFarthest_4 : decode cX9_findFarthest 4 = .ok (.iload_n 2, 1) := by decide +kernel
theorem dX9_findFarthest_5 : decode cX9_findFarthest 5 = .ok (.iload_n 3, 1) := by decide +kernel
theorem dX9_findFarthest_6 : decode cX9_findFarthest 6 = .ok (.invokevirtual 176, 3) := by decide +kernel
theorem dX9_findFarthest_9 : decode cX9_findFarthest 9 = .ok (.ifCond .ne 86, 3) := by decide +kernel
theorem dX9_findFarthest_12 : decode cX9_findFarthest 12 = .ok (.ldc 115, 2) := by decide +kernel
theorem dX9_findFarthest_14 : decode cX9_findFarthest 14 = .ok (.istore 4, 2) := by decide +kernel
theorem dX9_findFarthest_16 : decode cX9_findFarthest 16 = .ok (.iconst 0, 1) := by decide +kernel
theorem dX9_findFarthest_17 : decode cX9_findFarthest 17 = .ok (.istore 5, 2) := by decide +kernel
theorem dX9_findFarthest_19 : decode cX9_findFarthest 19 = .ok (.iload 5, 2) := by decide +kernel
theorem dX9_findFarthest_21 : decode cX9_findFarthest 21 = .ok (.aload_n 0, 1) := by decide +kernel
theorem dX9_findFarthest_22 : decode cX9_findFarthest 22 = .ok (.getfield 86, 3) := by decide +kernel
theorem dX9_findFarthest_25 : decode cX9_findFarthest 25 = .ok (.if_icmp .ge 64, 3) := by decide +kernel
theorem dX9_findFarthest_28 : decode cX9_findFarthest 28 = .ok (.iconst 0, 1) := by decide +kernel
theorem dX9_findFarthest_29 : decode cX9_findFarthest 29 = .ok (.istore 6, 2) := by decide +kernel
theorem dX9_findFarthest_31 : decode cX9_findFarthest 31 = .ok (.iload 6, 2) := by decide +kernel
theorem dX9_findFarthest_33 : decode cX9_findFarthest 33 = .ok (.aload_n 0, 1) := by decide +kernel
theorem dX9_findFarthest_34 : decode cX9_findFarthest 34 = .ok (.getfield 86, 3) := by decide +kernel
theorem dX9_findFarthest_37 : decode cX9_findFarthest 37 = .ok (.if_icmp .ge 46, 3) := by decide +kernel
theorem dX9_findFarthest_40 : decode cX9_findFarthest 40 = .ok (.aload_n 0, 1) := by decide +kernel
theorem dX9_findFarthest_41 : decode cX9_findFarthest 41 = .ok (.getfield 37, 3) := by decide +kernel
theorem dX9_findFarthest_44 : decode cX9_findFarthest 44 = .ok (.bipush 10, 2) := by decide +kernel
theorem dX9_findFarthest_46 : decode cX9_findFarthest 46 = .ok (.iload 5, 2) := by decide +kernel
theorem dX9_findFarthest_48 : decode cX9_findFarthest 48 = .ok (.imul, 1) := by decide +kernel
theorem dX9_findFarthest_49 : decode cX9_findFarthest 49 = .ok (.iload 6, 2) := by decide +kernel
theorem dX9_findFarthest_51 : decode cX9_findFarthest 51 = .ok (.iadd, 1) := by decide +kernel
theorem dX9_findFarthest_52 : decode cX9_findFarthest 52 = .ok (.iaload, 1) := by decide +kernel
theorem dX9_findFarthest_53 : decode cX9_findFarthest 53 = .ok (.istore 7, 2) := by decide +kernel
theorem dX9_findFarthest_55 : decode cX9_findFarthest 55 = .ok (.iload 7, 2) := by decide +kernel
theorem dX9_findFarthest_57 : decode cX9_findFarthest 57 = .ok (.iload_n 3, 1) := by decide +kernel
theorem dX9_findFarthest_58 : decode cX9_findFarthest 58 = .ok (.if_icmp .le 15, 3) := by decide +kernel
theorem dX9_findFarthest_61 : decode cX9_findFarthest 61 = .ok (.iload 7, 2) := by decide +kernel
theorem dX9_findFarthest_63 : decode cX9_findFarthest 63 = .ok (.iload 4, 2) := by decide +kernel
theorem dX9_findFarthest_65 : decode cX9_findFarthest 65 = .ok (.if_icmp .ge 8, 3) := by decide +kernel
theorem dX9_findFarthest_68 : decode cX9_findFarthest 68 = .ok (.iload 7, 2) := by decide +kernel
theorem dX9_findFarthest_70 : decode cX9_findFarthest 70 = .ok (.goto 5, 3) := by decide +kernel
theorem dX9_findFarthest_73 : decode cX9_findFarthest 73 = .ok (.iload 4, 2) := by decide +kernel
theorem dX9_findFarthest_75 : decode cX9_findFarthest 75 = .ok (.istore 4, 2) := by decide +kernel
theorem dX9_findFarthest_77 : decode cX9_findFarthest 77 = .ok (.iinc 6 1, 3) := by decide +kernel
theorem dX9_findFarthest_80 : decode cX9_findFarthest 80 = .ok (.goto (-49), 3) := by decide +kernel
theorem dX9_findFarthest_83 : decode cX9_findFarthest 83 = .ok (.iinc 5 1, 3) := by decide +kernel
theorem dX9_findFarthest_86 : decode cX9_findFarthest 86 = .ok (.goto (-67), 3) := by decide +kernel
theorem dX9_findFarthest_89 : decode cX9_findFarthest 89 = .ok (.iload 4, 2) := by decide +kernel
theorem dX9_findFarthest_91 : decode cX9_findFarthest 91 = .ok (.istore_n 3, 1) := by decide +kernel
theorem dX9_findFarthest_92 : decode cX9_findFarthest 92 = .ok (.goto (-90), 3) := by decide +kernel
theorem dX9_findFarthest_95 : decode cX9_findFarthest 95 = .ok (.iload_n 3, 1) := by decide +kernel
theorem dX9_findFarthest_96 : decode cX9_findFarthest 96 = .ok (.ireturn, 1) := by decide +kernel
theorem dX9_far_0 : decode cX9_far 0 = .ok (.aload_n 0, 1) := by decide +kernel
theorem dX9_far_1 : decode cX9_far 1 = .ok (.iload_n 1, 1) := by decide +kernel
theorem dX9_far_2 : decode cX9_far 2 = .ok (.iload_n 2, 1) := by decide +kernel
theorem dX9_far_3 : decode cX9_far 3 = .ok (.invokevirtual 146, 3) := by decide +kernel
theorem dX9_far_6 : decode cX9_far 6 = .ok (.istore_n 3, 1) := by decide +kernel
theorem dX9_far_7 : decode cX9_far 7 = .ok (.iload_n 3, 1) := by decide +kernel
theorem dX9_far_8 : decode cX9_far 8 = .ok (.ifCond .eq 7, 3) := by decide +kernel
theorem dX9_far_11 : decode cX9_far 11 = .ok (.iload_n 3, 1) := by decide +kernel
theorem dX9_far_12 : decode cX9_far 12 = .ok (.goto 9, 3) := by decide +kernel
theorem dX9_far_15 : decode cX9_far 15 = .ok (.aload_n 0, 1) := by decide +kernel
theorem dX9_far_16 : decode cX9_far 16 = .ok (.iload_n 1, 1) := by decide +kernel
theorem dX9_far_17 : decode cX9_far 17 = .ok (.iload_n 2, 1) := by decide +kernel
theorem dX9_far_18 : decode cX9_far 18 = .ok (.invokevirtual 179, 3) := by decide +kernel
theorem dX9_far_21 : decode cX9_far 21 = .ok (.ireturn, 1) := by decide +kernel
theorem dX9_shown_0 : decode cX9_shown 0 = .ok (.aload_n 0, 1) := by decide +kernel
theorem dX9_shown_1 : decode cX9_shown 1 = .ok (.iload_n 1, 1) := by decide +kernel
theorem dX9_shown_2 : decode cX9_shown 2 = .ok (.invokevirtual 111, 3) := by decide +kernel
theorem dX9_shown_5 : decode cX9_shown 5 = .ok (.ifCond .eq 19, 3) := by decide +kernel
theorem dX9_shown_8 : decode cX9_shown 8 = .ok (.aload_n 0, 1) := by decide +kernel
theorem dX9_shown_9 : decode cX9_shown 9 = .ok (.iload_n 2, 1) := by decide +kernel
theorem dX9_shown_10 : decode cX9_shown 10 = .ok (.invokevirtual 111, 3) := by decide +kernel
theorem dX9_shown_13 : decode cX9_shown 13 = .ok (.ifCond .eq 11, 3) := by decide +kernel
theorem dX9_shown_16 : decode cX9_shown 16 = .ok (.aload_n 0, 1) := by decide +kernel
theorem dX9_shown_17 : decode cX9_shown 17 = .ok (.iload_n 3, 1) := by decide +kernel
theorem dX9_shown_18 : decode cX9_shown 18 = .ok (.invokevirtual 104, 3) := by decide +kernel
theorem dX9_shown_21 : decode cX9_shown 21 = .ok (.ifCond .ne 6, 3) := by decide +kernel
theorem dX9_shown_24 : decode cX9_shown 24 = .ok (.bipush (-2), 2) := by decide +kernel
theorem dX9_shown_26 : decode cX9_shown 26 = .ok (.ireturn, 1) := by decide +kernel
theorem dX9_shown_27 : decode cX9_shown 27 = .ok (.aload_n 0, 1) := by decide +kernel
theorem dX9_shown_28 : decode cX9_shown 28 = .ok (.iload_n 1, 1) := by decide +kernel
theorem dX9_shown_29 : decode cX9_shown 29 = .ok (.iload_n 2, 1) := by decide +kernel
theorem dX9_shown_30 : decode cX9_shown 30 = .ok (.invokevirtual 146, 3) := by decide +kernel
theorem dX9_shown_33 : decode cX9_shown 33 = .ok (.istore 4, 2) := by decide +kernel
theorem dX9_shown_35 : decode cX9_shown 35 = .ok (.iload 4, 2) := by decide +kernel
theorem dX9_shown_37 : decode cX9_shown 37 = .ok (.ifCond .eq 6, 3) := by decide +kernel
theorem dX9_shown_40 : decode cX9_shown 40 = .ok (.iload 4, 2) := by decide +kernel
theorem dX9_shown_42 : decode cX9_shown 42 = .ok (.ireturn, 1) := by decide +kernel
theorem dX9_shown_43 : decode cX9_shown 43 = .ok (.aload_n 0, 1) := by decide +kernel
theorem dX9_shown_44 : decode cX9_shown 44 = .ok (.iload_n 1, 1) := by decide +kernel
theorem dX9_shown_45 : decode cX9_shown 45 = .ok (.iload_n 2, 1) := by decide +kernel
theorem dX9_shown_46 : decode cX9_shown 46 = .ok (.invokevirtual 179, 3) := by decide +kernel
theorem dX9_shown_49 : decode cX9_shown 49 = .ok (.istore 5, 2) := by decide +kernel
theorem dX9_shown_51 : decode cX9_shown 51 = .ok (.iload 5, 2) := by decide +kernel
theorem dX9_shown_53 : decode cX9_shown 53 = .ok (.ifCond .ne 5, 3) := by decide +kernel
theorem dX9_shown_56 : decode cX9_shown 56 = .ok (.iconst 0, 1) := by decide +kernel
theorem dX9_shown_57 : decode cX9_shown 57 = .ok (.ireturn, 1) := by decide +kernel
theorem dX9_shown_58 : decode cX9_shown 58 = .ok (.aload_n 0, 1) := by decide +kernel
theorem dX9_shown_59 : decode cX9_shown 59 = .ok (.iload_n 1, 1) := by decide +kernel
theorem dX9_shown_60 : decode cX9_shown 60 = .ok (.iload_n 2, 1) := by decide +kernel
theorem dX9_shown_61 : decode cX9_shown 61 = .ok (.iload 5, 2) := by decide +kernel
theorem dX9_shown_63 : decode cX9_shown 63 = .ok (.iconst 1, 1) := by decide +kernel
theorem dX9_shown_64 : decode cX9_shown 64 = .ok (.isub, 1) := by decide +kernel
theorem dX9_shown_65 : decode cX9_shown 65 = .ok (.invokevirtual 176, 3) := by decide +kernel
theorem dX9_shown_68 : decode cX9_shown 68 = .ok (.istore 6, 2) := by decide +kernel
theorem dX9_shown_70 : decode cX9_shown 70 = .ok (.iload 6, 2) := by decide +kernel
theorem dX9_shown_72 : decode cX9_shown 72 = .ok (.ifCond .ne 16, 3) := by decide +kernel
theorem dX9_shown_75 : decode cX9_shown 75 = .ok (.aload_n 0, 1) := by decide +kernel
theorem dX9_shown_76 : decode cX9_shown 76 = .ok (.getfield 62, 3) := by decide +kernel
theorem dX9_shown_79 : decode cX9_shown 79 = .ok (.iload_n 3, 1) := by decide +kernel
theorem dX9_shown_80 : decode cX9_shown 80 = .ok (.baload, 1) := by decide +kernel
theorem dX9_shown_81 : decode cX9_shown 81 = .ok (.ifCond .eq 7, 3) := by decide +kernel
theorem dX9_shown_84 : decode cX9_shown 84 = .ok (.iconst 1, 1) := by decide +kernel
theorem dX9_shown_85 : decode cX9_shown 85 = .ok (.goto 4, 3) := by decide +kernel
theorem dX9_shown_88 : decode cX9_shown 88 = .ok (.iconst 0, 1) := by decide +kernel
theorem dX9_shown_89 : decode cX9_shown 89 = .ok (.ireturn, 1) := by decide +kernel
theorem dX9_some_0 : decode cX9_some 0 = .ok (.aload_n 0, 1) := by decide +kernel
theorem dX9_some_1 : decode cX9_some 1 = .ok (.iload_n 1, 1) := by decide +kernel
theorem dX9_some_2 : decode cX9_some 2 = .ok (.invokevirtual 111, 3) := by decide +kernel
theorem dX9_some_5 : decode cX9_some 5 = .ok (.ifCond .eq 11, 3) := by decide +kernel
theorem dX9_some_8 : decode cX9_some 8 = .ok (.aload_n 0, 1) := by decide +kernel
theorem dX9_some_9 : decode cX9_some 9 = .ok (.iload_n 2, 1) := by decide +kernel
theorem dX9_some_10 : decode cX9_some 10 = .ok (.invokevirtual 111, 3) := by decide +kernel
theorem dX9_some_13 : decode cX9_some 13 = .ok (.ifCond .ne 6, 3) := by decide +kernel
theorem dX9_some_16 : decode cX9_some 16 = .ok (.bipush (-2), 2) := by decide +kernel
theorem dX9_some_18 : decode cX9_some 18 = .ok (.ireturn, 1) := by decide +kernel
theorem dX9_some_19 : decode cX9_some 19 = .ok (.aload_n 0, 1) := by decide +kernel
theorem dX9_some_20 : decode cX9_some 20 = .ok (.iload_n 1, 1) := by decide +kernel
theorem dX9_some_21 : decode cX9_some 21 = .ok (.invokevirtual 123, 3) := by decide +kernel
theorem dX9_some_24 : decode cX9_some 24 = .ok (.istore 4, 2) := by decide +kernel
theorem dX9_some_26 : decode cX9_some 26 = .ok (.aload_n 0, 1) := by decide +kernel
theorem dX9_some_27 : decode cX9_some 27 = .ok (.iload_n 2, 1) := by decide +kernel
theorem dX9_some_28 : decode cX9_some 28 = .ok (.invokevirtual 123, 3) := by decide +kernel
theorem dX9_some_31 : decode cX9_some 31 = .ok (.istore 5, 2) := by decide +kernel
theorem dX9_some_33 : decode cX9_some 33 = .ok (.iload_n 3, 1) := by decide +kernel
theorem dX9_some_34 : decode cX9_some 34 = .ok (.iconst 0, 1) := by decide +kernel
theorem dX9_some_35 : decode cX9_some 35 = .ok (.iload 4, 2) := by decide +kernel
theorem dX9_some_37 : decode cX9_some 37 = .ok (.iload 5, 2) := by decide +kernel
theorem dX9_some_39 : decode cX9_some 39 = .ok (.if_icmp .ge 8, 3) := by decide +kernel
theorem dX9_some_42 : decode cX9_some 42 = .ok (.iload 4, 2) := by decide +kernel
theorem dX9_some_44 : decode cX9_some 44 = .ok (.goto 5, 3) := by decide +kernel
theorem dX9_some_47 : decode cX9_some 47 = .ok (.iload 5, 2) := by decide +kernel
theorem dX9_some_49 : decode cX9_some 49 = .ok (.invokestatic 90, 3) := by decide +kernel
theorem dX9_some_52 : decode cX9_some 52 = .ok (.ifCond .ne 6, 3) := by decide +kernel
theorem dX9_some_55 : decode cX9_some 55 = .ok (.bipush (-3), 2) := by decide +kernel
theorem dX9_some_57 : decode cX9_some 57 = .ok (.ireturn, 1) := by decide +kernel
theorem dX9_some_58 : decode cX9_some 58 = .ok (.aload_n 0, 1) := by decide +kernel
theorem dX9_some_59 : decode cX9_some 59 = .ok (.invokevirtual 142, 3) := by decide +kernel
theorem dX9_some_62 : decode cX9_some 62 = .ok (.ifCond .eq 13, 3) := by decide +kernel
theorem dX9_some_65 : decode cX9_some 65 = .ok (.aload_n 0, 1) := by decide +kernel
theorem dX9_some_66 : decode cX9_some 66 = .ok (.iload_n 1, 1) := by decide +kernel
theorem dX9_some_67 : decode cX9_some 67 = .ok (.iload_n 2, 1) := by decide +kernel
theorem dX9_some_68 : decode cX9_some 68 = .ok (.iload_n 3, 1) := by decide +kernel
theorem dX9_some_69 : decode cX9_some 69 = .ok (.invokevirtual 149, 3) := by decide +kernel
theorem dX9_some_72 : decode cX9_some 72 = .ok (.goto 5, 3) := by decide +kernel
theorem dX9_some_75 : decode cX9_some 75 = .ok (.bipush (-4), 2) := by decide +kernel
theorem dX9_some_77 : decode cX9_some 77 = .ok (.ireturn, 1) := by decide +kernel
theorem dX9_arc_0 : decode cX9_arc 0 = .ok (.aload_n 0, 1) := by decide +kernel
theorem dX9_arc_1 : decode cX9_arc 1 = .ok (.getfield 68, 3) := by decide +kernel
theorem dX9_arc_4 : decode cX9_arc 4 = .ok (.aload_n 0, 1) := by decide +kernel
theorem dX9_arc_5 : decode cX9_arc 5 = .ok (.getfield 182, 3) := by decide +kernel
theorem dX9_arc_8 : decode cX9_arc 8 = .ok (.iload_n 1, 1) := by decide +kernel
theorem dX9_arc_9 : decode cX9_arc 9 = .ok (.iastore, 1) := by decide +kernel
theorem dX9_arc_10 : decode cX9_arc 10 = .ok (.aload_n 0, 1) := by decide +kernel
theorem dX9_arc_11 : decode cX9_arc 11 = .ok (.getfield 71, 3) := by decide +kernel
theorem dX9_arc_14 : decode cX9_arc 14 = .ok (.aload_n 0, 1) := by decide +kernel
theorem dX9_arc_15 : decode cX9_arc 15 = .ok (.getfield 182, 3) := by decide +kernel
theorem dX9_arc_18 : decode cX9_arc 18 = .ok (.iload_n 2, 1) := by decide +kernel
theorem dX9_arc_19 : decode cX9_arc 19 = .ok (.iastore, 1) := by decide +kernel
theorem dX9_arc_20 : decode cX9_arc 20 = .ok (.aload_n 0, 1) := by decide +kernel
theorem dX9_arc_21 : decode cX9_arc 21 = .ok (.getfield 74, 3) := by decide +kernel
theorem dX9_arc_24 : decode cX9_arc 24 = .ok (.aload_n 0, 1) := by decide +kernel
theorem dX9_arc_25 : decode cX9_arc 25 = .ok (.getfield 182, 3) := by decide +kernel
theorem dX9_arc_28 : decode cX9_arc 28 = .ok (.iload_n 3, 1) := by decide +kernel
theorem dX9_arc_29 : decode cX9_arc 29 = .ok (.iastore, 1) := by decide +kernel
theorem dX9_arc_30 : decode cX9_arc 30 = .ok (.aload_n 0, 1) := by decide +kernel
theorem dX9_arc_31 : decode cX9_arc 31 = .ok (.getfield 77, 3) := by decide +kernel
theorem dX9_arc_34 : decode cX9_arc 34 = .ok (.aload_n 0, 1) := by decide +kernel
theorem dX9_arc_35 : decode cX9_arc 35 = .ok (.getfield 182, 3) := by decide +kernel
theorem dX9_arc_38 : decode cX9_arc 38 = .ok (.iload 4, 2) := by decide +kernel
theorem dX9_arc_40 : decode cX9_arc 40 = .ok (.iastore, 1) := by decide +kernel
theorem dX9_arc_41 : decode cX9_arc 41 = .ok (.aload_n 0, 1) := by decide +kernel
theorem dX9_arc_42 : decode cX9_arc 42 = .ok (.getfield 68, 3) := by decide +kernel
theorem dX9_arc_45 : decode cX9_arc 45 = .ok (.aload_n 0, 1) := by decide +kernel
theorem dX9_arc_46 : decode cX9_arc 46 = .ok (.getfield 182, 3) := by decide +kernel
theorem dX9_arc_49 : decode cX9_arc 49 = .ok (.iconst 1, 1) := by decide +kernel
theorem dX9_arc_50 : decode cX9_arc 50 = .ok (.iadd, 1) := by decide +kernel
theorem dX9_arc_51 : decode cX9_arc 51 = .ok (.iload_n 2, 1) := by decide +kernel
theorem dX9_arc_52 : decode cX9_arc 52 = .ok (.iastore, 1) := by decide +kernel
theorem dX9_arc_53 : decode cX9_arc 53 = .ok (.aload_n 0, 1) := by decide +kernel
theorem dX9_arc_54 : decode cX9_arc 54 = .ok (.getfield 71, 3) := by decide +kernel
theorem dX9_arc_57 : decode cX9_arc 57 = .ok (.aload_n 0, 1) := by decide +kernel
theorem dX9_arc_58 : decode cX9_arc 58 = .ok (.getfield 182, 3) := by decide +kernel
theorem dX9_arc_61 : decode cX9_arc 61 = .ok (.iconst 1, 1) := by decide +kernel
theorem dX9_arc_62 : decode cX9_arc 62 = .ok (.iadd, 1) := by decide +kernel
theorem dX9_arc_63 : decode cX9_arc 63 = .ok (.iload_n 1, 1) := by decide +kernel
theorem dX9_arc_64 : decode cX9_arc 64 = .ok (.iastore, 1) := by decide +kernel
theorem dX9_arc_65 : decode cX9_arc 65 = .ok (.aload_n 0, 1) := by decide +kernel
theorem dX9_arc_66 : decode cX9_arc 66 = .ok (.getfield 74, 3) := by decide +kernel
theorem dX9_arc_69 : decode cX9_arc 69 = .ok (.aload_n 0, 1) := by decide +kernel
theorem dX9_arc_70 : decode cX9_arc 70 = .ok (.getfield 182, 3) := by decide +kernel
theorem dX9_arc_73 : decode cX9_arc 73 = .ok (.iconst 1, 1) := by decide +kernel
theorem dX9_arc_74 : decode cX9_arc 74 = .ok (.iadd, 1) := by decide +kernel
theorem dX9_arc_75 : decode cX9_arc 75 = .ok (.iconst 0, 1) := by decide +kernel
theorem dX9_arc_76 : decode cX9_arc 76 = .ok (.iastore, 1) := by decide +kernel
theorem dX9_arc_77 : decode cX9_arc 77 = .ok (.aload_n 0, 1) := by decide +kernel
theorem dX9_arc_78 : decode cX9_arc 78 = .ok (.getfield 77, 3) := by decide +kernel
theorem dX9_arc_81 : decode cX9_arc 81 = .ok (.aload_n 0, 1) := by decide +kernel
theorem dX9_arc_82 : decode cX9_arc 82 = .ok (.getfield 182, 3) := by decide +kernel
theorem dX9_arc_85 : decode cX9_arc 85 = .ok (.iconst 1, 1) := by decide +kernel
theorem dX9_arc_86 : decode cX9_arc 86 = .ok (.iadd, 1) := by decide +kernel
theorem dX9_arc_87 : decode cX9_arc 87 = .ok (.iload 4, 2) := by decide +kernel
theorem dX9_arc_89 : decode cX9_arc 89 = .ok (.ineg, 1) := by decide +kernel
theorem dX9_arc_90 : decode cX9_arc 90 = .ok (.iastore, 1) := by decide +kernel
theorem dX9_arc_91 : decode cX9_arc 91 = .ok (.aload_n 0, 1) := by decide +kernel
theorem dX9_arc_92 : decode cX9_arc 92 = .ok (.dup, 1) := by decide +kernel
theorem dX9_arc_93 : decode cX9_arc 93 = .ok (.getfield 182, 3) := by decide +kernel
theorem dX9_arc_96 : decode cX9_arc 96 = .ok (.iconst 2, 1) := by decide +kernel
theorem dX9_arc_97 : decode cX9_arc 97 = .ok (.iadd, 1) := by decide +kernel
theorem dX9_arc_98 : decode cX9_arc 98 = .ok (.putfield 182, 3) := by decide +kernel
theorem dX9_arc_101 : decode cX9_arc 101 = .ok (.return_, 1) := by decide +kernel
theorem dX9_hasNetWay_0 : decode cX9_hasNetWay 0 = .ok (.iconst 0, 1) := by decide +kernel
theorem dX9_hasNetWay_1 : decode cX9_hasNetWay 1 = .ok (.istore_n 1, 1) := by decide +kernel
theorem dX9_hasNetWay_2 : decode cX9_hasNetWay 2 = .ok (.iload_n 1, 1) := by decide +kernel
theorem dX9_hasNetWay_3 : decode cX9_hasNetWay 3 = .ok (.bipush 22, 2) := by decide +kernel
theorem dX9_hasNetWay_5 : decode cX9_hasNetWay 5 = .ok (.if_icmp .ge 34, 3) := by decide +kernel
theorem dX9_hasNetWay_8 : decode cX9_hasNetWay 8 = .ok (.aload_n 0, 1) := by decide +kernel
theorem dX9_hasNetWay_9 : decode cX9_hasNetWay 9 = .ok (.getfield 80, 3) := by decide +kernel
theorem dX9_hasNetWay_12 : decode cX9_hasNetWay 12 = .ok (.iload_n 1, 1) := by decide +kernel
theorem dX9_hasNetWay_13 : decode cX9_hasNetWay 13 = .ok (.iload_n 1, 1) := by decide +kernel
theorem dX9_hasNetWay_14 : decode cX9_hasNetWay 14 = .ok (.bipush 20, 2) := by decide +kernel
theorem dX9_hasNetWay_16 : decode cX9_hasNetWay 16 = .ok (.if_icmp .ne 7, 3) := by decide +kernel
theorem dX9_hasNetWay_19 : decode cX9_hasNetWay 19 = .ok (.iconst 0, 1) := by decide +kernel
theorem dX9_hasNetWay_20 : decode cX9_hasNetWay 20 = .ok (.goto 5, 3) := by decide +kernel
theorem dX9_hasNetWay_23 : decode cX9_hasNetWay 23 = .ok (.ldc 115, 2) := by decide +kernel
theorem dX9_hasNetWay_25 : decode cX9_hasNetWay 25 = .ok (.iastore, 1) := by decide +kernel
theorem dX9_hasNetWay_26 : decode cX9_hasNetWay 26 = .ok (.aload_n 0, 1) := by decide +kernel
theorem dX9_hasNetWay_27 : decode cX9_hasNetWay 27 = .ok (.getfield 83, 3) := by decide +kernel
theorem dX9_hasNetWay_30 : decode cX9_hasNetWay 30 = .ok (.iload_n 1, 1) := by decide +kernel
theorem dX9_hasNetWay_31 : decode cX9_hasNetWay 31 = .ok (.iconst (-1), 1) := by decide +kernel
theorem dX9_hasNetWay_32 : decode cX9_hasNetWay 32 = .ok (.iastore, 1) := by decide +kernel
theorem dX9_hasNetWay_33 : decode cX9_hasNetWay 33 = .ok (.iinc 1 1, 3) := by decide +kernel
theorem dX9_hasNetWay_36 : decode cX9_hasNetWay 36 = .ok (.goto (-34), 3) := by decide +kernel
theorem dX9_hasNetWay_39 : decode cX9_hasNetWay 39 = .ok (.iconst 1, 1) := by decide +kernel
theorem dX9_hasNetWay_40 : decode cX9_hasNetWay 40 = .ok (.istore_n 1, 1) := by decide +kernel
theorem dX9_hasNetWay_41 : decode cX9_hasNetWay 41 = .ok (.iload_n 1, 1) := by decide +kernel
theorem dX9_hasNetWay_42 : decode cX9_hasNetWay 42 = .ok (.ifCond .eq 106, 3) := by decide +kernel
theorem dX9_hasNetWay_45 : decode cX9_hasNetWay 45 = .ok (.iconst 0, 1) := by decide +kernel
theorem dX9_hasNetWay_46 : decode cX9_hasNetWay 46 = .ok (.istore_n 1, 1) := by decide +kernel
theorem dX9_hasNetWay_47 : decode cX9_hasNetWay 47 = .ok (.iconst 0, 1) := by decide +kernel
theorem dX9_hasNetWay_48 : decode cX9_hasNetWay 48 = .ok (.istore_n 2, 1) := by decide +kernel
theorem dX9_hasNetWay_49 : decode cX9_hasNetWay 49 = .ok (.iload_n 2, 1) := by decide +kernel
theorem dX9_hasNetWay_50 : decode cX9_hasNetWay 50 = .ok (.aload_n 0, 1) := by decide +kernel
theorem dX9_hasNetWay_51 : decode cX9_hasNetWay 51 = .ok (.getfield 182, 3) := by decide +kernel
theorem dX9_hasNetWay_54 : decode cX9_hasNetWay 54 = .ok (.if_icmp .ge 91, 3) := by decide +kernel
theorem dX9_hasNetWay_57 : decode cX9_hasNetWay 57 = .ok (.aload_n 0, 1) := by decide +kernel
theorem dX9_hasNetWay_58 : decode cX9_hasNetWay 58 = .ok (.getfield 80, 3) := by decide +kernel
theorem dX9_hasNetWay_61 : decode cX9_hasNetWay 61 = .ok (.aload_n 0, 1) := by decide +kernel
theorem dX9_hasNetWay_62 : decode cX9_hasNetWay 62 = .ok (.getfield 68, 3) := by decide +kernel
theorem dX9_hasNetWay_65 : decode cX9_hasNetWay 65 = .ok (.iload_n 2, 1) := by decide +kernel
theorem dX9_hasNetWay_66 : decode cX9_hasNetWay 66 = .ok (.iaload, 1) := by decide +kernel
theorem dX9_hasNetWay_67 : decode cX9_hasNetWay 67 = .ok (.iaload, 1) := by decide +kernel
theorem dX9_hasNetWay_68 : decode cX9_hasNetWay 68 = .ok (.istore_n 3, 1) := by decide +kernel
theorem dX9_hasNetWay_69 : decode cX9_hasNetWay 69 = .ok (.aload_n 0, 1) := by decide +kernel
theorem dX9_hasNetWay_70 : decode cX9_hasNetWay 70 = .ok (.getfield 74, 3) := by decide +kernel
theorem dX9_hasNetWay_73 : decode cX9_hasNetWay 73 = .ok (.iload_n 2, 1) := by decide +kernel
theorem dX9_hasNetWay_74 : decode cX9_hasNetWay 74 = .ok (.iaload, 1) := by decide +kernel
theorem dX9_hasNetWay_75 : decode cX9_hasNetWay 75 = .ok (.ifCond .le 64, 3) := by decide +kernel
theorem dX9_hasNetWay_78 : decode cX9_hasNetWay 78 = .ok (.iload_n 3, 1) := by decide +kernel
theorem dX9_hasNetWay_79 : decode cX9_hasNetWay 79 = .ok (.ldc 115, 2) := by decide +kernel
theorem dX9_hasNetWay_81 : decode cX9_hasNetWay 81 = .ok (.if_icmp .ge 58, 3) := by decide +kernel
theorem dX9_hasNetWay_84 : decode cX9_hasNetWay 84 = .ok (.iload_n 3, 1) := by decide +kernel
theorem dX9_hasNetWay_85 : decode cX9_hasNetWay 85 = .ok (.aload_n 0, 1) := by decide +kernel
theorem dX9_hasNetWay_86 : decode cX9_hasNetWay 86 = .ok (.getfield 77, 3) := by decide +kernel
theorem dX9_hasNetWay_89 : decode cX9_hasNetWay 89 = .ok (.iload_n 2, 1) := by decide +kernel
theorem dX9_hasNetWay_90 : decode cX9_hasNetWay 90 = .ok (.iaload, 1) := by decide +kernel
theorem dX9_hasNetWay_91 : decode cX9_hasNetWay 91 = .ok (.iadd, 1) := by decide +kernel
theorem dX9_hasNetWay_92 : decode cX9_hasNetWay 92 = .ok (.aload_n 0, 1) := by decide +kernel
theorem dX9_hasNetWay_93 : decode cX9_hasNetWay 93 = .ok (.getfield 80, 3) := by decide +kernel
theorem dX9_hasNetWay_96 : decode cX9_hasNetWay 96 = .ok (.aload_n 0, 1) := by decide +kernel
theorem dX9_hasNetWay_97 : decode cX9_hasNetWay 97 = .ok (.getfield 71, 3) := by decide +kernel
theorem dX9_hasNetWay_100 : decode cX9_hasNetWay 100 = .ok (.iload_n 2, 1) := by decide +kernel
theorem dX9_hasNetWay_101 : decode cX9_hasNetWay 101 = .ok (.iaload, 1) := by decide +kernel
theorem dX9_hasNetWay_102 : decode cX9_hasNetWay 102 = .ok (.iaload, 1) := by decide +kernel
theorem dX9_hasNetWay_103 : decode cX9_hasNetWay 103 = .ok (.if_icmp .ge 36, 3) := by decide +kernel
theorem dX9_hasNetWay_106 : decode cX9_hasNetWay 106 = .ok (.aload_n 0, 1) := by decide +kernel
theorem dX9_hasNetWay_107 : decode cX9_hasNetWay 107 = .ok (.getfield 80, 3) := by decide +kernel
theorem dX9_hasNetWay_110 : decode cX9_hasNetWay 110 = .ok (.aload_n 0, 1) := by decide +kernel
theorem dX9_hasNetWay_111 : decode cX9_hasNetWay 111 = .ok (.getfield 71, 3) := by decide +kernel
theorem dX9_hasNetWay_114 : decode cX9_hasNetWay 114 = .ok (.iload_n 2, 1) := by decide +kernel
theorem dX9_hasNetWay_115 : decode cX9_hasNetWay 115 = .ok (.iaload, 1) := by decide +kernel
theorem dX9_hasNetWay_116 : decode cX9_hasNetWay 116 = .ok (.iload_n 3, 1) := by decide +kernel
theorem dX9_hasNetWay_117 : decode cX9_hasNetWay 117 = .ok (.aload_n 0, 1) := by decide +kernel
theorem dX9_hasNetWay_118 : decode cX9_hasNetWay 118 = .ok (.getfield 77, 3) := by decide +kernel
theorem dX9_hasNetWay_121 : decode cX9_hasNetWay 121 = .ok (.iload_n 2, 1) := by decide +kernel
theorem dX9_hasNetWay_122 : decode cX9_hasNetWay 122 = .ok (.iaload, 1) := by decide +kernel
theorem dX9_hasNetWay_123 : decode cX9_hasNetWay 123 = .ok (.iadd, 1) := by decide +kernel
theorem dX9_hasNetWay_124 : decode cX9_hasNetWay 124 = .ok (.iastore, 1) := by decide +kernel
theorem dX9_hasNetWay_125 : decode cX9_hasNetWay 125 = .ok (.aload_n 0, 1) := by decide +kernel
theorem dX9_hasNetWay_126 : decode cX9_hasNetWay 126 = .ok (.getfield 83, 3) := by decide +kernel
theorem dX9_hasNetWay_129 : decode cX9_hasNetWay 129 = .ok (.aload_n 0, 1) := by decide +kernel
theorem dX9_hasNetWay_130 : decode cX9_hasNetWay 130 = .ok (.getfield 71, 3) := by decide +kernel
theorem dX9_hasNetWay_133 : decode cX9_hasNetWay 133 = .ok (.iload_n 2, 1) := by decide +kernel
theorem dX9_hasNetWay_134 : decode cX9_hasNetWay 134 = .ok (.iaload, 1) := by decide +kernel
theorem dX9_hasNetWay_135 : decode cX9_hasNetWay 135 = .ok (.iload_n 2, 1) := by decide +kernel
theorem dX9_hasNetWay_136 : decode cX9_hasNetWay 136 = .ok (.iastore, 1) := by decide +kernel
theorem dX9_hasNetWay_137 : decode cX9_hasNetWay 137 = .ok (.iconst 1, 1) := by decide +kernel
theorem dX9_hasNetWay_138 : decode cX9_hasNetWay 138 = .ok (.istore_n 1, 1) := by decide +kernel
theorem dX9_hasNetWay_139 : decode cX9_hasNetWay 139 = .ok (.iinc 2 1, 3) := by decide +kernel
theorem dX9_hasNetWay_142 : decode cX9_hasNetWay 142 = .ok (.goto (-93), 3) := by decide +kernel
theorem dX9_hasNetWay_145 : decode cX9_hasNetWay 145 = .ok (.goto (-104), 3) := by decide +kernel
theorem dX9_hasNetWay_148 : decode cX9_hasNetWay 148 = .ok (.aload_n 0, 1) := by decide +kernel
theorem dX9_hasNetWay_149 : decode cX9_hasNetWay 149 = .ok (.getfield 80, 3) := by decide +kernel
theorem dX9_hasNetWay_152 : decode cX9_hasNetWay 152 = .ok (.bipush 21, 2) := by decide +kernel
theorem dX9_hasNetWay_154 : decode cX9_hasNetWay 154 = .ok (.iaload, 1) := by decide +kernel
theorem dX9_hasNetWay_155 : decode cX9_hasNetWay 155 = .ok (.ldc 115, 2) := by decide +kernel
theorem dX9_hasNetWay_157 : decode cX9_hasNetWay 157 = .ok (.if_icmp .ge 7, 3) := by decide +kernel
theorem dX9_hasNetWay_160 : decode cX9_hasNetWay 160 = .ok (.iconst 1, 1) := by decide +kernel
theorem dX9_hasNetWay_161 : decode cX9_hasNetWay 161 = .ok (.goto 4, 3) := by decide +kernel
theorem dX9_hasNetWay_164 : decode cX9_hasNetWay 164 = .ok (.iconst 0, 1) := by decide +kernel
theorem dX9_hasNetWay_165 : decode cX9_hasNetWay 165 = .ok (.ireturn, 1) := by decide +kernel
theorem dX9_goNet_0 : decode cX9_goNet 0 = .ok (.ldc 115, 2) := by decide +kernel
theorem dX9_goNet_2 : decode cX9_goNet 2 = .ok (.istore_n 1, 1) := by decide +kernel
theorem dX9_goNet_3 : decode cX9_goNet 3 = .ok (.bipush 21, 2) := by decide +kernel
theorem dX9_goNet_5 : decode cX9_goNet 5 = .ok (.istore_n 2, 1) := by decide +kernel
theorem dX9_goNet_6 : decode cX9_goNet 6 = .ok (.iload_n 2, 1) := by decide +kernel
theorem dX9_goNet_7 : decode cX9_goNet 7 = .ok (.bipush 20, 2) := by decide +kernel
theorem dX9_goNet_9 : decode cX9_goNet 9 = .ok (.if_icmp .eq 49, 3) := by decide +kernel
theorem dX9_goNet_12 : decode cX9_goNet 12 = .ok (.aload_n 0, 1) := by decide +kernel
theorem dX9_goNet_13 : decode cX9_goNet 13 = .ok (.getfield 74, 3) := by decide +kernel
theorem dX9_goNet_16 : decode cX9_goNet 16 = .ok (.aload_n 0, 1) := by decide +kernel
theorem dX9_goNet_17 : decode cX9_goNet 17 = .ok (.getfield 83, 3) := by decide +kernel
theorem dX9_goNet_20 : decode cX9_goNet 20 = .ok (.iload_n 2, 1) := by decide +kernel
theorem dX9_goNet_21 : decode cX9_goNet 21 = .ok (.iaload, 1) := by decide +kernel
theorem dX9_goNet_22 : decode cX9_goNet 22 = .ok (.iaload, 1) := by decide +kernel
theorem dX9_goNet_23 : decode cX9_goNet 23 = .ok (.iload_n 1, 1) := by decide +kernel
theorem dX9_goNet_24 : decode cX9_goNet 24 = .ok (.if_icmp .ge 17, 3) := by decide +kernel
theorem dX9_goNet_27 : decode cX9_goNet 27 = .ok (.aload_n 0, 1) := by decide +kernel
theorem dX9_goNet_28 : decode cX9_goNet 28 = .ok (.getfield 74, 3) := by decide +kernel
theorem dX9_goNet_31 : decode cX9_goNet 31 = .ok (.aload_n 0, 1) := by decide +kernel
theorem dX9_goNet_32 : decode cX9_goNet 32 = .ok (.getfield 83, 3) := by decide +kernel
theorem dX9_goNet_35 : decode cX9_goNet 35 = .ok (.iload_n 2, 1) := by decide +kernel
theorem dX9_goNet_36 : decode cX9_goNet 36 = .ok (.iaload, 1) := by decide +kernel
theorem dX9_goNet_37 : decode cX9_goNet 37 = .ok (.iaload, 1) := by decide +kernel
theorem dX9_goNet_38 : decode cX9_goNet 38 = .ok (.goto 4, 3) := by decide +kernel
theorem dX9_goNet_41 : decode cX9_goNet 41 = .ok (.iload_n 1, 1) := by decide +kernel
theorem dX9_goNet_42 : decode cX9_goNet 42 = .ok (.istore_n 1, 1) := by decide +kernel
theorem dX9_goNet_43 : decode cX9_goNet 43 = .ok (.aload_n 0, 1) := by decide +kernel
theorem dX9_goNet_44 : decode cX9_goNet 44 = .ok (.getfield 68, 3) := by decide +kernel
theorem dX9_goNet_47 : decode cX9_goNet 47 = .ok (.aload_n 0, 1) := by decide +kernel
theorem dX9_goNet_48 : decode cX9_goNet 48 = .ok (.getfield 83, 3) := by decide +kernel
theorem dX9_goNet_51 : decode cX9_goNet 51 = .ok (.iload_n 2, 1) := by decide +kernel
theorem dX9_goNet_52 : decode cX9_goNet 52 = .ok (.iaload, 1) := by decide +kernel
theorem dX9_goNet_53 : decode cX9_goNet 53 = .ok (.iaload, 1) := by decide +kernel
theorem dX9_goNet_54 : decode cX9_goNet 54 = .ok (.istore_n 2, 1) := by decide +kernel
theorem dX9_goNet_55 : decode cX9_goNet 55 = .ok (.goto (-49), 3) := by decide +kernel
theorem dX9_goNet_58 : decode cX9_goNet 58 = .ok (.bipush 21, 2) := by decide +kernel
theorem dX9_goNet_60 : decode cX9_goNet 60 = .ok (.istore_n 2, 1) := by decide +kernel
theorem dX9_goNet_61 : decode cX9_goNet 61 = .ok (.iload_n 2, 1) := by decide +kernel
theorem dX9_goNet_62 : decode cX9_goNet 62 = .ok (.bipush 20, 2) := by decide +kernel
theorem dX9_goNet_64 : decode cX9_goNet 64 = .ok (.if_icmp .eq 59, 3) := by decide +kernel
theorem dX9_goNet_67 : decode cX9_goNet 67 = .ok (.aload_n 0, 1) := by decide +kernel
theorem dX9_goNet_68 : decode cX9_goNet 68 = .ok (.getfield 83, 3) := by decide +kernel
theorem dX9_goNet_71 : decode cX9_goNet 71 = .ok (.iload_n 2, 1) := by decide +kernel
theorem dX9_goNet_72 : decode cX9_goNet 72 = .ok (.iaload, 1) := by decide +kernel
theorem dX9_goNet_73 : decode cX9_goNet 73 = .ok (.istore_n 3, 1) := by decide +kernel
theorem dX9_goNet_74 : decode cX9_goNet 74 = .ok (.aload_n 0, 1) := by decide +kernel
theorem dX9_goNet_75 : decode cX9_goNet 75 = .ok (.getfield 74, 3) := by decide +kernel
theorem dX9_goNet_78 : decode cX9_goNet 78 = .ok (.iload_n 3, 1) := by decide +kernel
theorem dX9_goNet_79 : decode cX9_goNet 79 = .ok (.dup2, 1) := by decide +kernel
theorem dX9_goNet_80 : decode cX9_goNet 80 = .ok (.iaload, 1) := by decide +kernel
theorem dX9_goNet_81 : decode cX9_goNet 81 = .ok (.iload_n 1, 1) := by decide +kernel
theorem dX9_goNet_82 : decode cX9_goNet 82 = .ok (.isub, 1) := by decide +kernel
theorem dX9_goNet_83 : decode cX9_goNet 83 = .ok (.iastore, 1) := by decide +kernel
theorem dX9_goNet_84 : decode cX9_goNet 84 = .ok (.aload_n 0, 1) := by decide +kernel
theorem dX9_goNet_85 : decode cX9_goNet 85 = .ok (.getfield 74, 3) := by decide +kernel
theorem dX9_goNet_88 : decode cX9_goNet 88 = .ok (.iload_n 3, 1) := by decide +kernel
theorem dX9_goNet_89 : decode cX9_goNet 89 = .ok (.iconst 2, 1) := by decide +kernel
theorem dX9_goNet_90 : decode cX9_goNet 90 = .ok (.irem, 1) := by decide +kernel
theorem dX9_goNet_91 : decode cX9_goNet 91 = .ok (.ifCond .ne 9, 3) := by decide +kernel
theorem dX9_goNet_94 : decode cX9_goNet 94 = .ok (.iload_n 3, 1) := by decide +kernel
theorem dX9_goNet_95 : decode cX9_goNet 95 = .ok (.iconst 1, 1) := by decide +kernel
theorem dX9_goNet_96 : decode cX9_goNet 96 = .ok (.iadd, 1) := by decide +kernel
theorem dX9_goNet_97 : decode cX9_goNet 97 = .ok (.goto 6, 3) := by decide +kernel
theorem dX9_goNet_100 : decode cX9_goNet 100 = .ok (.iload_n 3, 1) := by decide +kernel
theorem dX9_goNet_101 : decode cX9_goNet 101 = .ok (.iconst 1, 1) := by decide +kernel
theorem dX9_goNet_102 : decode cX9_goNet 102 = .ok (.isub, 1) := by decide +kernel
theorem dX9_goNet_103 : decode cX9_goNet 103 = .ok (.dup2, 1) := by decide +kernel
theorem dX9_goNet_104 : decode cX9_goNet 104 = .ok (.iaload, 1) := by decide +kernel
theorem dX9_goNet_105 : decode cX9_goNet 105 = .ok (.iload_n 1, 1) := by decide +kernel
theorem dX9_goNet_106 : decode cX9_goNet 106 = .ok (.iadd, 1) := by decide +kernel
theorem dX9_goNet_107 : decode cX9_goNet 107 = .ok (.iastore, 1) := by decide +kernel
theorem dX9_goNet_108 : decode cX9_goNet 108 = .ok (.aload_n 0, 1) := by decide +kernel
theorem dX9_goNet_109 : decode cX9_goNet 109 = .ok (.getfield 68, 3) := by decide +kernel
theorem dX9_goNet_112 : decode cX9_goNet 112 = .ok (.aload_n 0, 1) := by decide +kernel
theorem dX9_goNet_113 : decode cX9_goNet 113 = .ok (.getfield 83, 3) := by decide +kernel
theorem dX9_goNet_116 : decode cX9_goNet 116 = .ok (.iload_n 2, 1) := by decide +kernel
theorem dX9_goNet_117 : decode cX9_goNet 117 = .ok (.iaload, 1) := by decide +kernel
theorem dX9_goNet_118 : decode cX9_goNet 118 = .ok (.iaload, 1) := by decide +kernel
theorem dX9_goNet_119 : decode cX9_goNet 119 = .ok (.istore_n 2, 1) := by decide +kernel
theorem dX9_goNet_120 : decode cX9_goNet 120 = .ok (.goto (-59), 3) := by decide +kernel
theorem dX9_goNet_123 : decode cX9_goNet 123 = .ok (.iload_n 1, 1) := by decide +kernel
theorem dX9_goNet_124 : decode cX9_goNet 124 = .ok (.ireturn, 1) := by decide +kernel
theorem dX9_gated_0 : decode cX9_gated 0 = .ok (.aload_n 0, 1) := by decide +kernel
theorem dX9_gated_1 : decode cX9_gated 1 = .ok (.iload_n 1, 1) := by decide +kernel
theorem dX9_gated_2 : decode cX9_gated 2 = .ok (.iload_n 2, 1) := by decide +kernel
theorem dX9_gated_3 : decode cX9_gated 3 = .ok (.invokevirtual 146, 3) := by decide +kernel
theorem dX9_gated_6 : decode cX9_gated 6 = .ok (.istore_n 3, 1) := by decide +kernel
theorem dX9_gated_7 : decode cX9_gated 7 = .ok (.iload_n 3, 1) := by decide +kernel
theorem dX9_gated_8 : decode cX9_gated 8 = .ok (.ifCond .eq 5, 3) := by decide +kernel
theorem dX9_gated_11 : decode cX9_gated 11 = .ok (.iload_n 3, 1) := by decide +kernel
theorem dX9_gated_12 : decode cX9_gated 12 = .ok (.ireturn, 1) := by decide +kernel
theorem dX9_gated_13 : decode cX9_gated 13 = .ok (.aload_n 0, 1) := by decide +kernel
theorem dX9_gated_14 : decode cX9_gated 14 = .ok (.iconst 0, 1) := by decide +kernel
theorem dX9_gated_15 : decode cX9_gated 15 = .ok (.putfield 182, 3) := by decide +kernel
theorem dX9_gated_18 : decode cX9_gated 18 = .ok (.iconst 0, 1) := by decide +kernel
theorem dX9_gated_19 : decode cX9_gated 19 = .ok (.istore 4, 2) := by decide +kernel
theorem dX9_gated_21 : decode cX9_gated 21 = .ok (.iconst 0, 1) := by decide +kernel
theorem dX9_gated_22 : decode cX9_gated 22 = .ok (.istore 5, 2) := by decide +kernel
theorem dX9_gated_24 : decode cX9_gated 24 = .ok (.iload 5, 2) := by decide +kernel
theorem dX9_gated_26 : decode cX9_gated 26 = .ok (.aload_n 0, 1) := by decide +kernel
theorem dX9_gated_27 : decode cX9_gated 27 = .ok (.getfield 86, 3) := by decide +kernel
theorem dX9_gated_30 : decode cX9_gated 30 = .ok (.if_icmp .ge 109, 3) := by decide +kernel
theorem dX9_gated_33 : decode cX9_gated 33 = .ok (.aload_n 0, 1) := by decide +kernel
theorem dX9_gated_34 : decode cX9_gated 34 = .ok (.getfield 19, 3) := by decide +kernel
theorem dX9_gated_37 : decode cX9_gated 37 = .ok (.bipush 10, 2) := by decide +kernel
theorem dX9_gated_39 : decode cX9_gated 39 = .ok (.iload_n 1, 1) := by decide +kernel
theorem dX9_gated_40 : decode cX9_gated 40 = .ok (.imul, 1) := by decide +kernel
theorem dX9_gated_41 : decode cX9_gated 41 = .ok (.iload 5, 2) := by decide +kernel
theorem dX9_gated_43 : decode cX9_gated 43 = .ok (.iadd, 1) := by decide +kernel
theorem dX9_gated_44 : decode cX9_gated 44 = .ok (.iaload, 1) := by decide +kernel
theorem dX9_gated_45 : decode cX9_gated 45 = .ok (.aload_n 0, 1) := by decide +kernel
theorem dX9_gated_46 : decode cX9_gated 46 = .ok (.getfield 19, 3) := by decide +kernel
theorem dX9_gated_49 : decode cX9_gated 49 = .ok (.bipush 10, 2) := by decide +kernel
theorem dX9_gated_51 : decode cX9_gated 51 = .ok (.iload_n 2, 1) := by decide +kernel
theorem dX9_gated_52 : decode cX9_gated 52 = .ok (.imul, 1) := by decide +kernel
theorem dX9_gated_53 : decode cX9_gated 53 = .ok (.iload 5, 2) := by decide +kernel
theorem dX9_gated_55 : decode cX9_gated 55 = .ok (.iadd, 1) := by decide +kernel
theorem dX9_gated_56 : decode cX9_gated 56 = .ok (.iaload, 1) := by decide +kernel
theorem dX9_gated_57 : decode cX9_gated 57 = .ok (.isub, 1) := by decide +kernel
theorem dX9_gated_58 : decode cX9_gated 58 = .ok (.istore 6, 2) := by decide +kernel
theorem dX9_gated_60 : decode cX9_gated 60 = .ok (.aload_n 0, 1) := by decide +kernel
theorem dX9_gated_61 : decode cX9_gated 61 = .ok (.iload 5, 2) := by decide +kernel
theorem dX9_gated_63 : decode cX9_gated 63 = .ok (.bipush 10, 2) := by decide +kernel
theorem dX9_gated_65 : decode cX9_gated 65 = .ok (.iload 5, 2) := by decide +kernel
theorem dX9_gated_67 : decode cX9_gated 67 = .ok (.iadd, 1) := by decide +kernel
theorem dX9_gated_68 : decode cX9_gated 68 = .ok (.aload_n 0, 1) := by decide +kernel
theorem dX9_gated_69 : decode cX9_gated 69 = .ok (.getfield 22, 3) := by decide +kernel
theorem dX9_gated_72 : decode cX9_gated 72 = .ok (.iload 5, 2) := by decide +kernel
theorem dX9_gated_74 : decode cX9_gated 74 = .ok (.iaload, 1) := by decide +kernel
theorem dX9_gated_75 : decode cX9_gated 75 = .ok (.iconst (-1), 1) := by decide +kernel
theorem dX9_gated_76 : decode cX9_gated 76 = .ok (.if_icmp .ne 8, 3) := by decide +kernel
theorem dX9_gated_79 : decode cX9_gated 79 = .ok (.ldc 115, 2) := by decide +kernel
theorem dX9_gated_81 : decode cX9_gated 81 = .ok (.goto 10, 3) := by decide +kernel
theorem dX9_gated_84 : decode cX9_gated 84 = .ok (.aload_n 0, 1) := by decide +kernel
theorem dX9_gated_85 : decode cX9_gated 85 = .ok (.getfield 22, 3) := by decide +kernel
theorem dX9_gated_88 : decode cX9_gated 88 = .ok (.iload 5, 2) := by decide +kernel
theorem dX9_gated_90 : decode cX9_gated 90 = .ok (.iaload, 1) := by decide +kernel
theorem dX9_gated_91 : decode cX9_gated 91 = .ok (.iconst 0, 1) := by decide +kernel
theorem dX9_gated_92 : decode cX9_gated 92 = .ok (.invokevirtual 185, 3) := by decide +kernel
theorem dX9_gated_95 : decode cX9_gated 95 = .ok (.iload 6, 2) := by decide +kernel
theorem dX9_gated_97 : decode cX9_gated 97 = .ok (.ifCond .le 24, 3) := by decide +kernel
theorem dX9_gated_100 : decode cX9_gated 100 = .ok (.aload_n 0, 1) := by decide +kernel
theorem dX9_gated_101 : decode cX9_gated 101 = .ok (.bipush 20, 2) := by decide +kernel
theorem dX9_gated_103 : decode cX9_gated 103 = .ok (.iload 5, 2) := by decide +kernel
theorem dX9_gated_105 : decode cX9_gated 105 = .ok (.iload 6, 2) := by decide +kernel
theorem dX9_gated_107 : decode cX9_gated 107 = .ok (.iconst 0, 1) := by decide +kernel
theorem dX9_gated_108 : decode cX9_gated 108 = .ok (.invokevirtual 185, 3) := by decide +kernel
theorem dX9_gated_111 : decode cX9_gated 111 = .ok (.iload 4, 2) := by decide +kernel
theorem dX9_gated_113 : decode cX9_gated 113 = .ok (.iload 6, 2) := by decide +kernel
theorem dX9_gated_115 : decode cX9_gated 115 = .ok (.iadd, 1) := by decide +kernel
theorem dX9_gated_116 : decode cX9_gated 116 = .ok (.istore 4, 2) := by decide +kernel
theorem dX9_gated_118 : decode cX9_gated 118 = .ok (.goto 15, 3) := by decide +kernel
theorem dX9_gated_121 : decode cX9_gated 121 = .ok (.aload_n 0, 1) := by decide +kernel
theorem dX9_gated_122 : decode cX9_gated 122 = .ok (.iload 5, 2) := by decide +kernel
theorem dX9_gated_124 : decode cX9_gated 124 = .ok (.bipush 21, 2) := by decide +kernel
theorem dX9_gated_126 : decode cX9_gated 126 = .ok (.iload 6, 2) := by decide +kernel
theorem dX9_gated_128 : decode cX9_gated 128 = .ok (.ineg, 1) := by decide +kernel
theorem dX9_gated_129 : decode cX9_gated 129 = .ok (.iconst 0, 1) := by decide +kernel
theorem dX9_gated_130 : decode cX9_gated 130 = .ok (.invokevirtual 185, 3) := by decide +kernel
theorem dX9_gated_133 : decode cX9_gated 133 = .ok (.iinc 5 1, 3) := by decide +kernel
theorem dX9_gated_136 : decode cX9_gated 136 = .ok (.goto (-112), 3) := by decide +kernel
theorem dX9_gated_139 : decode cX9_gated 139 = .ok (.iconst 0, 1) := by decide +kernel
theorem dX9_gated_140 : decode cX9_gated 140 = .ok (.istore 5, 2) := by decide +kernel
theorem dX9_gated_142 : decode cX9_gated 142 = .ok (.iload 5, 2) := by decide +kernel
theorem dX9_gated_144 : decode cX9_gated 144 = .ok (.aload_n 0, 1) := by decide +kernel
theorem dX9_gated_145 : decode cX9_gated 145 = .ok (.getfield 108, 3) := by decide +kernel
theorem dX9_gated_148 : decode cX9_gated 148 = .ok (.if_icmp .ge 69, 3) := by decide +kernel
theorem dX9_gated_151 : decode cX9_gated 151 = .ok (.aload_n 0, 1) := by decide +kernel
theorem dX9_gated_152 : decode cX9_gated 152 = .ok (.bipush 10, 2) := by decide +kernel
theorem dX9_gated_154 : decode cX9_gated 154 = .ok (.aload_n 0, 1) := by decide +kernel
theorem dX9_gated_155 : decode cX9_gated 155 = .ok (.getfield 7, 3) := by decide +kernel
theorem dX9_gated_158 : decode cX9_gated 158 = .ok (.iload 5, 2) := by decide +kernel
theorem dX9_gated_160 : decode cX9_gated 160 = .ok (.iaload, 1) := by decide +kernel
theorem dX9_gated_161 : decode cX9_gated 161 = .ok (.iadd, 1) := by decide +kernel
theorem dX9_gated_162 : decode cX9_gated 162 = .ok (.aload_n 0, 1) := by decide +kernel
theorem dX9_gated_163 : decode cX9_gated 163 = .ok (.getfield 13, 3) := by decide +kernel
theorem dX9_gated_166 : decode cX9_gated 166 = .ok (.iload 5, 2) := by decide +kernel
theorem dX9_gated_168 : decode cX9_gated 168 = .ok (.iaload, 1) := by decide +kernel
theorem dX9_gated_169 : decode cX9_gated 169 = .ok (.ldc 115, 2) := by decide +kernel
theorem dX9_gated_171 : decode cX9_gated 171 = .ok (.aload_n 0, 1) := by decide +kernel
theorem dX9_gated_172 : decode cX9_gated 172 = .ok (.getfield 16, 3) := by decide +kernel
theorem dX9_gated_175 : decode cX9_gated 175 = .ok (.iload 5, 2) := by decide +kernel
theorem dX9_gated_177 : decode cX9_gated 177 = .ok (.iaload, 1) := by decide +kernel
theorem dX9_gated_178 : decode cX9_gated 178 = .ok (.invokevirtual 185, 3) := by decide +kernel
theorem dX9_gated_181 : decode cX9_gated 181 = .ok (.aload_n 0, 1) := by decide +kernel
theorem dX9_gated_182 : decode cX9_gated 182 = .ok (.bipush 10, 2) := by decide +kernel
theorem dX9_gated_184 : decode cX9_gated 184 = .ok (.aload_n 0, 1) := by decide +kernel
theorem dX9_gated_185 : decode cX9_gated 185 = .ok (.getfield 13, 3) := by decide +kernel
theorem dX9_gated_188 : decode cX9_gated 188 = .ok (.iload 5, 2) := by decide +kernel
theorem dX9_gated_190 : decode cX9_gated 190 = .ok (.iaload, 1) := by decide +kernel
theorem dX9_gated_191 : decode cX9_gated 191 = .ok (.iadd, 1) := by decide +kernel
theorem dX9_gated_192 : decode cX9_gated 192 = .ok (.aload_n 0, 1) := by decide +kernel
theorem dX9_gated_193 : decode cX9_gated 193 = .ok (.getfield 7, 3) := by decide +kernel
theorem dX9_gated_196 : decode cX9_gated 196 = .ok (.iload 5, 2) := by decide +kernel
theorem dX9_gated_198 : decode cX9_gated 198 = .ok (.iaload, 1) := by decide +kernel
theorem dX9_gated_199 : decode cX9_gated 199 = .ok (.ldc 115, 2) := by decide +kernel
theorem dX9_gated_201 : decode cX9_gated 201 = .ok (.aload_n 0, 1) := by decide +kernel
theorem dX9_gated_202 : decode cX9_gated 202 = .ok (.getfield 16, 3) := by decide +kernel
theorem dX9_gated_205 : decode cX9_gated 205 = .ok (.iload 5, 2) := by decide +kernel
theorem dX9_gated_207 : decode cX9_gated 207 = .ok (.iaload, 1) := by decide +kernel
theorem dX9_gated_208 : decode cX9_gated 208 = .ok (.invokevirtual 185, 3) := by decide +kernel
theorem dX9_gated_211 : decode cX9_gated 211 = .ok (.iinc 5 1, 3) := by decide +kernel
theorem dX9_gated_214 : decode cX9_gated 214 = .ok (.goto (-72), 3) := by decide +kernel
theorem dX9_gated_217 : decode cX9_gated 217 = .ok (.iconst 0, 1) := by decide +kernel
theorem dX9_gated_218 : decode cX9_gated 218 = .ok (.istore 5, 2) := by decide +kernel
theorem dX9_gated_220 : decode cX9_gated 220 = .ok (.iload 4, 2) := by decide +kernel
theorem dX9_gated_222 : decode cX9_gated 222 = .ok (.ifCond .le 45, 3) := by decide +kernel
theorem dX9_gated_225 : decode cX9_gated 225 = .ok (.aload_n 0, 1) := by decide +kernel
theorem dX9_gated_226 : decode cX9_gated 226 = .ok (.invokevirtual 189, 3) := by decide +kernel
theorem dX9_gated_229 : decode cX9_gated 229 = .ok (.ifCond .eq 38, 3) := by decide +kernel
theorem dX9_gated_232 : decode cX9_gated 232 = .ok (.aload_n 0, 1) := by decide +kernel
theorem dX9_gated_233 : decode cX9_gated 233 = .ok (.getfield 80, 3) := by decide +kernel
theorem dX9_gated_236 : decode cX9_gated 236 = .ok (.bipush 21, 2) := by decide +kernel
theorem dX9_gated_238 : decode cX9_gated 238 = .ok (.iaload, 1) := by decide +kernel
theorem dX9_gated_239 : decode cX9_gated 239 = .ok (.istore 6, 2) := by decide +kernel
theorem dX9_gated_241 : decode cX9_gated 241 = .ok (.aload_n 0, 1) := by decide +kernel
theorem dX9_gated_242 : decode cX9_gated 242 = .ok (.invokevirtual 192, 3) := by decide +kernel
theorem dX9_gated_245 : decode cX9_gated 245 = .ok (.istore 7, 2) := by decide +kernel
theorem dX9_gated_247 : decode cX9_gated 247 = .ok (.iload 4, 2) := by decide +kernel
theorem dX9_gated_249 : decode cX9_gated 249 = .ok (.iload 7, 2) := by decide +kernel
theorem dX9_gated_251 : decode cX9_gated 251 = .ok (.isub, 1) := by decide +kernel
theorem dX9_gated_252 : decode cX9_gated 252 = .ok (.istore 4, 2) := by decide +kernel
theorem dX9_gated_254 : decode cX9_gated 254 = .ok (.iload 5, 2) := by decide +kernel
theorem dX9_gated_256 : decode cX9_gated 256 = .ok (.iload 7, 2) := by decide +kernel
theorem dX9_gated_258 : decode cX9_gated 258 = .ok (.iload 6, 2) := by decide +kernel
theorem dX9_gated_260 : decode cX9_gated 260 = .ok (.imul, 1) := by decide +kernel
theorem dX9_gated_261 : decode cX9_gated 261 = .ok (.iadd, 1) := by decide +kernel
theorem dX9_gated_262 : decode cX9_gated 262 = .ok (.istore 5, 2) := by decide +kernel
theorem dX9_gated_264 : decode cX9_gated 264 = .ok (.goto (-44), 3) := by decide +kernel
theorem dX9_gated_267 : decode cX9_gated 267 = .ok (.iload 4, 2) := by decide +kernel
theorem dX9_gated_269 : decode cX9_gated 269 = .ok (.ifCond .le 7, 3) := by decide +kernel
theorem dX9_gated_272 : decode cX9_gated 272 = .ok (.iconst (-1), 1) := by decide +kernel
theorem dX9_gated_273 : decode cX9_gated 273 = .ok (.goto 5, 3) := by decide +kernel
theorem dX9_gated_276 : decode cX9_gated 276 = .ok (.iload 5, 2) := by decide +kernel
theorem dX9_gated_278 : decode cX9_gated 278 = .ok (.ireturn, 1) := by decide +kernel
theorem dX9_draft_0 : decode cX9_draft 0 = .ok (.aload_n 0, 1) := by decide +kernel
theorem dX9_draft_1 : decode cX9_draft 1 = .ok (.iload_n 1, 1) := by decide +kernel
theorem dX9_draft_2 : decode cX9_draft 2 = .ok (.invokevirtual 104, 3) := by decide +kernel
theorem dX9_draft_5 : decode cX9_draft 5 = .ok (.ifCond .eq 11, 3) := by decide +kernel
theorem dX9_draft_8 : decode cX9_draft 8 = .ok (.aload_n 0, 1) := by decide +kernel
theorem dX9_draft_9 : decode cX9_draft 9 = .ok (.iload_n 2, 1) := by decide +kernel
theorem dX9_draft_10 : decode cX9_draft 10 = .ok (.invokevirtual 104, 3) := by decide +kernel
theorem dX9_draft_13 : decode cX9_draft 13 = .ok (.ifCond .ne 6, 3) := by decide +kernel
theorem dX9_draft_16 : decode cX9_draft 16 = .ok (.bipush (-2), 2) := by decide +kernel
theorem dX9_draft_18 : decode cX9_draft 18 = .ok (.ireturn, 1) := by decide +kernel
theorem dX9_draft_19 : decode cX9_draft 19 = .ok (.iload_n 3, 1) := by decide +kernel
theorem dX9_draft_20 : decode cX9_draft 20 = .ok (.iconst 0, 1) := by decide +kernel
theorem dX9_draft_21 : decode cX9_draft 21 = .ok (.sipush 10000, 3) := by decide +kernel
theorem dX9_draft_24 : decode cX9_draft 24 = .ok (.invokestatic 90, 3) := by decide +kernel
theorem dX9_draft_27 : decode cX9_draft 27 = .ok (.ifCond .ne 6, 3) := by decide +kernel
theorem dX9_draft_30 : decode cX9_draft 30 = .ok (.bipush (-3), 2) := by decide +kernel
theorem dX9_draft_32 : decode cX9_draft 32 = .ok (.ireturn, 1) := by decide +kernel
theorem dX9_draft_33 : decode cX9_draft 33 = .ok (.aload_n 0, 1) := by decide +kernel
theorem dX9_draft_34 : decode cX9_draft 34 = .ok (.getfield 25, 3) := by decide +kernel
theorem dX9_draft_37 : decode cX9_draft 37 = .ok (.bipush 10, 2) := by decide +kernel
theorem dX9_draft_39 : decode cX9_draft 39 = .ok (.iload_n 1, 1) := by decide +kernel
theorem dX9_draft_40 : decode cX9_draft 40 = .ok (.imul, 1) := by decide +kernel
theorem dX9_draft_41 : decode cX9_draft 41 = .ok (.iload_n 2, 1) := by decide +kernel
theorem dX9_draft_42 : decode cX9_draft 42 = .ok (.iadd, 1) := by decide +kernel
theorem dX9_draft_43 : decode cX9_draft 43 = .ok (.iaload, 1) := by decide +kernel
theorem dX9_draft_44 : decode cX9_draft 44 = .ok (.istore 4, 2) := by decide +kernel
theorem dX9_draft_46 : decode cX9_draft 46 = .ok (.aload_n 0, 1) := by decide +kernel
theorem dX9_draft_47 : decode cX9_draft 47 = .ok (.getfield 25, 3) := by decide +kernel
theorem dX9_draft_50 : decode cX9_draft 50 = .ok (.bipush 10, 2) := by decide +kernel
theorem dX9_draft_52 : decode cX9_draft 52 = .ok (.iload_n 1, 1) := by decide +kernel
theorem dX9_draft_53 : decode cX9_draft 53 = .ok (.imul, 1) := by decide +kernel
theorem dX9_draft_54 : decode cX9_draft 54 = .ok (.iload_n 2, 1) := by decide +kernel
theorem dX9_draft_55 : decode cX9_draft 55 = .ok (.iadd, 1) := by decide +kernel
theorem dX9_draft_56 : decode cX9_draft 56 = .ok (.iload_n 3, 1) := by decide +kernel
theorem dX9_draft_57 : decode cX9_draft 57 = .ok (.iastore, 1) := by decide +kernel
theorem dX9_draft_58 : decode cX9_draft 58 = .ok (.iload 4, 2) := by decide +kernel
theorem dX9_draft_60 : decode cX9_draft 60 = .ok (.ireturn, 1) := by decide +kernel
theorem dX9_clear_0 : decode cX9_clear 0 = .ok (.iconst 0, 1) := by decide +kernel
theorem dX9_clear_1 : decode cX9_clear 1 = .ok (.istore_n 1, 1) := by decide +kernel
theorem dX9_clear_2 : decode cX9_clear 2 = .ok (.iconst 0, 1) := by decide +kernel
theorem dX9_clear_3 : decode cX9_clear 3 = .ok (.istore_n 2, 1) := by decide +kernel
theorem dX9_clear_4 : decode cX9_clear 4 = .ok (.iload_n 2, 1) := by decide +kernel
theorem dX9_clear_5 : decode cX9_clear 5 = .ok (.bipush 100, 2) := by decide +kernel
theorem dX9_clear_7 : decode cX9_clear 7 = .ok (.if_icmp .ge 33, 3) := by decide +kernel
theorem dX9_clear_10 : decode cX9_clear 10 = .ok (.iload_n 1, 1) := by decide +kernel
theorem dX9_clear_11 : decode cX9_clear 11 = .ok (.aload_n 0, 1) := by decide +kernel
theorem dX9_clear_12 : decode cX9_clear 12 = .ok (.getfield 25, 3) := by decide +kernel
theorem dX9_clear_15 : decode cX9_clear 15 = .ok (.iload_n 2, 1) := by decide +kernel
theorem dX9_clear_16 : decode cX9_clear 16 = .ok (.iaload, 1) := by decide +kernel
theorem dX9_clear_17 : decode cX9_clear 17 = .ok (.ifCond .eq 7, 3) := by decide +kernel
theorem dX9_clear_20 : decode cX9_clear 20 = .ok (.iconst 1, 1) := by decide +kernel
theorem dX9_clear_21 : decode cX9_clear 21 = .ok (.goto 4, 3) := by decide +kernel
theorem dX9_clear_24 : decode cX9_clear 24 = .ok (.iconst 0, 1) := by decide +kernel
theorem dX9_clear_25 : decode cX9_clear 25 = .ok (.iadd, 1) := by decide +kernel
theorem dX9_clear_26 : decode cX9_clear 26 = .ok (.istore_n 1, 1) := by decide +kernel
theorem dX9_clear_27 : decode cX9_clear 27 = .ok (.aload_n 0, 1) := by decide +kernel
theorem dX9_clear_28 : decode cX9_clear 28 = .ok (.getfield 25, 3) := by decide +kernel
theorem dX9_clear_31 : decode cX9_clear 31 = .ok (.iload_n 2, 1) := by decide +kernel
theorem dX9_clear_32 : decode cX9_clear 32 = .ok (.iconst 0, 1) := by decide +kernel
theorem dX9_clear_33 : decode cX9_clear 33 = .ok (.iastore, 1) := by decide +kernel
theorem dX9_clear_34 : decode cX9_clear 34 = .ok (.iinc 2 1, 3) := by decide +kernel
theorem dX9_clear_37 : decode cX9_clear 37 = .ok (.goto (-33), 3) := by decide +kernel
theorem dX9_clear_40 : decode cX9_clear 40 = .ok (.iload_n 1, 1) := by decide +kernel
theorem dX9_clear_41 : decode cX9_clear 41 = .ok (.ireturn, 1) := by decide +kernel
theorem dX9_copy_0 : decode cX9_copy 0 = .ok (.aload_n 0, 1) := by decide +kernel
theorem dX9_copy_1 : decode cX9_copy 1 = .ok (.iload_n 1, 1) := by decide +kernel
theorem dX9_copy_2 : decode cX9_copy 2 = .ok (.iload_n 2, 1) := by decide +kernel
theorem dX9_copy_3 : decode cX9_copy 3 = .ok (.invokevirtual 146, 3) := by decide +kernel
theorem dX9_copy_6 : decode cX9_copy 6 = .ok (.istore_n 3, 1) := by decide +kernel
theorem dX9_copy_7 : decode cX9_copy 7 = .ok (.iload_n 3, 1) := by decide +kernel
theorem dX9_copy_8 : decode cX9_copy 8 = .ok (.ifCond .eq 5, 3) := by decide +kernel
theorem dX9_copy_11 : decode cX9_copy 11 = .ok (.iload_n 3, 1) := by decide +kernel
theorem dX9_copy_12 : decode cX9_copy 12 = .ok (.ireturn, 1) := by decide +kernel
theorem dX9_copy_13 : decode cX9_copy 13 = .ok (.aload_n 0, 1) := by decide +kernel
theorem dX9_copy_14 : decode cX9_copy 14 = .ok (.iload_n 1, 1) := by decide +kernel
theorem dX9_copy_15 : decode cX9_copy 15 = .ok (.iload_n 2, 1) := by decide +kernel
theorem dX9_copy_16 : decode cX9_copy 16 = .ok (.invokevirtual 169, 3) := by decide +kernel
theorem dX9_copy_19 : decode cX9_copy 19 = .ok (.iconst 0, 1) := by decide +kernel
theorem dX9_copy_20 : decode cX9_copy 20 = .ok (.istore 4, 2) := by decide +kernel
theorem dX9_copy_22 : decode cX9_copy 22 = .ok (.iconst 0, 1) := by decide +kernel
theorem dX9_copy_23 : decode cX9_copy 23 = .ok (.istore 5, 2) := by decide +kernel
theorem dX9_copy_25 : decode cX9_copy 25 = .ok (.iload 5, 2) := by decide +kernel
theorem dX9_copy_27 : decode cX9_copy 27 = .ok (.bipush 100, 2) := by decide +kernel
theorem dX9_copy_29 : decode cX9_copy 29 = .ok (.if_icmp .ge 43, 3) := by decide +kernel
theorem dX9_copy_32 : decode cX9_copy 32 = .ok (.aload_n 0, 1) := by decide +kernel
theorem dX9_copy_33 : decode cX9_copy 33 = .ok (.getfield 25, 3) := by decide +kernel
theorem dX9_copy_36 : decode cX9_copy 36 = .ok (.iload 5, 2) := by decide +kernel
theorem dX9_copy_38 : decode cX9_copy 38 = .ok (.aload_n 0, 1) := by decide +kernel
theorem dX9_copy_39 : decode cX9_copy 39 = .ok (.getfield 40, 3) := by decide +kernel
theorem dX9_copy_42 : decode cX9_copy 42 = .ok (.iload 5, 2) := by decide +kernel
theorem dX9_copy_44 : decode cX9_copy 44 = .ok (.iaload, 1) := by decide +kernel
theorem dX9_copy_45 : decode cX9_copy 45 = .ok (.iastore, 1) := by decide +kernel
theorem dX9_copy_46 : decode cX9_copy 46 = .ok (.iload 4, 2) := by decide +kernel
theorem dX9_copy_48 : decode cX9_copy 48 = .ok (.aload_n 0, 1) := by decide +kernel
theorem dX9_copy_49 : decode cX9_copy 49 = .ok (.getfield 40, 3) := by decide +kernel
theorem dX9_copy_52 : decode cX9_copy 52 = .ok (.iload 5, 2) := by decide +kernel
theorem dX9_copy_54 : decode cX9_copy 54 = .ok (.iaload, 1) := by decide +kernel
theorem dX9_copy_55 : decode cX9_copy 55 = .ok (.ifCond .eq 7, 3) := by decide +kernel
theorem dX9_copy_58 : decode cX9_copy 58 = .ok (.iconst 1, 1) := by decide +kernel
theorem dX9_copy_59 : decode cX9_copy 59 = .ok (.goto 4, 3) := by decide +kernel
theorem dX9_copy_62 : decode cX9_copy 62 = .ok (.iconst 0, 1) := by decide +kernel
theorem dX9_copy_63 : decode cX9_copy 63 = .ok (.iadd, 1) := by decide +kernel
theorem dX9_copy_64 : decode cX9_copy 64 = .ok (.istore 4, 2) := by decide +kernel
theorem dX9_copy_66 : decode cX9_copy 66 = .ok (.iinc 5 1, 3) := by decide +kernel
theorem dX9_copy_69 : decode cX9_copy 69 = .ok (.goto (-44), 3) := by decide +kernel
theorem dX9_copy_72 : decode cX9_copy 72 = .ok (.iload 4, 2) := by decide +kernel
theorem dX9_copy_74 : decode cX9_copy 74 = .ok (.ireturn, 1) := by decide +kernel
theorem dX9_drafted_0 : decode cX9_drafted 0 = .ok (.iconst 0, 1) := by decide +kernel
theorem dX9_drafted_1 : decode cX9_drafted 1 = .ok (.istore_n 3, 1) := by decide +kernel
theorem dX9_drafted_2 : decode cX9_drafted 2 = .ok (.iconst 0, 1) := by decide +kernel
theorem dX9_drafted_3 : decode cX9_drafted 3 = .ok (.istore 4, 2) := by decide +kernel
theorem dX9_drafted_5 : decode cX9_drafted 5 = .ok (.iload 4, 2) := by decide +kernel
theorem dX9_drafted_7 : decode cX9_drafted 7 = .ok (.aload_n 0, 1) := by decide +kernel
theorem dX9_drafted_8 : decode cX9_drafted 8 = .ok (.getfield 86, 3) := by decide +kernel
theorem dX9_drafted_11 : decode cX9_drafted 11 = .ok (.if_icmp .ge 38, 3) := by decide +kernel
theorem dX9_drafted_14 : decode cX9_drafted 14 = .ok (.iload_n 3, 1) := by decide +kernel
theorem dX9_drafted_15 : decode cX9_drafted 15 = .ok (.aload_n 0, 1) := by decide +kernel
theorem dX9_drafted_16 : decode cX9_drafted 16 = .ok (.getfield 25, 3) := by decide +kernel
theorem dX9_drafted_19 : decode cX9_drafted 19 = .ok (.iload_n 2, 1) := by decide +kernel
theorem dX9_drafted_20 : decode cX9_drafted 20 = .ok (.ifCond .eq 13, 3) := by decide +kernel
theorem dX9_drafted_23 : decode cX9_drafted 23 = .ok (.bipush 10, 2) := by decide +kernel
theorem dX9_drafted_25 : decode cX9_drafted 25 = .ok (.iload_n 1, 1) := by decide +kernel
theorem dX9_drafted_26 : decode cX9_drafted 26 = .ok (.imul, 1) := by decide +kernel
theorem dX9_drafted_27 : decode cX9_drafted 27 = .ok (.iload 4, 2) := by decide +kernel
theorem dX9_drafted_29 : decode cX9_drafted 29 = .ok (.iadd, 1) := by decide +kernel
theorem dX9_drafted_30 : decode cX9_drafted 30 = .ok (.goto 10, 3) := by decide +kernel
theorem dX9_drafted_33 : decode cX9_drafted 33 = .ok (.bipush 10, 2) := by decide +kernel
theorem dX9_drafted_35 : decode cX9_drafted 35 = .ok (.iload 4, 2) := by decide +kernel
theorem dX9_drafted_37 : decode cX9_drafted 37 = .ok (.imul, 1) := by decide +kernel
theorem dX9_drafted_38 : decode cX9_drafted 38 = .ok (.iload_n 1, 1) := by decide +kernel
theorem dX9_drafted_39 : decode cX9_drafted 39 = .ok (.iadd, 1) := by decide +kernel
theorem dX9_drafted_40 : decode cX9_drafted 40 = .ok (.iaload, 1) := by decide +kernel
theorem dX9_drafted_41 : decode cX9_drafted 41 = .ok (.iadd, 1) := by decide +kernel
theorem dX9_drafted_42 : decode cX9_drafted 42 = .ok (.istore_n 3, 1) := by decide +kernel
theorem dX9_drafted_43 : decode cX9_drafted 43 = .ok (.iinc 4 1, 3) := by decide +kernel
theorem dX9_drafted_46 : decode cX9_drafted 46 = .ok (.goto (-41), 3) := by decide +kernel
theorem dX9_drafted_49 : decode cX9_drafted 49 = .ok (.iload_n 3, 1) := by decide +kernel
theorem dX9_drafted_50 : decode cX9_drafted 50 = .ok (.ireturn, 1) := by decide +kernel
theorem dX9_judge_0 : decode cX9_judge 0 = .ok (.aload_n 0, 1) := by decide +kernel
theorem dX9_judge_1 : decode cX9_judge 1 = .ok (.iload_n 1, 1) := by decide +kernel
theorem dX9_judge_2 : decode cX9_judge 2 = .ok (.iload_n 2, 1) := by decide +kernel
theorem dX9_judge_3 : decode cX9_judge 3 = .ok (.invokevirtual 146, 3) := by decide +kernel
theorem dX9_judge_6 : decode cX9_judge 6 = .ok (.istore_n 3, 1) := by decide +kernel
theorem dX9_judge_7 : decode cX9_judge 7 = .ok (.iload_n 3, 1) := by decide +kernel
theorem dX9_judge_8 : decode cX9_judge 8 = .ok (.ifCond .eq 5, 3) := by decide +kernel
theorem dX9_judge_11 : decode cX9_judge 11 = .ok (.iload_n 3, 1) := by decide +kernel
theorem dX9_judge_12 : decode cX9_judge 12 = .ok (.ireturn, 1) := by decide +kernel
theorem dX9_judge_13 : decode cX9_judge 13 = .ok (.iconst 0, 1) := by decide +kernel
theorem dX9_judge_14 : decode cX9_judge 14 = .ok (.istore 4, 2) := by decide +kernel
theorem dX9_judge_16 : decode cX9_judge 16 = .ok (.iload 4, 2) := by decide +kernel
theorem dX9_judge_18 : decode cX9_judge 18 = .ok (.iconst 2, 1) := by decide +kernel
theorem dX9_judge_19 : decode cX9_judge 19 = .ok (.if_icmp .ge 78, 3) := by decide +kernel
theorem dX9_judge_22 : decode cX9_judge 22 = .ok (.iconst 0, 1) := by decide +kernel
theorem dX9_judge_23 : decode cX9_judge 23 = .ok (.istore 5, 2) := by decide +kernel
theorem dX9_judge_25 : decode cX9_judge 25 = .ok (.iload 5, 2) := by decide +kernel
theorem dX9_judge_27 : decode cX9_judge 27 = .ok (.aload_n 0, 1) := by decide +kernel
theorem dX9_judge_28 : decode cX9_judge 28 = .ok (.getfield 86, 3) := by decide +kernel
theorem dX9_judge_31 : decode cX9_judge 31 = .ok (.if_icmp .ge 60, 3) := by decide +kernel
theorem dX9_judge_34 : decode cX9_judge 34 = .ok (.aload_n 0, 1) := by decide +kernel
theorem dX9_judge_35 : decode cX9_judge 35 = .ok (.iload 5, 2) := by decide +kernel
theorem dX9_judge_37 : decode cX9_judge 37 = .ok (.iload 4, 2) := by decide +kernel
theorem dX9_judge_39 : decode cX9_judge 39 = .ok (.ifCond .ne 7, 3) := by decide +kernel
theorem dX9_judge_42 : decode cX9_judge 42 = .ok (.iconst 1, 1) := by decide +kernel
theorem dX9_judge_43 : decode cX9_judge 43 = .ok (.goto 4, 3) := by decide +kernel
theorem dX9_judge_46 : decode cX9_judge 46 = .ok (.iconst 0, 1) := by decide +kernel
theorem dX9_judge_47 : decode cX9_judge 47 = .ok (.invokevirtual 195, 3) := by decide +kernel
theorem dX9_judge_50 : decode cX9_judge 50 = .ok (.aload_n 0, 1) := by decide +kernel
theorem dX9_judge_51 : decode cX9_judge 51 = .ok (.getfield 19, 3) := by decide +kernel
theorem dX9_judge_54 : decode cX9_judge 54 = .ok (.bipush 10, 2) := by decide +kernel
theorem dX9_judge_56 : decode cX9_judge 56 = .ok (.iload 4, 2) := by decide +kernel
theorem dX9_judge_58 : decode cX9_judge 58 = .ok (.ifCond .ne 7, 3) := by decide +kernel
theorem dX9_judge_61 : decode cX9_judge 61 = .ok (.iload_n 1, 1) := by decide +kernel
theorem dX9_judge_62 : decode cX9_judge 62 = .ok (.goto 4, 3) := by decide +kernel
theorem dX9_judge_65 : decode cX9_judge 65 = .ok (.iload_n 2, 1) := by decide +kernel
theorem dX9_judge_66 : decode cX9_judge 66 = .ok (.imul, 1) := by decide +kernel
theorem dX9_judge_67 : decode cX9_judge 67 = .ok (.iload 5, 2) := by decide +kernel
theorem dX9_judge_69 : decode cX9_judge 69 = .ok (.iadd, 1) := by decide +kernel
theorem dX9_judge_70 : decode cX9_judge 70 = .ok (.iaload, 1) := by decide +kernel
theorem dX9_judge_71 : decode cX9_judge 71 = .ok (.if_icmp .eq 14, 3) := by decide +kernel
theorem dX9_judge_74 : decode cX9_judge 74 = .ok (.aload_n 0, 1) := by decide +kernel
theorem dX9_judge_75 : decode cX9_judge 75 = .ok (.iload 5, 2) := by decide +kernel
theorem dX9_judge_77 : decode cX9_judge 77 = .ok (.putfield 199, 3) := by decide +kernel
theorem dX9_judge_80 : decode cX9_judge 80 = .ok (.iconst 1, 1) := by decide +kernel
theorem dX9_judge_81 : decode cX9_judge 81 = .ok (.iload 4, 2) := by decide +kernel
theorem dX9_judge_83 : decode cX9_judge 83 = .ok (.iadd, 1) := by decide +kernel
theorem dX9_judge_84 : decode cX9_judge 84 = .ok (.ireturn, 1) := by decide +kernel
theorem dX9_judge_85 : decode cX9_judge 85 = .ok (.iinc 5 1, 3) := by decide +kernel
theorem dX9_judge_88 : decode cX9_judge 88 = .ok (.goto (-63), 3) := by decide +kernel
theorem dX9_judge_91 : decode cX9_judge 91 = .ok (.iinc 4 1, 3) := by decide +kernel
theorem dX9_judge_94 : decode cX9_judge 94 = .ok (.goto (-78), 3) := by decide +kernel
theorem dX9_judge_97 : decode cX9_judge 97 = .ok (.aload_n 0, 1) := by decide +kernel
theorem dX9_judge_98 : decode cX9_judge 98 = .ok (.aload_n 0, 1) := by decide +kernel
theorem dX9_judge_99 : decode cX9_judge 99 = .ok (.aload_n 0, 1) := by decide +kernel
theorem dX9_judge_100 : decode cX9_judge 100 = .ok (.getfield 25, 3) := by decide +kernel
theorem dX9_judge_103 : decode cX9_judge 103 = .ok (.invokevirtual 138, 3) := by decide +kernel
theorem dX9_judge_106 : decode cX9_judge 106 = .ok (.aload_n 0, 1) := by decide +kernel
theorem dX9_judge_107 : decode cX9_judge 107 = .ok (.iload_n 1, 1) := by decide +kernel
theorem dX9_judge_108 : decode cX9_judge 108 = .ok (.iload_n 2, 1) := by decide +kernel
theorem dX9_judge_109 : decode cX9_judge 109 = .ok (.aload_n 0, 1) := by decide +kernel
theorem dX9_judge_110 : decode cX9_judge 110 = .ok (.iload_n 1, 1) := by decide +kernel
theorem dX9_judge_111 : decode cX9_judge 111 = .ok (.invokevirtual 123, 3) := by decide +kernel
theorem dX9_judge_114 : decode cX9_judge 114 = .ok (.invokevirtual 149, 3) := by decide +kernel
theorem dX9_judge_117 : decode cX9_judge 117 = .ok (.isub, 1) := by decide +kernel
theorem dX9_judge_118 : decode cX9_judge 118 = .ok (.putfield 199, 3) := by decide +kernel
theorem dX9_judge_121 : decode cX9_judge 121 = .ok (.aload_n 0, 1) := by decide +kernel
theorem dX9_judge_122 : decode cX9_judge 122 = .ok (.getfield 199, 3) := by decide +kernel
theorem dX9_judge_125 : decode cX9_judge 125 = .ok (.ifCond .le 7, 3) := by decide +kernel
theorem dX9_judge_128 : decode cX9_judge 128 = .ok (.iconst 3, 1) := by decide +kernel
theorem dX9_judge_129 : decode cX9_judge 129 = .ok (.goto 4, 3) := by decide +kernel
theorem dX9_judge_132 : decode cX9_judge 132 = .ok (.iconst 0, 1) := by decide +kernel
theorem dX9_judge_133 : decode cX9_judge 133 = .ok (.ireturn, 1) := by decide +kernel
theorem dX9_beside_0 : decode cX9_beside 0 = .ok (.aload_n 0, 1) := by decide +kernel
theorem dX9_beside_1 : decode cX9_beside 1 = .ok (.getfield 199, 3) := by decide +kernel
theorem dX9_beside_4 : decode cX9_beside 4 = .ok (.ireturn, 1) := by decide +kernel
theorem dX9_count_0 : decode cX9_count 0 = .ok (.iload_n 1, 1) := by decide +kernel
theorem dX9_count_1 : decode cX9_count 1 = .ok (.tableswitch 110 0 5 #[39, 44, 49, 54, 92, 97], 39) := by decide +kernel
theorem dX9_count_40 : decode cX9_count 40 = .ok (.aload_n 0, 1) := by decide +kernel
theorem dX9_count_41 : decode cX9_count 41 = .ok (.getfield 86, 3) := by decide +kernel
theorem dX9_count_44 : decode cX9_count 44 = .ok (.ireturn, 1) := by decide +kernel
theorem dX9_count_45 : decode cX9_count 45 = .ok (.aload_n 0, 1) := by decide +kernel
theorem dX9_count_46 : decode cX9_count 46 = .ok (.getfield 108, 3) := by decide +kernel
theorem dX9_count_49 : decode cX9_count 49 = .ok (.ireturn, 1) := by decide +kernel
theorem dX9_count_50 : decode cX9_count 50 = .ok (.aload_n 0, 1) := by decide +kernel
theorem dX9_count_51 : decode cX9_count 51 = .ok (.getfield 94, 3) := by decide +kernel
theorem dX9_count_54 : decode cX9_count 54 = .ok (.ireturn, 1) := by decide +kernel
theorem dX9_count_55 : decode cX9_count 55 = .ok (.iconst 0, 1) := by decide +kernel
theorem dX9_count_56 : decode cX9_count 56 = .ok (.istore_n 2, 1) := by decide +kernel
theorem dX9_count_57 : decode cX9_count 57 = .ok (.iconst 0, 1) := by decide +kernel
theorem dX9_count_58 : decode cX9_count 58 = .ok (.istore_n 3, 1) := by decide +kernel
theorem dX9_count_59 : decode cX9_count 59 = .ok (.iload_n 3, 1) := by decide +kernel
theorem dX9_count_60 : decode cX9_count 60 = .ok (.aload_n 0, 1) := by decide +kernel
theorem dX9_count_61 : decode cX9_count 61 = .ok (.getfield 86, 3) := by decide +kernel
theorem dX9_count_64 : decode cX9_count 64 = .ok (.if_icmp .ge 27, 3) := by decide +kernel
theorem dX9_count_67 : decode cX9_count 67 = .ok (.iload_n 2, 1) := by decide +kernel
theorem dX9_count_68 : decode cX9_count 68 = .ok (.aload_n 0, 1) := by decide +kernel
theorem dX9_count_69 : decode cX9_count 69 = .ok (.getfield 22, 3) := by decide +kernel
theorem dX9_count_72 : decode cX9_count 72 = .ok (.iload_n 3, 1) := by decide +kernel
theorem dX9_count_73 : decode cX9_count 73 = .ok (.iaload, 1) := by decide +kernel
theorem dX9_count_74 : decode cX9_count 74 = .ok (.iconst (-1), 1) := by decide +kernel
theorem dX9_count_75 : decode cX9_count 75 = .ok (.if_icmp .eq 7, 3) := by decide +kernel
theorem dX9_count_78 : decode cX9_count 78 = .ok (.iconst 1, 1) := by decide +kernel
theorem dX9_count_79 : decode cX9_count 79 = .ok (.goto 4, 3) := by decide +kernel
theorem dX9_count_82 : decode cX9_count 82 = .ok (.iconst 0, 1) := by decide +kernel
theorem dX9_count_83 : decode cX9_count 83 = .ok (.iadd, 1) := by decide +kernel
theorem dX9_count_84 : decode cX9_count 84 = .ok (.istore_n 2, 1) := by decide +kernel
theorem dX9_count_85 : decode cX9_count 85 = .ok (.iinc 3 1, 3) := by decide +kernel
theorem dX9_count_88 : decode cX9_count 88 = .ok (.goto (-29), 3) := by decide +kernel
theorem dX9_count_91 : decode cX9_count 91 = .ok (.iload_n 2, 1) := by decide +kernel
theorem dX9_count_92 : decode cX9_count 92 = .ok (.ireturn, 1) := by decide +kernel
theorem dX9_count_93 : decode cX9_count 93 = .ok (.aload_n 0, 1) := by decide +kernel
theorem dX9_count_94 : decode cX9_count 94 = .ok (.getfield 97, 3) := by decide +kernel
theorem dX9_count_97 : decode cX9_count 97 = .ok (.ireturn, 1) := by decide +kernel
theorem dX9_count_98 : decode cX9_count 98 = .ok (.aload_n 0, 1) := by decide +kernel
theorem dX9_count_99 : decode cX9_count 99 = .ok (.invokevirtual 142, 3) := by decide +kernel
theorem dX9_count_102 : decode cX9_count 102 = .ok (.ifCond .eq 7, 3) := by decide +kernel
theorem dX9_count_105 : decode cX9_count 105 = .ok (.iconst 1, 1) := by decide +kernel
theorem dX9_count_106 : decode cX9_count 106 = .ok (.goto 4, 3) := by decide +kernel
theorem dX9_count_109 : decode cX9_count 109 = .ok (.iconst 0, 1) := by decide +kernel
theorem dX9_count_110 : decode cX9_count 110 = .ok (.ireturn, 1) := by decide +kernel
theorem dX9_count_111 : decode cX9_count 111 = .ok (.bipush (-3), 2) := by decide +kernel
theorem dX9_count_113 : decode cX9_count 113 = .ok (.ireturn, 1) := by decide +kernel
