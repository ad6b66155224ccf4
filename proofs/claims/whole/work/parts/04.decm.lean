theorem dX9_thrown_0 : decode cX9_thrown 0 = .ok (.aload_n 0, 1) := by decide +kernel
theorem dX9_thrown_1 : decode cX9_thrown 1 = .ok (.getfield 1, 3) := by decide +kernel
theorem dX9_thrown_4 : decode cX9_thrown 4 = .ok (.ireturn, 1) := by decide +kernel
theorem dX9_init_0 : decode cX9_init 0 = .ok (.aload_n 0, 1) := by decide +kernel
theorem dX9_init_1 : decode cX9_init 1 = .ok (.invokespecial 7, 3) := by decide +kernel
theorem dX9_init_4 : decode cX9_init 4 = .ok (.aload_n 0, 1) := by decide +kernel
theorem dX9_init_5 : decode cX9_init 5 = .ok (.iconst 4, 1) := by decide +kernel
theorem dX9_init_6 : decode cX9_init 6 = .ok (.newarray .int, 2) := by decide +kernel
theorem dX9_init_8 : decode cX9_init 8 = .ok (.putfield 13, 3) := by decide +kernel
theorem dX9_init_11 : decode cX9_init 11 = .ok (.aload_n 0, 1) := by decide +kernel
theorem dX9_init_12 : decode cX9_init 12 = .ok (.iconst 1, 1) := by decide +kernel
theorem dX9_init_13 : decode cX9_init 13 = .ok (.putfield 17, 3) := by decide +kernel
theorem dX9_init_16 : decode cX9_init 16 = .ok (.aload_n 0, 1) := by decide +kernel
theorem dX9_init_17 : decode cX9_init 17 = .ok (.bipush 20, 2) := by decide +kernel
theorem dX9_init_19 : decode cX9_init 19 = .ok (.newarray .int, 2) := by decide +kernel
theorem dX9_init_21 : decode cX9_init 21 = .ok (.putfield 20, 3) := by decide +kernel
theorem dX9_init_24 : decode cX9_init 24 = .ok (.aload_n 0, 1) := by decide +kernel
theorem dX9_init_25 : decode cX9_init 25 = .ok (.bipush 20, 2) := by decide +kernel
theorem dX9_init_27 : decode cX9_init 27 = .ok (.newarray .int, 2) := by decide +kernel
theorem dX9_init_29 : decode cX9_init 29 = .ok (.putfield 23, 3) := by decide +kernel
theorem dX9_init_32 : decode cX9_init 32 = .ok (.aload_n 0, 1) := by decide +kernel
theorem dX9_init_33 : decode cX9_init 33 = .ok (.bipush 20, 2) := by decide +kernel
theorem dX9_init_35 : decode cX9_init 35 = .ok (.newarray .int, 2) := by decide +kernel
theorem dX9_init_37 : decode cX9_init 37 = .ok (.putfield 26, 3) := by decide +kernel
theorem dX9_init_40 : decode cX9_init 40 = .ok (.aload_n 0, 1) := by decide +kernel
theorem dX9_init_41 : decode cX9_init 41 = .ok (.iconst (-1), 1) := by decide +kernel
theorem dX9_init_42 : decode cX9_init 42 = .ok (.putfield 29, 3) := by decide +kernel
theorem dX9_init_45 : decode cX9_init 45 = .ok (.aload_n 0, 1) := by decide +kernel
theorem dX9_init_46 : decode cX9_init 46 = .ok (.sipush 300, 3) := by decide +kernel
theorem dX9_init_49 : decode cX9_init 49 = .ok (.newarray .int, 2) := by decide +kernel
theorem dX9_init_51 : decode cX9_init 51 = .ok (.putfield 32, 3) := by decide +kernel
theorem dX9_init_54 : decode cX9_init 54 = .ok (.aload_n 0, 1) := by decide +kernel
theorem dX9_init_55 : decode cX9_init 55 = .ok (.sipush 300, 3) := by decide +kernel
theorem dX9_init_58 : decode cX9_init 58 = .ok (.newarray .int, 2) := by decide +kernel
theorem dX9_init_60 : decode cX9_init 60 = .ok (.putfield 35, 3) := by decide +kernel
theorem dX9_init_63 : decode cX9_init 63 = .ok (.aload_n 0, 1) := by decide +kernel
theorem dX9_init_64 : decode cX9_init 64 = .ok (.sipush 300, 3) := by decide +kernel
theorem dX9_init_67 : decode cX9_init 67 = .ok (.newarray .int, 2) := by decide +kernel
theorem dX9_init_69 : decode cX9_init 69 = .ok (.putfield 38, 3) := by decide +kernel
theorem dX9_init_72 : decode cX9_init 72 = .ok (.aload_n 0, 1) := by decide +kernel
theorem dX9_init_73 : decode cX9_init 73 = .ok (.sipush 300, 3) := by decide +kernel
theorem dX9_init_76 : decode cX9_init 76 = .ok (.newarray .int, 2) := by decide +kernel
theorem dX9_init_78 : decode cX9_init 78 = .ok (.putfield 41, 3) := by decide +kernel
theorem dX9_init_81 : decode cX9_init 81 = .ok (.aload_n 0, 1) := by decide +kernel
theorem dX9_init_82 : decode cX9_init 82 = .ok (.sipush 300, 3) := by decide +kernel
theorem dX9_init_85 : decode cX9_init 85 = .ok (.newarray .int, 2) := by decide +kernel
theorem dX9_init_87 : decode cX9_init 87 = .ok (.putfield 44, 3) := by decide +kernel
theorem dX9_init_90 : decode cX9_init 90 = .ok (.aload_n 0, 1) := by decide +kernel
theorem dX9_init_91 : decode cX9_init 91 = .ok (.sipush 300, 3) := by decide +kernel
theorem dX9_init_94 : decode cX9_init 94 = .ok (.newarray .int, 2) := by decide +kernel
theorem dX9_init_96 : decode cX9_init 96 = .ok (.putfield 47, 3) := by decide +kernel
theorem dX9_init_99 : decode cX9_init 99 = .ok (.aload_n 0, 1) := by decide +kernel
theorem dX9_init_100 : decode cX9_init 100 = .ok (.sipush 1800, 3) := by decide +kernel
theorem dX9_init_103 : decode cX9_init 103 = .ok (.newarray .boolean, 2) := by decide +kernel
theorem dX9_init_105 : decode cX9_init 105 = .ok (.putfield 50, 3) := by decide +kernel
theorem dX9_init_108 : decode cX9_init 108 = .ok (.aload_n 0, 1) := by decide +kernel
theorem dX9_init_109 : decode cX9_init 109 = .ok (.sipush 180, 3) := by decide +kernel
theorem dX9_init_112 : decode cX9_init 112 = .ok (.newarray .int, 2) := by decide +kernel
theorem dX9_init_114 : decode cX9_init 114 = .ok (.putfield 54, 3) := by decide +kernel
theorem dX9_init_117 : decode cX9_init 117 = .ok (.aload_n 0, 1) := by decide +kernel
theorem dX9_init_118 : decode cX9_init 118 = .ok (.sipush 300, 3) := by decide +kernel
theorem dX9_init_121 : decode cX9_init 121 = .ok (.newarray .int, 2) := by decide +kernel
theorem dX9_init_123 : decode cX9_init 123 = .ok (.putfield 57, 3) := by decide +kernel
theorem dX9_init_126 : decode cX9_init 126 = .ok (.aload_n 0, 1) := by decide +kernel
theorem dX9_init_127 : decode cX9_init 127 = .ok (.sipush 300, 3) := by decide +kernel
theorem dX9_init_130 : decode cX9_init 130 = .ok (.newarray .int, 2) := by decide +kernel
theorem dX9_init_132 : decode cX9_init 132 = .ok (.putfield 60, 3) := by decide +kernel
theorem dX9_init_135 : decode cX9_init 135 = .ok (.aload_n 0, 1) := by decide +kernel
theorem dX9_init_136 : decode cX9_init 136 = .ok (.bipush 12, 2) := by decide +kernel
theorem dX9_init_138 : decode cX9_init 138 = .ok (.newarray .int, 2) := by decide +kernel
theorem dX9_init_140 : decode cX9_init 140 = .ok (.putfield 63, 3) := by decide +kernel
theorem dX9_init_143 : decode cX9_init 143 = .ok (.aload_n 0, 1) := by decide +kernel
theorem dX9_init_144 : decode cX9_init 144 = .ok (.bipush 12, 2) := by decide +kernel
theorem dX9_init_146 : decode cX9_init 146 = .ok (.newarray .int, 2) := by decide +kernel
theorem dX9_init_148 : decode cX9_init 148 = .ok (.putfield 66, 3) := by decide +kernel
theorem dX9_init_151 : decode cX9_init 151 = .ok (.aload_n 0, 1) := by decide +kernel
theorem dX9_init_152 : decode cX9_init 152 = .ok (.sipush 144, 3) := by decide +kernel
theorem dX9_init_155 : decode cX9_init 155 = .ok (.newarray .boolean, 2) := by decide +kernel
theorem dX9_init_157 : decode cX9_init 157 = .ok (.putfield 69, 3) := by decide +kernel
theorem dX9_init_160 : decode cX9_init 160 = .ok (.aload_n 0, 1) := by decide +kernel
theorem dX9_init_161 : decode cX9_init 161 = .ok (.bipush 12, 2) := by decide +kernel
theorem dX9_init_163 : decode cX9_init 163 = .ok (.newarray .int, 2) := by decide +kernel
theorem dX9_init_165 : decode cX9_init 165 = .ok (.putfield 72, 3) := by decide +kernel
theorem dX9_init_168 : decode cX9_init 168 = .ok (.aload_n 0, 1) := by decide +kernel
theorem dX9_init_169 : decode cX9_init 169 = .ok (.bipush 12, 2) := by decide +kernel
theorem dX9_init_171 : decode cX9_init 171 = .ok (.newarray .boolean, 2) := by decide +kernel
theorem dX9_init_173 : decode cX9_init 173 = .ok (.putfield 75, 3) := by decide +kernel
theorem dX9_init_176 : decode cX9_init 176 = .ok (.aload_n 0, 1) := by decide +kernel
theorem dX9_init_177 : decode cX9_init 177 = .ok (.bipush 12, 2) := by decide +kernel
theorem dX9_init_179 : decode cX9_init 179 = .ok (.newarray .boolean, 2) := by decide +kernel
theorem dX9_init_181 : decode cX9_init 181 = .ok (.putfield 78, 3) := by decide +kernel
theorem dX9_init_184 : decode cX9_init 184 = .ok (.aload_n 0, 1) := by decide +kernel
theorem dX9_init_185 : decode cX9_init 185 = .ok (.bipush 12, 2) := by decide +kernel
theorem dX9_init_187 : decode cX9_init 187 = .ok (.newarray .boolean, 2) := by decide +kernel
theorem dX9_init_189 : decode cX9_init 189 = .ok (.putfield 81, 3) := by decide +kernel
theorem dX9_init_192 : decode cX9_init 192 = .ok (.aload_n 0, 1) := by decide +kernel
theorem dX9_init_193 : decode cX9_init 193 = .ok (.bipush 20, 2) := by decide +kernel
theorem dX9_init_195 : decode cX9_init 195 = .ok (.newarray .int, 2) := by decide +kernel
theorem dX9_init_197 : decode cX9_init 197 = .ok (.putfield 84, 3) := by decide +kernel
theorem dX9_init_200 : decode cX9_init 200 = .ok (.aload_n 0, 1) := by decide +kernel
theorem dX9_init_201 : decode cX9_init 201 = .ok (.bipush 20, 2) := by decide +kernel
theorem dX9_init_203 : decode cX9_init 203 = .ok (.newarray .int, 2) := by decide +kernel
theorem dX9_init_205 : decode cX9_init 205 = .ok (.putfield 87, 3) := by decide +kernel
theorem dX9_init_208 : decode cX9_init 208 = .ok (.aload_n 0, 1) := by decide +kernel
theorem dX9_init_209 : decode cX9_init 209 = .ok (.bipush 20, 2) := by decide +kernel
theorem dX9_init_211 : decode cX9_init 211 = .ok (.newarray .int, 2) := by decide +kernel
theorem dX9_init_213 : decode cX9_init 213 = .ok (.putfield 90, 3) := by decide +kernel
theorem dX9_init_216 : decode cX9_init 216 = .ok (.aload_n 0, 1) := by decide +kernel
theorem dX9_init_217 : decode cX9_init 217 = .ok (.iconst 4, 1) := by decide +kernel
theorem dX9_init_218 : decode cX9_init 218 = .ok (.newarray .long, 2) := by decide +kernel
theorem dX9_init_220 : decode cX9_init 220 = .ok (.putfield 93, 3) := by decide +kernel
theorem dX9_init_223 : decode cX9_init 223 = .ok (.aload_n 0, 1) := by decide +kernel
theorem dX9_init_224 : decode cX9_init 224 = .ok (.iconst 4, 1) := by decide +kernel
theorem dX9_init_225 : decode cX9_init 225 = .ok (.newarray .long, 2) := by decide +kernel
theorem dX9_init_227 : decode cX9_init 227 = .ok (.putfield 97, 3) := by decide +kernel
theorem dX9_init_230 : decode cX9_init 230 = .ok (.aload_n 0, 1) := by decide +kernel
theorem dX9_init_231 : decode cX9_init 231 = .ok (.getfield 20, 3) := by decide +kernel
theorem dX9_init_234 : decode cX9_init 234 = .ok (.iconst 0, 1) := by decide +kernel
theorem dX9_init_235 : decode cX9_init 235 = .ok (.iconst (-1), 1) := by decide +kernel
theorem dX9_init_236 : decode cX9_init 236 = .ok (.iastore, 1) := by decide +kernel
theorem dX9_init_237 : decode cX9_init 237 = .ok (.aload_n 0, 1) := by decide +kernel
theorem dX9_init_238 : decode cX9_init 238 = .ok (.getfield 23, 3) := by decide +kernel
theorem dX9_init_241 : decode cX9_init 241 = .ok (.iconst 0, 1) := by decide +kernel
theorem dX9_init_242 : decode cX9_init 242 = .ok (.iconst 1, 1) := by decide +kernel
theorem dX9_init_243 : decode cX9_init 243 = .ok (.iastore, 1) := by decide +kernel
theorem dX9_init_244 : decode cX9_init 244 = .ok (.aload_n 0, 1) := by decide +kernel
theorem dX9_init_245 : decode cX9_init 245 = .ok (.getfield 26, 3) := by decide +kernel
theorem dX9_init_248 : decode cX9_init 248 = .ok (.iconst 0, 1) := by decide +kernel
theorem dX9_init_249 : decode cX9_init 249 = .ok (.sipush 400, 3) := by decide +kernel
theorem dX9_init_252 : decode cX9_init 252 = .ok (.iastore, 1) := by decide +kernel
theorem dX9_init_253 : decode cX9_init 253 = .ok (.return_, 1) := by decide +kernel
theorem dX9_post_0 : decode cX9_post 0 = .ok (.aload_n 0, 1) := by decide +kernel
theorem dX9_post_1 : decode cX9_post 1 = .ok (.iconst 0, 1) := by decide +kernel
theorem dX9_post_2 : decode cX9_post 2 = .ok (.putfield 1, 3) := by decide +kernel
theorem dX9_post_5 : decode cX9_post 5 = .ok (.iload_n 1, 1) := by decide +kernel
theorem dX9_post_6 : decode cX9_post 6 = .ok (.ifCond .lt 47, 3) := by decide +kernel
theorem dX9_post_9 : decode cX9_post 9 = .ok (.iload_n 1, 1) := by decide +kernel
theorem dX9_post_10 : decode cX9_post 10 = .ok (.sipush 400, 3) := by decide +kernel
theorem dX9_post_13 : decode cX9_post 13 = .ok (.if_icmp .gt 40, 3) := by decide +kernel
theorem dX9_post_16 : decode cX9_post 16 = .ok (.aload_n 0, 1) := by decide +kernel
theorem dX9_post_17 : decode cX9_post 17 = .ok (.getfield 100, 3) := by decide +kernel
theorem dX9_post_20 : decode cX9_post 20 = .ok (.iconst 4, 1) := by decide +kernel
theorem dX9_post_21 : decode cX9_post 21 = .ok (.if_icmp .eq 32, 3) := by decide +kernel
theorem dX9_post_24 : decode cX9_post 24 = .ok (.aload_n 0, 1) := by decide +kernel
theorem dX9_post_25 : decode cX9_post 25 = .ok (.getfield 103, 3) := by decide +kernel
theorem dX9_post_28 : decode cX9_post 28 = .ok (.ifCond .gt 25, 3) := by decide +kernel
theorem dX9_post_31 : decode cX9_post 31 = .ok (.aload_n 0, 1) := by decide +kernel
theorem dX9_post_32 : decode cX9_post 32 = .ok (.getfield 100, 3) := by decide +kernel
theorem dX9_post_35 : decode cX9_post 35 = .ok (.ifCond .le 20, 3) := by decide +kernel
theorem dX9_post_38 : decode cX9_post 38 = .ok (.iload_n 1, 1) := by decide +kernel
theorem dX9_post_39 : decode cX9_post 39 = .ok (.aload_n 0, 1) := by decide +kernel
theorem dX9_post_40 : decode cX9_post 40 = .ok (.getfield 13, 3) := by decide +kernel
theorem dX9_post_43 : decode cX9_post 43 = .ok (.aload_n 0, 1) := by decide +kernel
theorem dX9_post_44 : decode cX9_post 44 = .ok (.getfield 100, 3) := by decide +kernel
theorem dX9_post_47 : decode cX9_post 47 = .ok (.iconst 1, 1) := by decide +kernel
theorem dX9_post_48 : decode cX9_post 48 = .ok (.isub, 1) := by decide +kernel
theorem dX9_post_49 : decode cX9_post 49 = .ok (.iaload, 1) := by decide +kernel
theorem dX9_post_50 : decode cX9_post 50 = .ok (.if_icmp .gt 5, 3) := by decide +kernel
theorem dX9_post_53 : decode cX9_post 53 = .ok (.iconst (-1), 1) := by decide +kernel
theorem dX9_post_54 : decode cX9_post 54 = .ok (.ireturn, 1) := by decide +kernel
theorem dX9_post_55 : decode cX9_post 55 = .ok (.aload_n 0, 1) := by decide +kernel
theorem dX9_post_56 : decode cX9_post 56 = .ok (.getfield 13, 3) := by decide +kernel
theorem dX9_post_59 : decode cX9_post 59 = .ok (.aload_n 0, 1) := by decide +kernel
theorem dX9_post_60 : decode cX9_post 60 = .ok (.getfield 100, 3) := by decide +kernel
theorem dX9_post_63 : decode cX9_post 63 = .ok (.iload_n 1, 1) := by decide +kernel
theorem dX9_post_64 : decode cX9_post 64 = .ok (.iastore, 1) := by decide +kernel
theorem dX9_post_65 : decode cX9_post 65 = .ok (.aload_n 0, 1) := by decide +kernel
theorem dX9_post_66 : decode cX9_post 66 = .ok (.dup, 1) := by decide +kernel
theorem dX9_post_67 : decode cX9_post 67 = .ok (.getfield 100, 3) := by decide +kernel
theorem dX9_post_70 : decode cX9_post 70 = .ok (.iconst 1, 1) := by decide +kernel
theorem dX9_post_71 : decode cX9_post 71 = .ok (.iadd, 1) := by decide +kernel
theorem dX9_post_72 : decode cX9_post 72 = .ok (.putfield 100, 3) := by decide +kernel
theorem dX9_post_75 : decode cX9_post 75 = .ok (.aload_n 0, 1) := by decide +kernel
theorem dX9_post_76 : decode cX9_post 76 = .ok (.getfield 100, 3) := by decide +kernel
theorem dX9_post_79 : decode cX9_post 79 = .ok (.iconst 1, 1) := by decide +kernel
theorem dX9_post_80 : decode cX9_post 80 = .ok (.isub, 1) := by decide +kernel
theorem dX9_post_81 : decode cX9_post 81 = .ok (.ireturn, 1) := by decide +kernel
theorem dX9_isKind_0 : decode cX9_isKind 0 = .ok (.iload_n 1, 1) := by decide +kernel
theorem dX9_isKind_1 : decode cX9_isKind 1 = .ok (.ifCond .lt 15, 3) := by decide +kernel
theorem dX9_isKind_4 : decode cX9_isKind 4 = .ok (.iload_n 1, 1) := by decide +kernel
theorem dX9_isKind_5 : decode cX9_isKind 5 = .ok (.aload_n 0, 1) := by decide +kernel
theorem dX9_isKind_6 : decode cX9_isKind 6 = .ok (.getfield 17, 3) := by decide +kernel
theorem dX9_isKind_9 : decode cX9_isKind 9 = .ok (.if_icmp .ge 7, 3) := by decide +kernel
theorem dX9_isKind_12 : decode cX9_isKind 12 = .ok (.iconst 1, 1) := by decide +kernel
theorem dX9_isKind_13 : decode cX9_isKind 13 = .ok (.goto 4, 3) := by decide +kernel
theorem dX9_isKind_16 : decode cX9_isKind 16 = .ok (.iconst 0, 1) := by decide +kernel
theorem dX9_isKind_17 : decode cX9_isKind 17 = .ok (.ireturn, 1) := by decide +kernel
theorem dX9_kind_0 : decode cX9_kind 0 = .ok (.aload_n 0, 1) := by decide +kernel
theorem dX9_kind_1 : decode cX9_kind 1 = .ok (.iconst 0, 1) := by decide +kernel
theorem dX9_kind_2 : decode cX9_kind 2 = .ok (.putfield 1, 3) := by decide +kernel
theorem dX9_kind_5 : decode cX9_kind 5 = .ok (.aload_n 0, 1) := by decide +kernel
theorem dX9_kind_6 : decode cX9_kind 6 = .ok (.iload_n 1, 1) := by decide +kernel
theorem dX9_kind_7 : decode cX9_kind 7 = .ok (.invokevirtual 106, 3) := by decide +kernel
theorem dX9_kind_10 : decode cX9_kind 10 = .ok (.ifCond .eq 36, 3) := by decide +kernel
theorem dX9_kind_13 : decode cX9_kind 13 = .ok (.iload_n 2, 1) := by decide +kernel
theorem dX9_kind_14 : decode cX9_kind 14 = .ok (.iconst 1, 1) := by decide +kernel
theorem dX9_kind_15 : decode cX9_kind 15 = .ok (.if_icmp .lt 31, 3) := by decide +kernel
theorem dX9_kind_18 : decode cX9_kind 18 = .ok (.iload_n 3, 1) := by decide +kernel
theorem dX9_kind_19 : decode cX9_kind 19 = .ok (.sipush 400, 3) := by decide +kernel
theorem dX9_kind_22 : decode cX9_kind 22 = .ok (.if_icmp .gt 24, 3) := by decide +kernel
theorem dX9_kind_25 : decode cX9_kind 25 = .ok (.iload_n 2, 1) := by decide +kernel
theorem dX9_kind_26 : decode cX9_kind 26 = .ok (.iload_n 3, 1) := by decide +kernel
theorem dX9_kind_27 : decode cX9_kind 27 = .ok (.if_icmp .gt 19, 3) := by decide +kernel
theorem dX9_kind_30 : decode cX9_kind 30 = .ok (.aload_n 0, 1) := by decide +kernel
theorem dX9_kind_31 : decode cX9_kind 31 = .ok (.getfield 17, 3) := by decide +kernel
theorem dX9_kind_34 : decode cX9_kind 34 = .ok (.bipush 20, 2) := by decide +kernel
theorem dX9_kind_36 : decode cX9_kind 36 = .ok (.if_icmp .eq 10, 3) := by decide +kernel
theorem dX9_kind_39 : decode cX9_kind 39 = .ok (.aload_n 0, 1) := by decide +kernel
theorem dX9_kind_40 : decode cX9_kind 40 = .ok (.getfield 103, 3) := by decide +kernel
theorem dX9_kind_43 : decode cX9_kind 43 = .ok (.ifCond .le 5, 3) := by decide +kernel
theorem dX9_kind_46 : decode cX9_kind 46 = .ok (.iconst (-1), 1) := by decide +kernel
theorem dX9_kind_47 : decode cX9_kind 47 = .ok (.ireturn, 1) := by decide +kernel
theorem dX9_kind_48 : decode cX9_kind 48 = .ok (.aload_n 0, 1) := by decide +kernel
theorem dX9_kind_49 : decode cX9_kind 49 = .ok (.getfield 20, 3) := by decide +kernel
theorem dX9_kind_52 : decode cX9_kind 52 = .ok (.aload_n 0, 1) := by decide +kernel
theorem dX9_kind_53 : decode cX9_kind 53 = .ok (.getfield 17, 3) := by decide +kernel
theorem dX9_kind_56 : decode cX9_kind 56 = .ok (.iload_n 1, 1) := by decide +kernel
theorem dX9_kind_57 : decode cX9_kind 57 = .ok (.iastore, 1) := by decide +kernel
theorem dX9_kind_58 : decode cX9_kind 58 = .ok (.aload_n 0, 1) := by decide +kernel
theorem dX9_kind_59 : decode cX9_kind 59 = .ok (.getfield 23, 3) := by decide +kernel
theorem dX9_kind_62 : decode cX9_kind 62 = .ok (.aload_n 0, 1) := by decide +kernel
theorem dX9_kind_63 : decode cX9_kind 63 = .ok (.getfield 17, 3) := by decide +kernel
theorem dX9_kind_66 : decode cX9_kind 66 = .ok (.iload_n 2, 1) := by decide +kernel
theorem dX9_kind_67 : decode cX9_kind 67 = .ok (.iastore, 1) := by decide +kernel
theorem dX9_kind_68 : decode cX9_kind 68 = .ok (.aload_n 0, 1) := by decide +kernel
theorem dX9_kind_69 : decode cX9_kind 69 = .ok (.getfield 26, 3) := by decide +kernel
theorem dX9_kind_72 : decode cX9_kind 72 = .ok (.aload_n 0, 1) := by decide +kernel
theorem dX9_kind_73 : decode cX9_kind 73 = .ok (.getfield 17, 3) := by decide +kernel
theorem dX9_kind_76 : decode cX9_kind 76 = .ok (.iload_n 3, 1) := by decide +kernel
theorem dX9_kind_77 : decode cX9_kind 77 = .ok (.iastore, 1) := by decide +kernel
theorem dX9_kind_78 : decode cX9_kind 78 = .ok (.aload_n 0, 1) := by decide +kernel
theorem dX9_kind_79 : decode cX9_kind 79 = .ok (.dup, 1) := by decide +kernel
theorem dX9_kind_80 : decode cX9_kind 80 = .ok (.getfield 17, 3) := by decide +kernel
theorem dX9_kind_83 : decode cX9_kind 83 = .ok (.iconst 1, 1) := by decide +kernel
theorem dX9_kind_84 : decode cX9_kind 84 = .ok (.iadd, 1) := by decide +kernel
theorem dX9_kind_85 : decode cX9_kind 85 = .ok (.putfield 17, 3) := by decide +kernel
theorem dX9_kind_88 : decode cX9_kind 88 = .ok (.aload_n 0, 1) := by decide +kernel
theorem dX9_kind_89 : decode cX9_kind 89 = .ok (.getfield 17, 3) := by decide +kernel
theorem dX9_kind_92 : decode cX9_kind 92 = .ok (.iconst 1, 1) := by decide +kernel
theorem dX9_kind_93 : decode cX9_kind 93 = .ok (.isub, 1) := by decide +kernel
theorem dX9_kind_94 : decode cX9_kind 94 = .ok (.ireturn, 1) := by decide +kernel
theorem dX9_isUnder_0 : decode cX9_isUnder 0 = .ok (.iload_n 1, 1) := by decide +kernel
theorem dX9_isUnder_1 : decode cX9_isUnder 1 = .ok (.istore_n 3, 1) := by decide +kernel
theorem dX9_isUnder_2 : decode cX9_isUnder 2 = .ok (.iload_n 3, 1) := by decide +kernel
theorem dX9_isUnder_3 : decode cX9_isUnder 3 = .ok (.ifCond .lt 18, 3) := by decide +kernel
theorem dX9_isUnder_6 : decode cX9_isUnder 6 = .ok (.iload_n 3, 1) := by decide +kernel
theorem dX9_isUnder_7 : decode cX9_isUnder 7 = .ok (.iload_n 2, 1) := by decide +kernel
theorem dX9_isUnder_8 : decode cX9_isUnder 8 = .ok (.if_icmp .eq 13, 3) := by decide +kernel
theorem dX9_isUnder_11 : decode cX9_isUnder 11 = .ok (.aload_n 0, 1) := by decide +kernel
theorem dX9_isUnder_12 : decode cX9_isUnder 12 = .ok (.getfield 20, 3) := by decide +kernel
theorem dX9_isUnder_15 : decode cX9_isUnder 15 = .ok (.iload_n 3, 1) := by decide +kernel
theorem dX9_isUnder_16 : decode cX9_isUnder 16 = .ok (.iaload, 1) := by decide +kernel
theorem dX9_isUnder_17 : decode cX9_isUnder 17 = .ok (.istore_n 3, 1) := by decide +kernel
theorem dX9_isUnder_18 : decode cX9_isUnder 18 = .ok (.goto (-16), 3) := by decide +kernel
theorem dX9_isUnder_21 : decode cX9_isUnder 21 = .ok (.iload_n 3, 1) := by decide +kernel
theorem dX9_isUnder_22 : decode cX9_isUnder 22 = .ok (.iload_n 2, 1) := by decide +kernel
theorem dX9_isUnder_23 : decode cX9_isUnder 23 = .ok (.if_icmp .ne 7, 3) := by decide +kernel
theorem dX9_isUnder_26 : decode cX9_isUnder 26 = .ok (.iconst 1, 1) := by decide +kernel
theorem dX9_isUnder_27 : decode cX9_isUnder 27 = .ok (.goto 4, 3) := by decide +kernel
theorem dX9_isUnder_30 : decode cX9_isUnder 30 = .ok (.iconst 0, 1) := by decide +kernel
theorem dX9_isUnder_31 : decode cX9_isUnder 31 = .ok (.ireturn, 1) := by decide +kernel
theorem dX9_depth_0 : decode cX9_depth 0 = .ok (.iconst 0, 1) := by decide +kernel
theorem dX9_depth_1 : decode cX9_depth 1 = .ok (.istore_n 2, 1) := by decide +kernel
theorem dX9_depth_2 : decode cX9_depth 2 = .ok (.aload_n 0, 1) := by decide +kernel
theorem dX9_depth_3 : decode cX9_depth 3 = .ok (.getfield 20, 3) := by decide +kernel
theorem dX9_depth_6 : decode cX9_depth 6 = .ok (.iload_n 1, 1) := by decide +kernel
theorem dX9_depth_7 : decode cX9_depth 7 = .ok (.iaload, 1) := by decide +kernel
theorem dX9_depth_8 : decode cX9_depth 8 = .ok (.istore_n 3, 1) := by decide +kernel
theorem dX9_depth_9 : decode cX9_depth 9 = .ok (.iload_n 3, 1) := by decide +kernel
theorem dX9_depth_10 : decode cX9_depth 10 = .ok (.ifCond .lt 16, 3) := by decide +kernel
theorem dX9_depth_13 : decode cX9_depth 13 = .ok (.iinc 2 1, 3) := by decide +kernel
theorem dX9_depth_16 : decode cX9_depth 16 = .ok (.aload_n 0, 1) := by decide +kernel
theorem dX9_depth_17 : decode cX9_depth 17 = .ok (.getfield 20, 3) := by decide +kernel
theorem dX9_depth_20 : decode cX9_depth 20 = .ok (.iload_n 3, 1) := by decide +kernel
theorem dX9_depth_21 : decode cX9_depth 21 = .ok (.iaload, 1) := by decide +kernel
theorem dX9_depth_22 : decode cX9_depth 22 = .ok (.istore_n 3, 1) := by decide +kernel
theorem dX9_depth_23 : decode cX9_depth 23 = .ok (.goto (-14), 3) := by decide +kernel
theorem dX9_depth_26 : decode cX9_depth 26 = .ok (.iload_n 2, 1) := by decide +kernel
theorem dX9_depth_27 : decode cX9_depth 27 = .ok (.ireturn, 1) := by decide +kernel
theorem dX9_isLeaf_0 : decode cX9_isLeaf 0 = .ok (.iconst 1, 1) := by decide +kernel
theorem dX9_isLeaf_1 : decode cX9_isLeaf 1 = .ok (.istore_n 2, 1) := by decide +kernel
theorem dX9_isLeaf_2 : decode cX9_isLeaf 2 = .ok (.iconst 0, 1) := by decide +kernel
theorem dX9_isLeaf_3 : decode cX9_isLeaf 3 = .ok (.istore_n 3, 1) := by decide +kernel
theorem dX9_isLeaf_4 : decode cX9_isLeaf 4 = .ok (.iload_n 3, 1) := by decide +kernel
theorem dX9_isLeaf_5 : decode cX9_isLeaf 5 = .ok (.aload_n 0, 1) := by decide +kernel
theorem dX9_isLeaf_6 : decode cX9_isLeaf 6 = .ok (.getfield 17, 3) := by decide +kernel
theorem dX9_isLeaf_9 : decode cX9_isLeaf 9 = .ok (.if_icmp .ge 29, 3) := by decide +kernel
theorem dX9_isLeaf_12 : decode cX9_isLeaf 12 = .ok (.iload_n 2, 1) := by decide +kernel
theorem dX9_isLeaf_13 : decode cX9_isLeaf 13 = .ok (.ifCond .eq 17, 3) := by decide +kernel
theorem dX9_isLeaf_16 : decode cX9_isLeaf 16 = .ok (.aload_n 0, 1) := by decide +kernel
theorem dX9_isLeaf_17 : decode cX9_isLeaf 17 = .ok (.getfield 20, 3) := by decide +kernel
theorem dX9_isLeaf_20 : decode cX9_isLeaf 20 = .ok (.iload_n 3, 1) := by decide +kernel
theorem dX9_isLeaf_21 : decode cX9_isLeaf 21 = .ok (.iaload, 1) := by decide +kernel
theorem dX9_isLeaf_22 : decode cX9_isLeaf 22 = .ok (.iload_n 1, 1) := by decide +kernel
theorem dX9_isLeaf_23 : decode cX9_isLeaf 23 = .ok (.if_icmp .eq 7, 3) := by decide +kernel
theorem dX9_isLeaf_26 : decode cX9_isLeaf 26 = .ok (.iconst 1, 1) := by decide +kernel
theorem dX9_isLeaf_27 : decode cX9_isLeaf 27 = .ok (.goto 4, 3) := by decide +kernel
theorem dX9_isLeaf_30 : decode cX9_isLeaf 30 = .ok (.iconst 0, 1) := by decide +kernel
theorem dX9_isLeaf_31 : decode cX9_isLeaf 31 = .ok (.istore_n 2, 1) := by decide +kernel
theorem dX9_isLeaf_32 : decode cX9_isLeaf 32 = .ok (.iinc 3 1, 3) := by decide +kernel
theorem dX9_isLeaf_35 : decode cX9_isLeaf 35 = .ok (.goto (-31), 3) := by decide +kernel
theorem dX9_isLeaf_38 : decode cX9_isLeaf 38 = .ok (.iload_n 2, 1) := by decide +kernel
theorem dX9_isLeaf_39 : decode cX9_isLeaf 39 = .ok (.ireturn, 1) := by decide +kernel
theorem dX9_later_0 : decode cX9_later 0 = .ok (.aload_n 0, 1) := by decide +kernel
theorem dX9_later_1 : decode cX9_later 1 = .ok (.iconst 0, 1) := by decide +kernel
theorem dX9_later_2 : decode cX9_later 2 = .ok (.putfield 1, 3) := by decide +kernel
theorem dX9_later_5 : decode cX9_later 5 = .ok (.aload_n 0, 1) := by decide +kernel
theorem dX9_later_6 : decode cX9_later 6 = .ok (.getfield 110, 3) := by decide +kernel
theorem dX9_later_9 : decode cX9_later 9 = .ok (.sipush 1000, 3) := by decide +kernel
theorem dX9_later_12 : decode cX9_later 12 = .ok (.if_icmp .ne 5, 3) := by decide +kernel
theorem dX9_later_15 : decode cX9_later 15 = .ok (.iconst (-1), 1) := by decide +kernel
theorem dX9_later_16 : decode cX9_later 16 = .ok (.ireturn, 1) := by decide +kernel
theorem dX9_later_17 : decode cX9_later 17 = .ok (.aload_n 0, 1) := by decide +kernel
theorem dX9_later_18 : decode cX9_later 18 = .ok (.dup, 1) := by decide +kernel
theorem dX9_later_19 : decode cX9_later 19 = .ok (.getfield 110, 3) := by decide +kernel
theorem dX9_later_22 : decode cX9_later 22 = .ok (.iconst 1, 1) := by decide +kernel
theorem dX9_later_23 : decode cX9_later 23 = .ok (.iadd, 1) := by decide +kernel
theorem dX9_later_24 : decode cX9_later 24 = .ok (.putfield 110, 3) := by decide +kernel
theorem dX9_later_27 : decode cX9_later 27 = .ok (.aload_n 0, 1) := by decide +kernel
theorem dX9_later_28 : decode cX9_later 28 = .ok (.getfield 110, 3) := by decide +kernel
theorem dX9_later_31 : decode cX9_later 31 = .ok (.ireturn, 1) := by decide +kernel
theorem dX9_isDay_0 : decode cX9_isDay 0 = .ok (.iload_n 0, 1) := by decide +kernel
theorem dX9_isDay_1 : decode cX9_isDay 1 = .ok (.ifCond .lt 23, 3) := by decide +kernel
theorem dX9_isDay_4 : decode cX9_isDay 4 = .ok (.iload_n 0, 1) := by decide +kernel
theorem dX9_isDay_5 : decode cX9_isDay 5 = .ok (.bipush 6, 2) := by decide +kernel
theorem dX9_isDay_7 : decode cX9_isDay 7 = .ok (.if_icmp .ge 17, 3) := by decide +kernel
theorem dX9_isDay_10 : decode cX9_isDay 10 = .ok (.iload_n 1, 1) := by decide +kernel
theorem dX9_isDay_11 : decode cX9_isDay 11 = .ok (.ifCond .lt 13, 3) := by decide +kernel
theorem dX9_isDay_14 : decode cX9_isDay 14 = .ok (.iload_n 1, 1) := by decide +kernel
theorem dX9_isDay_15 : decode cX9_isDay 15 = .ok (.bipush 30, 2) := by decide +kernel
theorem dX9_isDay_17 : decode cX9_isDay 17 = .ok (.if_icmp .ge 7, 3) := by decide +kernel
theorem dX9_isDay_20 : decode cX9_isDay 20 = .ok (.iconst 1, 1) := by decide +kernel
theorem dX9_isDay_21 : decode cX9_isDay 21 = .ok (.goto 4, 3) := by decide +kernel
theorem dX9_isDay_24 : decode cX9_isDay 24 = .ok (.iconst 0, 1) := by decide +kernel
theorem dX9_isDay_25 : decode cX9_isDay 25 = .ok (.ireturn, 1) := by decide +kernel
theorem dX9_hourOf_0 : decode cX9_hourOf 0 = .ok (.bipush 10, 2) := by decide +kernel
theorem dX9_hourOf_2 : decode cX9_hourOf 2 = .ok (.bipush 30, 2) := by decide +kernel
theorem dX9_hourOf_4 : decode cX9_hourOf 4 = .ok (.iload_n 0, 1) := by decide +kernel
theorem dX9_hourOf_5 : decode cX9_hourOf 5 = .ok (.imul, 1) := by decide +kernel
theorem dX9_hourOf_6 : decode cX9_hourOf 6 = .ok (.iload_n 1, 1) := by decide +kernel
theorem dX9_hourOf_7 : decode cX9_hourOf 7 = .ok (.iadd, 1) := by decide +kernel
theorem dX9_hourOf_8 : decode cX9_hourOf 8 = .ok (.imul, 1) := by decide +kernel
theorem dX9_hourOf_9 : decode cX9_hourOf 9 = .ok (.iload_n 2, 1) := by decide +kernel
theorem dX9_hourOf_10 : decode cX9_hourOf 10 = .ok (.iadd, 1) := by decide +kernel
theorem dX9_hourOf_11 : decode cX9_hourOf 11 = .ok (.ireturn, 1) := by decide +kernel
theorem dX9_tell_0 : decode cX9_tell 0 = .ok (.aload_n 0, 1) := by decide +kernel
theorem dX9_tell_1 : decode cX9_tell 1 = .ok (.iconst 0, 1) := by decide +kernel
theorem dX9_tell_2 : decode cX9_tell 2 = .ok (.putfield 1, 3) := by decide +kernel
theorem dX9_tell_5 : decode cX9_tell 5 = .ok (.iload_n 1, 1) := by decide +kernel
theorem dX9_tell_6 : decode cX9_tell 6 = .ok (.iload_n 2, 1) := by decide +kernel
theorem dX9_tell_7 : decode cX9_tell 7 = .ok (.invokestatic 113, 3) := by decide +kernel
theorem dX9_tell_10 : decode cX9_tell 10 = .ok (.ifCond .eq 64, 3) := by decide +kernel
theorem dX9_tell_13 : decode cX9_tell 13 = .ok (.iload_n 3, 1) := by decide +kernel
theorem dX9_tell_14 : decode cX9_tell 14 = .ok (.ifCond .lt 60, 3) := by decide +kernel
theorem dX9_tell_17 : decode cX9_tell 17 = .ok (.iload_n 3, 1) := by decide +kernel
theorem dX9_tell_18 : decode cX9_tell 18 = .ok (.sipush 599, 3) := by decide +kernel
theorem dX9_tell_21 : decode cX9_tell 21 = .ok (.if_icmp .gt 53, 3) := by decide +kernel
theorem dX9_tell_24 : decode cX9_tell 24 = .ok (.iload 4, 2) := by decide +kernel
theorem dX9_tell_26 : decode cX9_tell 26 = .ok (.ifCond .lt 48, 3) := by decide +kernel
theorem dX9_tell_29 : decode cX9_tell 29 = .ok (.iload 4, 2) := by decide +kernel
theorem dX9_tell_31 : decode cX9_tell 31 = .ok (.aload_n 0, 1) := by decide +kernel
theorem dX9_tell_32 : decode cX9_tell 32 = .ok (.getfield 100, 3) := by decide +kernel
theorem dX9_tell_35 : decode cX9_tell 35 = .ok (.if_icmp .ge 39, 3) := by decide +kernel
theorem dX9_tell_38 : decode cX9_tell 38 = .ok (.aload_n 0, 1) := by decide +kernel
theorem dX9_tell_39 : decode cX9_tell 39 = .ok (.iload 5, 2) := by decide +kernel
theorem dX9_tell_41 : decode cX9_tell 41 = .ok (.invokevirtual 106, 3) := by decide +kernel
theorem dX9_tell_44 : decode cX9_tell 44 = .ok (.ifCond .eq 30, 3) := by decide +kernel
theorem dX9_tell_47 : decode cX9_tell 47 = .ok (.aload_n 0, 1) := by decide +kernel
theorem dX9_tell_48 : decode cX9_tell 48 = .ok (.getfield 103, 3) := by decide +kernel
theorem dX9_tell_51 : decode cX9_tell 51 = .ok (.sipush 300, 3) := by decide +kernel
theorem dX9_tell_54 : decode cX9_tell 54 = .ok (.if_icmp .eq 20, 3) := by decide +kernel
theorem dX9_tell_57 : decode cX9_tell 57 = .ok (.aload_n 0, 1) := by decide +kernel
theorem dX9_tell_58 : decode cX9_tell 58 = .ok (.getfield 50, 3) := by decide +kernel
theorem dX9_tell_61 : decode cX9_tell 61 = .ok (.iload_n 1, 1) := by decide +kernel
theorem dX9_tell_62 : decode cX9_tell 62 = .ok (.iload_n 2, 1) := by decide +kernel
theorem dX9_tell_63 : decode cX9_tell 63 = .ok (.iload_n 3, 1) := by decide +kernel
theorem dX9_tell_64 : decode cX9_tell 64 = .ok (.bipush 60, 2) := by decide +kernel
theorem dX9_tell_66 : decode cX9_tell 66 = .ok (.idiv, 1) := by decide +kernel
theorem dX9_tell_67 : decode cX9_tell 67 = .ok (.invokestatic 117, 3) := by decide +kernel
theorem dX9_tell_70 : decode cX9_tell 70 = .ok (.baload, 1) := by decide +kernel
theorem dX9_tell_71 : decode cX9_tell 71 = .ok (.ifCond .eq 5, 3) := by decide +kernel
theorem dX9_tell_74 : decode cX9_tell 74 = .ok (.iconst (-1), 1) := by decide +kernel
theorem dX9_tell_75 : decode cX9_tell 75 = .ok (.ireturn, 1) := by decide +kernel
theorem dX9_tell_76 : decode cX9_tell 76 = .ok (.iconst 0, 1) := by decide +kernel
theorem dX9_tell_77 : decode cX9_tell 77 = .ok (.istore 6, 2) := by decide +kernel
theorem dX9_tell_79 : decode cX9_tell 79 = .ok (.iconst 0, 1) := by decide +kernel
theorem dX9_tell_80 : decode cX9_tell 80 = .ok (.istore 7, 2) := by decide +kernel
theorem dX9_tell_82 : decode cX9_tell 82 = .ok (.iload 7, 2) := by decide +kernel
theorem dX9_tell_84 : decode cX9_tell 84 = .ok (.aload_n 0, 1) := by decide +kernel
theorem dX9_tell_85 : decode cX9_tell 85 = .ok (.getfield 103, 3) := by decide +kernel
theorem dX9_tell_88 : decode cX9_tell 88 = .ok (.if_icmp .ge 53, 3) := by decide +kernel
theorem dX9_tell_91 : decode cX9_tell 91 = .ok (.iload 6, 2) := by decide +kernel
theorem dX9_tell_93 : decode cX9_tell 93 = .ok (.aload_n 0, 1) := by decide +kernel
theorem dX9_tell_94 : decode cX9_tell 94 = .ok (.getfield 32, 3) := by decide +kernel
theorem dX9_tell_97 : decode cX9_tell 97 = .ok (.iload 7, 2) := by decide +kernel
theorem dX9_tell_99 : decode cX9_tell 99 = .ok (.iaload, 1) := by decide +kernel
theorem dX9_tell_100 : decode cX9_tell 100 = .ok (.iload_n 1, 1) := by decide +kernel
theorem dX9_tell_101 : decode cX9_tell 101 = .ok (.if_icmp .ne 30, 3) := by decide +kernel
theorem dX9_tell_104 : decode cX9_tell 104 = .ok (.aload_n 0, 1) := by decide +kernel
theorem dX9_tell_105 : decode cX9_tell 105 = .ok (.getfield 35, 3) := by decide +kernel
theorem dX9_tell_108 : decode cX9_tell 108 = .ok (.iload 7, 2) := by decide +kernel
theorem dX9_tell_110 : decode cX9_tell 110 = .ok (.iaload, 1) := by decide +kernel
theorem dX9_tell_111 : decode cX9_tell 111 = .ok (.iload_n 2, 1) := by decide +kernel
theorem dX9_tell_112 : decode cX9_tell 112 = .ok (.if_icmp .ne 19, 3) := by decide +kernel
theorem dX9_tell_115 : decode cX9_tell 115 = .ok (.aload_n 0, 1) := by decide +kernel
theorem dX9_tell_116 : decode cX9_tell 116 = .ok (.getfield 41, 3) := by decide +kernel
theorem dX9_tell_119 : decode cX9_tell 119 = .ok (.iload 7, 2) := by decide +kernel
theorem dX9_tell_121 : decode cX9_tell 121 = .ok (.iaload, 1) := by decide +kernel
theorem dX9_tell_122 : decode cX9_tell 122 = .ok (.iload 4, 2) := by decide +kernel
theorem dX9_tell_124 : decode cX9_tell 124 = .ok (.if_icmp .ne 7, 3) := by decide +kernel
theorem dX9_tell_127 : decode cX9_tell 127 = .ok (.iconst 1, 1) := by decide +kernel
theorem dX9_tell_128 : decode cX9_tell 128 = .ok (.goto 4, 3) := by decide +kernel
theorem dX9_tell_131 : decode cX9_tell 131 = .ok (.iconst 0, 1) := by decide +kernel
theorem dX9_tell_132 : decode cX9_tell 132 = .ok (.iadd, 1) := by decide +kernel
theorem dX9_tell_133 : decode cX9_tell 133 = .ok (.istore 6, 2) := by decide +kernel
theorem dX9_tell_135 : decode cX9_tell 135 = .ok (.iinc 7 1, 3) := by decide +kernel
theorem dX9_tell_138 : decode cX9_tell 138 = .ok (.goto (-56), 3) := by decide +kernel
theorem dX9_tell_141 : decode cX9_tell 141 = .ok (.iload 6, 2) := by decide +kernel
theorem dX9_tell_143 : decode cX9_tell 143 = .ok (.bipush 12, 2) := by decide +kernel
theorem dX9_tell_145 : decode cX9_tell 145 = .ok (.if_icmp .ne 5, 3) := by decide +kernel
theorem dX9_tell_148 : decode cX9_tell 148 = .ok (.iconst (-1), 1) := by decide +kernel
theorem dX9_tell_149 : decode cX9_tell 149 = .ok (.ireturn, 1) := by decide +kernel
theorem dX9_tell_150 : decode cX9_tell 150 = .ok (.aload_n 0, 1) := by decide +kernel
theorem dX9_tell_151 : decode cX9_tell 151 = .ok (.getfield 32, 3) := by decide +kernel
theorem dX9_tell_154 : decode cX9_tell 154 = .ok (.aload_n 0, 1) := by decide +kernel
theorem dX9_tell_155 : decode cX9_tell 155 = .ok (.getfield 103, 3) := by decide +kernel
theorem dX9_tell_158 : decode cX9_tell 158 = .ok (.iload_n 1, 1) := by decide +kernel
theorem dX9_tell_159 : decode cX9_tell 159 = .ok (.iastore, 1) := by decide +kernel
theorem dX9_tell_160 : decode cX9_tell 160 = .ok (.aload_n 0, 1) := by decide +kernel
theorem dX9_tell_161 : decode cX9_tell 161 = .ok (.getfield 35, 3) := by decide +kernel
theorem dX9_tell_164 : decode cX9_tell 164 = .ok (.aload_n 0, 1) := by decide +kernel
theorem dX9_tell_165 : decode cX9_tell 165 = .ok (.getfield 103, 3) := by decide +kernel
theorem dX9_tell_168 : decode cX9_tell 168 = .ok (.iload_n 2, 1) := by decide +kernel
theorem dX9_tell_169 : decode cX9_tell 169 = .ok (.iastore, 1) := by decide +kernel
theorem dX9_tell_170 : decode cX9_tell 170 = .ok (.aload_n 0, 1) := by decide +kernel
theorem dX9_tell_171 : decode cX9_tell 171 = .ok (.getfield 38, 3) := by decide +kernel
theorem dX9_tell_174 : decode cX9_tell 174 = .ok (.aload_n 0, 1) := by decide +kernel
theorem dX9_tell_175 : decode cX9_tell 175 = .ok (.getfield 103, 3) := by decide +kernel
theorem dX9_tell_178 : decode cX9_tell 178 = .ok (.iload_n 3, 1) := by decide +kernel
theorem dX9_tell_179 : decode cX9_tell 179 = .ok (.iastore, 1) := by decide +kernel
theorem dX9_tell_180 : decode cX9_tell 180 = .ok (.aload_n 0, 1) := by decide +kernel
theorem dX9_tell_181 : decode cX9_tell 181 = .ok (.getfield 41, 3) := by decide +kernel
theorem dX9_tell_184 : decode cX9_tell 184 = .ok (.aload_n 0, 1) := by decide +kernel
theorem dX9_tell_185 : decode cX9_tell 185 = .ok (.getfield 103, 3) := by decide +kernel
theorem dX9_tell_188 : decode cX9_tell 188 = .ok (.iload 4, 2) := by decide +kernel
theorem dX9_tell_190 : decode cX9_tell 190 = .ok (.iastore, 1) := by decide +kernel
theorem dX9_tell_191 : decode cX9_tell 191 = .ok (.aload_n 0, 1) := by decide +kernel
theorem dX9_tell_192 : decode cX9_tell 192 = .ok (.getfield 44, 3) := by decide +kernel
theorem dX9_tell_195 : decode cX9_tell 195 = .ok (.aload_n 0, 1) := by decide +kernel
theorem dX9_tell_196 : decode cX9_tell 196 = .ok (.getfield 103, 3) := by decide +kernel
theorem dX9_tell_199 : decode cX9_tell 199 = .ok (.iload 5, 2) := by decide +kernel
theorem dX9_tell_201 : decode cX9_tell 201 = .ok (.iastore, 1) := by decide +kernel
theorem dX9_tell_202 : decode cX9_tell 202 = .ok (.aload_n 0, 1) := by decide +kernel
theorem dX9_tell_203 : decode cX9_tell 203 = .ok (.getfield 47, 3) := by decide +kernel
theorem dX9_tell_206 : decode cX9_tell 206 = .ok (.aload_n 0, 1) := by decide +kernel
theorem dX9_tell_207 : decode cX9_tell 207 = .ok (.getfield 103, 3) := by decide +kernel
theorem dX9_tell_210 : decode cX9_tell 210 = .ok (.aload_n 0, 1) := by decide +kernel
theorem dX9_tell_211 : decode cX9_tell 211 = .ok (.getfield 110, 3) := by decide +kernel
theorem dX9_tell_214 : decode cX9_tell 214 = .ok (.iastore, 1) := by decide +kernel
theorem dX9_tell_215 : decode cX9_tell 215 = .ok (.aload_n 0, 1) := by decide +kernel
theorem dX9_tell_216 : decode cX9_tell 216 = .ok (.dup, 1) := by decide +kernel
theorem dX9_tell_217 : decode cX9_tell 217 = .ok (.getfield 103, 3) := by decide +kernel
theorem dX9_tell_220 : decode cX9_tell 220 = .ok (.iconst 1, 1) := by decide +kernel
theorem dX9_tell_221 : decode cX9_tell 221 = .ok (.iadd, 1) := by decide +kernel
theorem dX9_tell_222 : decode cX9_tell 222 = .ok (.putfield 103, 3) := by decide +kernel
theorem dX9_tell_225 : decode cX9_tell 225 = .ok (.aload_n 0, 1) := by decide +kernel
theorem dX9_tell_226 : decode cX9_tell 226 = .ok (.getfield 103, 3) := by decide +kernel
theorem dX9_tell_229 : decode cX9_tell 229 = .ok (.iconst 1, 1) := by decide +kernel
theorem dX9_tell_230 : decode cX9_tell 230 = .ok (.isub, 1) := by decide +kernel
theorem dX9_tell_231 : decode cX9_tell 231 = .ok (.ireturn, 1) := by decide +kernel
theorem dX9_off_0 : decode cX9_off 0 = .ok (.aload_n 0, 1) := by decide +kernel
theorem dX9_off_1 : decode cX9_off 1 = .ok (.iconst 0, 1) := by decide +kernel
theorem dX9_off_2 : decode cX9_off 2 = .ok (.putfield 1, 3) := by decide +kernel
theorem dX9_off_5 : decode cX9_off 5 = .ok (.iload_n 1, 1) := by decide +kernel
theorem dX9_off_6 : decode cX9_off 6 = .ok (.iload_n 2, 1) := by decide +kernel
theorem dX9_off_7 : decode cX9_off 7 = .ok (.invokestatic 113, 3) := by decide +kernel
theorem dX9_off_10 : decode cX9_off 10 = .ok (.ifCond .eq 29, 3) := by decide +kernel
theorem dX9_off_13 : decode cX9_off 13 = .ok (.iload_n 3, 1) := by decide +kernel
theorem dX9_off_14 : decode cX9_off 14 = .ok (.ifCond .lt 25, 3) := by decide +kernel
theorem dX9_off_17 : decode cX9_off 17 = .ok (.iload_n 3, 1) := by decide +kernel
theorem dX9_off_18 : decode cX9_off 18 = .ok (.bipush 9, 2) := by decide +kernel
theorem dX9_off_20 : decode cX9_off 20 = .ok (.if_icmp .gt 19, 3) := by decide +kernel
theorem dX9_off_23 : decode cX9_off 23 = .ok (.aload_n 0, 1) := by decide +kernel
theorem dX9_off_24 : decode cX9_off 24 = .ok (.getfield 50, 3) := by decide +kernel
theorem dX9_off_27 : decode cX9_off 27 = .ok (.iload_n 1, 1) := by decide +kernel
theorem dX9_off_28 : decode cX9_off 28 = .ok (.iload_n 2, 1) := by decide +kernel
theorem dX9_off_29 : decode cX9_off 29 = .ok (.iload_n 3, 1) := by decide +kernel
theorem dX9_off_30 : decode cX9_off 30 = .ok (.invokestatic 117, 3) := by decide +kernel
theorem dX9_off_33 : decode cX9_off 33 = .ok (.baload, 1) := by decide +kernel
theorem dX9_off_34 : decode cX9_off 34 = .ok (.iload 4, 2) := by decide +kernel
theorem dX9_off_36 : decode cX9_off 36 = .ok (.if_icmp .ne 5, 3) := by decide +kernel
theorem dX9_off_39 : decode cX9_off 39 = .ok (.iconst 0, 1) := by decide +kernel
theorem dX9_off_40 : decode cX9_off 40 = .ok (.ireturn, 1) := by decide +kernel
theorem dX9_off_41 : decode cX9_off 41 = .ok (.iconst 0, 1) := by decide +kernel
theorem dX9_off_42 : decode cX9_off 42 = .ok (.istore 5, 2) := by decide +kernel
theorem dX9_off_44 : decode cX9_off 44 = .ok (.iload 5, 2) := by decide +kernel
theorem dX9_off_46 : decode cX9_off 46 = .ok (.aload_n 0, 1) := by decide +kernel
theorem dX9_off_47 : decode cX9_off 47 = .ok (.getfield 103, 3) := by decide +kernel
theorem dX9_off_50 : decode cX9_off 50 = .ok (.if_icmp .ge 52, 3) := by decide +kernel
theorem dX9_off_53 : decode cX9_off 53 = .ok (.iload 4, 2) := by decide +kernel
theorem dX9_off_55 : decode cX9_off 55 = .ok (.ifCond .eq 47, 3) := by decide +kernel
theorem dX9_off_58 : decode cX9_off 58 = .ok (.aload_n 0, 1) := by decide +kernel
theorem dX9_off_59 : decode cX9_off 59 = .ok (.getfield 32, 3) := by decide +kernel
theorem dX9_off_62 : decode cX9_off 62 = .ok (.iload 5, 2) := by decide +kernel
theorem dX9_off_64 : decode cX9_off 64 = .ok (.iaload, 1) := by decide +kernel
theorem dX9_off_65 : decode cX9_off 65 = .ok (.iload_n 1, 1) := by decide +kernel
theorem dX9_off_66 : decode cX9_off 66 = .ok (.if_icmp .ne 30, 3) := by decide +kernel
theorem dX9_off_69 : decode cX9_off 69 = .ok (.aload_n 0, 1) := by decide +kernel
theorem dX9_off_70 : decode cX9_off 70 = .ok (.getfield 35, 3) := by decide +kernel
theorem dX9_off_73 : decode cX9_off 73 = .ok (.iload 5, 2) := by decide +kernel
theorem dX9_off_75 : decode cX9_off 75 = .ok (.iaload, 1) := by decide +kernel
theorem dX9_off_76 : decode cX9_off 76 = .ok (.iload_n 2, 1) := by decide +kernel
theorem dX9_off_77 : decode cX9_off 77 = .ok (.if_icmp .ne 19, 3) := by decide +kernel
theorem dX9_off_80 : decode cX9_off 80 = .ok (.aload_n 0, 1) := by decide +kernel
theorem dX9_off_81 : decode cX9_off 81 = .ok (.getfield 38, 3) := by decide +kernel
theorem dX9_off_84 : decode cX9_off 84 = .ok (.iload 5, 2) := by decide +kernel
theorem dX9_off_86 : decode cX9_off 86 = .ok (.iaload, 1) := by decide +kernel
theorem dX9_off_87 : decode cX9_off 87 = .ok (.bipush 60, 2) := by decide +kernel
theorem dX9_off_89 : decode cX9_off 89 = .ok (.idiv, 1) := by decide +kernel
theorem dX9_off_90 : decode cX9_off 90 = .ok (.iload_n 3, 1) := by decide +kernel
theorem dX9_off_91 : decode cX9_off 91 = .ok (.if_icmp .ne 5, 3) := by decide +kernel
theorem dX9_off_94 : decode cX9_off 94 = .ok (.iconst 0, 1) := by decide +kernel
theorem dX9_off_95 : decode cX9_off 95 = .ok (.ireturn, 1) := by decide +kernel
theorem dX9_off_96 : decode cX9_off 96 = .ok (.iinc 5 1, 3) := by decide +kernel
theorem dX9_off_99 : decode cX9_off 99 = .ok (.goto (-55), 3) := by decide +kernel
theorem dX9_off_102 : decode cX9_off 102 = .ok (.aload_n 0, 1) := by decide +kernel
theorem dX9_off_103 : decode cX9_off 103 = .ok (.getfield 50, 3) := by decide +kernel
theorem dX9_off_106 : decode cX9_off 106 = .ok (.iload_n 1, 1) := by decide +kernel
theorem dX9_off_107 : decode cX9_off 107 = .ok (.iload_n 2, 1) := by decide +kernel
theorem dX9_off_108 : decode cX9_off 108 = .ok (.iload_n 3, 1) := by decide +kernel
theorem dX9_off_109 : decode cX9_off 109 = .ok (.invokestatic 117, 3) := by decide +kernel
theorem dX9_off_112 : decode cX9_off 112 = .ok (.iload 4, 2) := by decide +kernel
theorem dX9_off_114 : decode cX9_off 114 = .ok (.bastore, 1) := by decide +kernel
theorem dX9_off_115 : decode cX9_off 115 = .ok (.iconst 1, 1) := by decide +kernel
theorem dX9_off_116 : decode cX9_off 116 = .ok (.ireturn, 1) := by decide +kernel
theorem dX9_wind_0 : decode cX9_wind 0 = .ok (.aload_n 0, 1) := by decide +kernel
theorem dX9_wind_1 : decode cX9_wind 1 = .ok (.iconst 0, 1) := by decide +kernel
theorem dX9_wind_2 : decode cX9_wind 2 = .ok (.putfield 1, 3) := by decide +kernel
theorem dX9_wind_5 : decode cX9_wind 5 = .ok (.iload_n 1, 1) := by decide +kernel
theorem dX9_wind_6 : decode cX9_wind 6 = .ok (.iload_n 2, 1) := by decide +kernel
theorem dX9_wind_7 : decode cX9_wind 7 = .ok (.invokestatic 113, 3) := by decide +kernel
theorem dX9_wind_10 : decode cX9_wind 10 = .ok (.ifCond .eq 12, 3) := by decide +kernel
theorem dX9_wind_13 : decode cX9_wind 13 = .ok (.iload_n 3, 1) := by decide +kernel
theorem dX9_wind_14 : decode cX9_wind 14 = .ok (.ifCond .lt 8, 3) := by decide +kernel
theorem dX9_wind_17 : decode cX9_wind 17 = .ok (.iload_n 3, 1) := by decide +kernel
theorem dX9_wind_18 : decode cX9_wind 18 = .ok (.iconst 3, 1) := by decide +kernel
theorem dX9_wind_19 : decode cX9_wind 19 = .ok (.if_icmp .le 5, 3) := by decide +kernel
theorem dX9_wind_22 : decode cX9_wind 22 = .ok (.iconst 0, 1) := by decide +kernel
theorem dX9_wind_23 : decode cX9_wind 23 = .ok (.ireturn, 1) := by decide +kernel
theorem dX9_wind_24 : decode cX9_wind 24 = .ok (.aload_n 0, 1) := by decide +kernel
theorem dX9_wind_25 : decode cX9_wind 25 = .ok (.getfield 54, 3) := by decide +kernel
theorem dX9_wind_28 : decode cX9_wind 28 = .ok (.bipush 30, 2) := by decide +kernel
theorem dX9_wind_30 : decode cX9_wind 30 = .ok (.iload_n 1, 1) := by decide +kernel
theorem dX9_wind_31 : decode cX9_wind 31 = .ok (.imul, 1) := by decide +kernel
theorem dX9_wind_32 : decode cX9_wind 32 = .ok (.iload_n 2, 1) := by decide +kernel
theorem dX9_wind_33 : decode cX9_wind 33 = .ok (.iadd, 1) := by decide +kernel
theorem dX9_wind_34 : decode cX9_wind 34 = .ok (.iload_n 3, 1) := by decide +kernel
theorem dX9_wind_35 : decode cX9_wind 35 = .ok (.iastore, 1) := by decide +kernel
theorem dX9_wind_36 : decode cX9_wind 36 = .ok (.iconst 1, 1) := by decide +kernel
theorem dX9_wind_37 : decode cX9_wind 37 = .ok (.ireturn, 1) := by decide +kernel
theorem dX9_known_0 : decode cX9_known 0 = .ok (.aload_n 0, 1) := by decide +kernel
theorem dX9_known_1 : decode cX9_known 1 = .ok (.iconst 0, 1) := by decide +kernel
theorem dX9_known_2 : decode cX9_known 2 = .ok (.putfield 1, 3) := by decide +kernel
theorem dX9_known_5 : decode cX9_known 5 = .ok (.iload_n 1, 1) := by decide +kernel
theorem dX9_known_6 : decode cX9_known 6 = .ok (.iconst (-1), 1) := by decide +kernel
theorem dX9_known_7 : decode cX9_known 7 = .ok (.if_icmp .lt 11, 3) := by decide +kernel
theorem dX9_known_10 : decode cX9_known 10 = .ok (.iload_n 1, 1) := by decide +kernel
theorem dX9_known_11 : decode cX9_known 11 = .ok (.aload_n 0, 1) := by decide +kernel
theorem dX9_known_12 : decode cX9_known 12 = .ok (.getfield 110, 3) := by decide +kernel
theorem dX9_known_15 : decode cX9_known 15 = .ok (.if_icmp .le 5, 3) := by decide +kernel
theorem dX9_known_18 : decode cX9_known 18 = .ok (.iconst 0, 1) := by decide +kernel
theorem dX9_known_19 : decode cX9_known 19 = .ok (.ireturn, 1) := by decide +kernel
theorem dX9_known_20 : decode cX9_known 20 = .ok (.aload_n 0, 1) := by decide +kernel
theorem dX9_known_21 : decode cX9_known 21 = .ok (.iload_n 1, 1) := by decide +kernel
theorem dX9_known_22 : decode cX9_known 22 = .ok (.putfield 29, 3) := by decide +kernel
theorem dX9_known_25 : decode cX9_known 25 = .ok (.iconst 1, 1) := by decide +kernel
theorem dX9_known_26 : decode cX9_known 26 = .ok (.ireturn, 1) := by decide +kernel
theorem dX9_isKnown_0 : decode cX9_isKnown 0 = .ok (.iload_n 1, 1) := by decide +kernel
theorem dX9_isKnown_1 : decode cX9_isKnown 1 = .ok (.ifCond .lt 42, 3) := by decide +kernel
theorem dX9_isKnown_4 : decode cX9_isKnown 4 = .ok (.iload_n 1, 1) := by decide +kernel
theorem dX9_isKnown_5 : decode cX9_isKnown 5 = .ok (.aload_n 0, 1) := by decide +kernel
theorem dX9_isKnown_6 : decode cX9_isKnown 6 = .ok (.getfield 103, 3) := by decide +kernel
theorem dX9_isKnown_9 : decode cX9_isKnown 9 = .ok (.if_icmp .ge 34, 3) := by decide +kernel
theorem dX9_isKnown_12 : decode cX9_isKnown 12 = .ok (.aload_n 0, 1) := by decide +kernel
theorem dX9_isKnown_13 : decode cX9_isKnown 13 = .ok (.getfield 47, 3) := by decide +kernel
theorem dX9_isKnown_16 : decode cX9_isKnown 16 = .ok (.iload_n 1, 1) := by decide +kernel
theorem dX9_isKnown_17 : decode cX9_isKnown 17 = .ok (.iaload, 1) := by decide +kernel
theorem dX9_isKnown_18 : decode cX9_isKnown 18 = .ok (.aload_n 0, 1) := by decide +kernel
theorem dX9_isKnown_19 : decode cX9_isKnown 19 = .ok (.getfield 29, 3) := by decide +kernel
theorem dX9_isKnown_22 : decode cX9_isKnown 22 = .ok (.ifCond .ge 10, 3) := by decide +kernel
theorem dX9_isKnown_25 : decode cX9_isKnown 25 = .ok (.aload_n 0, 1) := by decide +kernel
theorem dX9_isKnown_26 : decode cX9_isKnown 26 = .ok (.getfield 110, 3) := by decide +kernel
theorem dX9_isKnown_29 : decode cX9_isKnown 29 = .ok (.goto 7, 3) := by decide +kernel
theorem dX9_isKnown_32 : decode cX9_isKnown 32 = .ok (.aload_n 0, 1) := by decide +kernel
theorem dX9_isKnown_33 : decode cX9_isKnown 33 = .ok (.getfield 29, 3) := by decide +kernel
theorem dX9_isKnown_36 : decode cX9_isKnown 36 = .ok (.if_icmp .gt 7, 3) := by decide +kernel
theorem dX9_isKnown_39 : decode cX9_isKnown 39 = .ok (.iconst 1, 1) := by decide +kernel
theorem dX9_isKnown_40 : decode cX9_isKnown 40 = .ok (.goto 4, 3) := by decide +kernel
theorem dX9_isKnown_43 : decode cX9_isKnown 43 = .ok (.iconst 0, 1) := by decide +kernel
theorem dX9_isKnown_44 : decode cX9_isKnown 44 = .ok (.ireturn, 1) := by decide +kernel
theorem dX9_meets_0 : decode cX9_meets 0 = .ok (.aload_n 0, 1) := by decide +kernel
theorem dX9_meets_1 : decode cX9_meets 1 = .ok (.getfield 44, 3) := by decide +kernel
theorem dX9_meets_4 : decode cX9_meets 4 = .ok (.iload_n 1, 1) := by decide +kernel
theorem dX9_meets_5 : decode cX9_meets 5 = .ok (.iaload, 1) := by decide +kernel
theorem dX9_meets_6 : decode cX9_meets 6 = .ok (.istore_n 3, 1) := by decide +kernel
theorem dX9_meets_7 : decode cX9_meets 7 = .ok (.aload_n 0, 1) := by decide +kernel
theorem dX9_meets_8 : decode cX9_meets 8 = .ok (.getfield 44, 3) := by decide +kernel
theorem dX9_meets_11 : decode cX9_meets 11 = .ok (.iload_n 2, 1) := by decide +kernel
theorem dX9_meets_12 : decode cX9_meets 12 = .ok (.iaload, 1) := by decide +kernel
theorem dX9_meets_13 : decode cX9_meets 13 = .ok (.istore 4, 2) := by decide +kernel
theorem dX9_meets_15 : decode cX9_meets 15 = .ok (.aload_n 0, 1) := by decide +kernel
theorem dX9_meets_16 : decode cX9_meets 16 = .ok (.iload_n 3, 1) := by decide +kernel
theorem dX9_meets_17 : decode cX9_meets 17 = .ok (.iload 4, 2) := by decide +kernel
theorem dX9_meets_19 : decode cX9_meets 19 = .ok (.invokevirtual 121, 3) := by decide +kernel
theorem dX9_meets_22 : decode cX9_meets 22 = .ok (.ifCond .ne 15, 3) := by decide +kernel
theorem dX9_meets_25 : decode cX9_meets 25 = .ok (.aload_n 0, 1) := by decide +kernel
theorem dX9_meets_26 : decode cX9_meets 26 = .ok (.iload 4, 2) := by decide +kernel
theorem dX9_meets_28 : decode cX9_meets 28 = .ok (.iload_n 3, 1) := by decide +kernel
theorem dX9_meets_29 : decode cX9_meets 29 = .ok (.invokevirtual 121, 3) := by decide +kernel
theorem dX9_meets_32 : decode cX9_meets 32 = .ok (.ifCond .ne 5, 3) := by decide +kernel
theorem dX9_meets_35 : decode cX9_meets 35 = .ok (.iconst 0, 1) := by decide +kernel
theorem dX9_meets_36 : decode cX9_meets 36 = .ok (.ireturn, 1) := by decide +kernel
theorem dX9_meets_37 : decode cX9_meets 37 = .ok (.aload_n 0, 1) := by decide +kernel
theorem dX9_meets_38 : decode cX9_meets 38 = .ok (.iload_n 3, 1) := by decide +kernel
theorem dX9_meets_39 : decode cX9_meets 39 = .ok (.invokevirtual 124, 3) := by decide +kernel
theorem dX9_meets_42 : decode cX9_meets 42 = .ok (.aload_n 0, 1) := by decide +kernel
theorem dX9_meets_43 : decode cX9_meets 43 = .ok (.iload 4, 2) := by decide +kernel
theorem dX9_meets_45 : decode cX9_meets 45 = .ok (.invokevirtual 124, 3) := by decide +kernel
theorem dX9_meets_48 : decode cX9_meets 48 = .ok (.if_icmp .lt 7, 3) := by decide +kernel
theorem dX9_meets_51 : decode cX9_meets 51 = .ok (.iload_n 3, 1) := by decide +kernel
theorem dX9_meets_52 : decode cX9_meets 52 = .ok (.goto 5, 3) := by decide +kernel
theorem dX9_meets_55 : decode cX9_meets 55 = .ok (.iload 4, 2) := by decide +kernel
theorem dX9_meets_57 : decode cX9_meets 57 = .ok (.istore 5, 2) := by decide +kernel
theorem dX9_meets_59 : decode cX9_meets 59 = .ok (.aload_n 0, 1) := by decide +kernel
theorem dX9_meets_60 : decode cX9_meets 60 = .ok (.getfield 38, 3) := by decide +kernel
theorem dX9_meets_63 : decode cX9_meets 63 = .ok (.iload_n 2, 1) := by decide +kernel
theorem dX9_meets_64 : decode cX9_meets 64 = .ok (.iaload, 1) := by decide +kernel
theorem dX9_meets_65 : decode cX9_meets 65 = .ok (.aload_n 0, 1) := by decide +kernel
theorem dX9_meets_66 : decode cX9_meets 66 = .ok (.getfield 38, 3) := by decide +kernel
theorem dX9_meets_69 : decode cX9_meets 69 = .ok (.iload_n 1, 1) := by decide +kernel
theorem dX9_meets_70 : decode cX9_meets 70 = .ok (.iaload, 1) := by decide +kernel
theorem dX9_meets_71 : decode cX9_meets 71 = .ok (.isub, 1) := by decide +kernel
theorem dX9_meets_72 : decode cX9_meets 72 = .ok (.istore 6, 2) := by decide +kernel
theorem dX9_meets_74 : decode cX9_meets 74 = .ok (.aload_n 0, 1) := by decide +kernel
theorem dX9_meets_75 : decode cX9_meets 75 = .ok (.getfield 13, 3) := by decide +kernel
theorem dX9_meets_78 : decode cX9_meets 78 = .ok (.aload_n 0, 1) := by decide +kernel
theorem dX9_meets_79 : decode cX9_meets 79 = .ok (.getfield 41, 3) := by decide +kernel
theorem dX9_meets_82 : decode cX9_meets 82 = .ok (.iload_n 2, 1) := by decide +kernel
theorem dX9_meets_83 : decode cX9_meets 83 = .ok (.iaload, 1) := by decide +kernel
theorem dX9_meets_84 : decode cX9_meets 84 = .ok (.iaload, 1) := by decide +kernel
theorem dX9_meets_85 : decode cX9_meets 85 = .ok (.aload_n 0, 1) := by decide +kernel
theorem dX9_meets_86 : decode cX9_meets 86 = .ok (.getfield 13, 3) := by decide +kernel
theorem dX9_meets_89 : decode cX9_meets 89 = .ok (.aload_n 0, 1) := by decide +kernel
theorem dX9_meets_90 : decode cX9_meets 90 = .ok (.getfield 41, 3) := by decide +kernel
theorem dX9_meets_93 : decode cX9_meets 93 = .ok (.iload_n 1, 1) := by decide +kernel
theorem dX9_meets_94 : decode cX9_meets 94 = .ok (.iaload, 1) := by decide +kernel
theorem dX9_meets_95 : decode cX9_meets 95 = .ok (.iaload, 1) := by decide +kernel
theorem dX9_meets_96 : decode cX9_meets 96 = .ok (.isub, 1) := by decide +kernel
theorem dX9_meets_97 : decode cX9_meets 97 = .ok (.bipush 60, 2) := by decide +kernel
theorem dX9_meets_99 : decode cX9_meets 99 = .ok (.imul, 1) := by decide +kernel
theorem dX9_meets_100 : decode cX9_meets 100 = .ok (.istore 7, 2) := by decide +kernel
theorem dX9_meets_102 : decode cX9_meets 102 = .ok (.iload 6, 2) := by decide +kernel
theorem dX9_meets_104 : decode cX9_meets 104 = .ok (.iconst 1, 1) := by decide +kernel
theorem dX9_meets_105 : decode cX9_meets 105 = .ok (.if_icmp .lt 37, 3) := by decide +kernel
theorem dX9_meets_108 : decode cX9_meets 108 = .ok (.iload 7, 2) := by decide +kernel
theorem dX9_meets_110 : decode cX9_meets 110 = .ok (.aload_n 0, 1) := by decide +kernel
theorem dX9_meets_111 : decode cX9_meets 111 = .ok (.getfield 23, 3) := by decide +kernel
theorem dX9_meets_114 : decode cX9_meets 114 = .ok (.iload 5, 2) := by decide +kernel
theorem dX9_meets_116 : decode cX9_meets 116 = .ok (.iaload, 1) := by decide +kernel
theorem dX9_meets_117 : decode cX9_meets 117 = .ok (.iload 6, 2) := by decide +kernel
theorem dX9_meets_119 : decode cX9_meets 119 = .ok (.imul, 1) := by decide +kernel
theorem dX9_meets_120 : decode cX9_meets 120 = .ok (.if_icmp .lt 22, 3) := by decide +kernel
theorem dX9_meets_123 : decode cX9_meets 123 = .ok (.iload 7, 2) := by decide +kernel
theorem dX9_meets_125 : decode cX9_meets 125 = .ok (.aload_n 0, 1) := by decide +kernel
theorem dX9_meets_126 : decode cX9_meets 126 = .ok (.getfield 26, 3) := by decide +kernel
theorem dX9_meets_129 : decode cX9_meets 129 = .ok (.iload 5, 2) := by decide +kernel
theorem dX9_meets_131 : decode cX9_meets 131 = .ok (.iaload, 1) := by decide +kernel
theorem dX9_meets_132 : decode cX9_meets 132 = .ok (.iload 6, 2) := by decide +kernel
theorem dX9_meets_134 : decode cX9_meets 134 = .ok (.imul, 1) := by decide +kernel
theorem dX9_meets_135 : decode cX9_meets 135 = .ok (.if_icmp .gt 7, 3) := by decide +kernel
theorem dX9_meets_138 : decode cX9_meets 138 = .ok (.iconst 1, 1) := by decide +kernel
theorem dX9_meets_139 : decode cX9_meets 139 = .ok (.goto 4, 3) := by decide +kernel
theorem dX9_meets_142 : decode cX9_meets 142 = .ok (.iconst 0, 1) := by decide +kernel
theorem dX9_meets_143 : decode cX9_meets 143 = .ok (.ireturn, 1) := by decide +kernel
theorem dX9_finds_0 : decode cX9_finds 0 = .ok (.iconst 0, 1) := by decide +kernel
theorem dX9_finds_1 : decode cX9_finds 1 = .ok (.istore_n 2, 1) := by decide +kernel
theorem dX9_finds_2 : decode cX9_finds 2 = .ok (.iload_n 2, 1) := by decide +kernel
theorem dX9_finds_3 : decode cX9_finds 3 = .ok (.aload_n 0, 1) := by decide +kernel
theorem dX9_finds_4 : decode cX9_finds 4 = .ok (.getfield 128, 3) := by decide +kernel
theorem dX9_finds_7 : decode cX9_finds 7 = .ok (.if_icmp .ge 79, 3) := by decide +kernel
theorem dX9_finds_10 : decode cX9_finds 10 = .ok (.aload_n 0, 1) := by decide +kernel
theorem dX9_finds_11 : decode cX9_finds 11 = .ok (.getfield 69, 3) := by decide +kernel
theorem dX9_finds_14 : decode cX9_finds 14 = .ok (.bipush 12, 2) := by decide +kernel
theorem dX9_finds_16 : decode cX9_finds 16 = .ok (.iload_n 1, 1) := by decide +kernel
theorem dX9_finds_17 : decode cX9_finds 17 = .ok (.imul, 1) := by decide +kernel
theorem dX9_finds_18 : decode cX9_finds 18 = .ok (.iload_n 2, 1) := by decide +kernel
theorem dX9_finds_19 : decode cX9_finds 19 = .ok (.iadd, 1) := by decide +kernel
theorem dX9_finds_20 : decode cX9_finds 20 = .ok (.baload, 1) := by decide +kernel
theorem dX9_finds_21 : decode cX9_finds 21 = .ok (.ifCond .eq 59, 3) := by decide +kernel
theorem dX9_finds_24 : decode cX9_finds 24 = .ok (.aload_n 0, 1) := by decide +kernel
theorem dX9_finds_25 : decode cX9_finds 25 = .ok (.getfield 78, 3) := by decide +kernel
theorem dX9_finds_28 : decode cX9_finds 28 = .ok (.iload_n 2, 1) := by decide +kernel
theorem dX9_finds_29 : decode cX9_finds 29 = .ok (.baload, 1) := by decide +kernel
theorem dX9_finds_30 : decode cX9_finds 30 = .ok (.ifCond .ne 50, 3) := by decide +kernel
theorem dX9_finds_33 : decode cX9_finds 33 = .ok (.aload_n 0, 1) := by decide +kernel
theorem dX9_finds_34 : decode cX9_finds 34 = .ok (.getfield 81, 3) := by decide +kernel
theorem dX9_finds_37 : decode cX9_finds 37 = .ok (.iload_n 2, 1) := by decide +kernel
theorem dX9_finds_38 : decode cX9_finds 38 = .ok (.baload, 1) := by decide +kernel
theorem dX9_finds_39 : decode cX9_finds 39 = .ok (.ifCond .ne 41, 3) := by decide +kernel
theorem dX9_finds_42 : decode cX9_finds 42 = .ok (.aload_n 0, 1) := by decide +kernel
theorem dX9_finds_43 : decode cX9_finds 43 = .ok (.getfield 81, 3) := by decide +kernel
theorem dX9_finds_46 : decode cX9_finds 46 = .ok (.iload_n 2, 1) := by decide +kernel
theorem dX9_finds_47 : decode cX9_finds 47 = .ok (.iconst 1, 1) := by decide +kernel
theorem dX9_finds_48 : decode cX9_finds 48 = .ok (.bastore, 1) := by decide +kernel
theorem dX9_finds_49 : decode cX9_finds 49 = .ok (.aload_n 0, 1) := by decide +kernel
theorem dX9_finds_50 : decode cX9_finds 50 = .ok (.getfield 72, 3) := by decide +kernel
theorem dX9_finds_53 : decode cX9_finds 53 = .ok (.iload_n 2, 1) := by decide +kernel
theorem dX9_finds_54 : decode cX9_finds 54 = .ok (.iaload, 1) := by decide +kernel
theorem dX9_finds_55 : decode cX9_finds 55 = .ok (.ifCond .lt 16, 3) := by decide +kernel
theorem dX9_finds_58 : decode cX9_finds 58 = .ok (.aload_n 0, 1) := by decide +kernel
theorem dX9_finds_59 : decode cX9_finds 59 = .ok (.aload_n 0, 1) := by decide +kernel
theorem dX9_finds_60 : decode cX9_finds 60 = .ok (.getfield 72, 3) := by decide +kernel
theorem dX9_finds_63 : decode cX9_finds 63 = .ok (.iload_n 2, 1) := by decide +kernel
theorem dX9_finds_64 : decode cX9_finds 64 = .ok (.iaload, 1) := by decide +kernel
theorem dX9_finds_65 : decode cX9_finds 65 = .ok (.invokevirtual 131, 3) := by decide +kernel
theorem dX9_finds_68 : decode cX9_finds 68 = .ok (.ifCond .eq 12, 3) := by decide +kernel
theorem dX9_finds_71 : decode cX9_finds 71 = .ok (.aload_n 0, 1) := by decide +kernel
theorem dX9_finds_72 : decode cX9_finds 72 = .ok (.getfield 72, 3) := by decide +kernel
theorem dX9_finds_75 : decode cX9_finds 75 = .ok (.iload_n 2, 1) := by decide +kernel
theorem dX9_finds_76 : decode cX9_finds 76 = .ok (.iload_n 1, 1) := by decide +kernel
theorem dX9_finds_77 : decode cX9_finds 77 = .ok (.iastore, 1) := by decide +kernel
theorem dX9_finds_78 : decode cX9_finds 78 = .ok (.iconst 1, 1) := by decide +kernel
theorem dX9_finds_79 : decode cX9_finds 79 = .ok (.ireturn, 1) := by decide +kernel
theorem dX9_finds_80 : decode cX9_finds 80 = .ok (.iinc 2 1, 3) := by decide +kernel
theorem dX9_finds_83 : decode cX9_finds 83 = .ok (.goto (-81), 3) := by decide +kernel
theorem dX9_finds_86 : decode cX9_finds 86 = .ok (.iconst 0, 1) := by decide +kernel
theorem dX9_finds_87 : decode cX9_finds 87 = .ok (.ireturn, 1) := by decide +kernel
theorem dX9_most_0 : decode cX9_most 0 = .ok (.iconst 0, 1) := by decide +kernel
theorem dX9_most_1 : decode cX9_most 1 = .ok (.istore_n 1, 1) := by decide +kernel
theorem dX9_most_2 : decode cX9_most 2 = .ok (.iconst 0, 1) := by decide +kernel
theorem dX9_most_3 : decode cX9_most 3 = .ok (.istore_n 2, 1) := by decide +kernel
theorem dX9_most_4 : decode cX9_most 4 = .ok (.iload_n 2, 1) := by decide +kernel
theorem dX9_most_5 : decode cX9_most 5 = .ok (.aload_n 0, 1) := by decide +kernel
theorem dX9_most_6 : decode cX9_most 6 = .ok (.getfield 128, 3) := by decide +kernel
theorem dX9_most_9 : decode cX9_most 9 = .ok (.if_icmp .ge 16, 3) := by decide +kernel
theorem dX9_most_12 : decode cX9_most 12 = .ok (.aload_n 0, 1) := by decide +kernel
theorem dX9_most_13 : decode cX9_most 13 = .ok (.getfield 72, 3) := by decide +kernel
theorem dX9_most_16 : decode cX9_most 16 = .ok (.iload_n 2, 1) := by decide +kernel
theorem dX9_most_17 : decode cX9_most 17 = .ok (.iconst (-1), 1) := by decide +kernel
theorem dX9_most_18 : decode cX9_most 18 = .ok (.iastore, 1) := by decide +kernel
theorem dX9_most_19 : decode cX9_most 19 = .ok (.iinc 2 1, 3) := by decide +kernel
theorem dX9_most_22 : decode cX9_most 22 = .ok (.goto (-18), 3) := by decide +kernel
theorem dX9_most_25 : decode cX9_most 25 = .ok (.iconst 0, 1) := by decide +kernel
theorem dX9_most_26 : decode cX9_most 26 = .ok (.istore_n 2, 1) := by decide +kernel
theorem dX9_most_27 : decode cX9_most 27 = .ok (.iload_n 2, 1) := by decide +kernel
theorem dX9_most_28 : decode cX9_most 28 = .ok (.aload_n 0, 1) := by decide +kernel
theorem dX9_most_29 : decode cX9_most 29 = .ok (.getfield 134, 3) := by decide +kernel
theorem dX9_most_32 : decode cX9_most 32 = .ok (.if_icmp .ge 57, 3) := by decide +kernel
theorem dX9_most_35 : decode cX9_most 35 = .ok (.iconst 0, 1) := by decide +kernel
theorem dX9_most_36 : decode cX9_most 36 = .ok (.istore_n 3, 1) := by decide +kernel
theorem dX9_most_37 : decode cX9_most 37 = .ok (.iload_n 3, 1) := by decide +kernel
theorem dX9_most_38 : decode cX9_most 38 = .ok (.aload_n 0, 1) := by decide +kernel
theorem dX9_most_39 : decode cX9_most 39 = .ok (.getfield 128, 3) := by decide +kernel
theorem dX9_most_42 : decode cX9_most 42 = .ok (.if_icmp .ge 16, 3) := by decide +kernel
theorem dX9_most_45 : decode cX9_most 45 = .ok (.aload_n 0, 1) := by decide +kernel
theorem dX9_most_46 : decode cX9_most 46 = .ok (.getfield 81, 3) := by decide +kernel
theorem dX9_most_49 : decode cX9_most 49 = .ok (.iload_n 3, 1) := by decide +kernel
theorem dX9_most_50 : decode cX9_most 50 = .ok (.iconst 0, 1) := by decide +kernel
theorem dX9_most_51 : decode cX9_most 51 = .ok (.bastore, 1) := by decide +kernel
theorem dX9_most_52 : decode cX9_most 52 = .ok (.iinc 3 1, 3) := by decide +kernel
theorem dX9_most_55 : decode cX9_most 55 = .ok (.goto (-18), 3) := by decide +kernel
theorem dX9_most_58 : decode cX9_most 58 = .ok (.iload_n 1, 1) := by decide +kernel
theorem dX9_most_59 : decode cX9_most 59 = .ok (.aload_n 0, 1) := by decide +kernel
theorem dX9_most_60 : decode cX9_most 60 = .ok (.getfield 75, 3) := by decide +kernel
theorem dX9_most_63 : decode cX9_most 63 = .ok (.iload_n 2, 1) := by decide +kernel
theorem dX9_most_64 : decode cX9_most 64 = .ok (.baload, 1) := by decide +kernel
theorem dX9_most_65 : decode cX9_most 65 = .ok (.ifCond .ne 15, 3) := by decide +kernel
theorem dX9_most_68 : decode cX9_most 68 = .ok (.aload_n 0, 1) := by decide +kernel
theorem dX9_most_69 : decode cX9_most 69 = .ok (.iload_n 2, 1) := by decide +kernel
theorem dX9_most_70 : decode cX9_most 70 = .ok (.invokevirtual 131, 3) := by decide +kernel
theorem dX9_most_73 : decode cX9_most 73 = .ok (.ifCond .eq 7, 3) := by decide +kernel
theorem dX9_most_76 : decode cX9_most 76 = .ok (.iconst 1, 1) := by decide +kernel
theorem dX9_most_77 : decode cX9_most 77 = .ok (.goto 4, 3) := by decide +kernel
theorem dX9_most_80 : decode cX9_most 80 = .ok (.iconst 0, 1) := by decide +kernel
theorem dX9_most_81 : decode cX9_most 81 = .ok (.iadd, 1) := by decide +kernel
theorem dX9_most_82 : decode cX9_most 82 = .ok (.istore_n 1, 1) := by decide +kernel
theorem dX9_most_83 : decode cX9_most 83 = .ok (.iinc 2 1, 3) := by decide +kernel
theorem dX9_most_86 : decode cX9_most 86 = .ok (.goto (-59), 3) := by decide +kernel
theorem dX9_most_89 : decode cX9_most 89 = .ok (.iload_n 1, 1) := by decide +kernel
theorem dX9_most_90 : decode cX9_most 90 = .ok (.ireturn, 1) := by decide +kernel
theorem dX9_collect_0 : decode cX9_collect 0 = .ok (.aload_n 0, 1) := by decide +kernel
theorem dX9_collect_1 : decode cX9_collect 1 = .ok (.iconst 0, 1) := by decide +kernel
theorem dX9_collect_2 : decode cX9_collect 2 = .ok (.putfield 134, 3) := by decide +kernel
theorem dX9_collect_5 : decode cX9_collect 5 = .ok (.aload_n 0, 1) := by decide +kernel
theorem dX9_collect_6 : decode cX9_collect 6 = .ok (.iconst 0, 1) := by decide +kernel
theorem dX9_collect_7 : decode cX9_collect 7 = .ok (.putfield 128, 3) := by decide +kernel
theorem dX9_collect_10 : decode cX9_collect 10 = .ok (.iconst 0, 1) := by decide +kernel
theorem dX9_collect_11 : decode cX9_collect 11 = .ok (.istore 4, 2) := by decide +kernel
theorem dX9_collect_13 : decode cX9_collect 13 = .ok (.iload 4, 2) := by decide +kernel
theorem dX9_collect_15 : decode cX9_collect 15 = .ok (.aload_n 0, 1) := by decide +kernel
theorem dX9_collect_16 : decode cX9_collect 16 = .ok (.getfield 103, 3) := by decide +kernel
theorem dX9_collect_19 : decode cX9_collect 19 = .ok (.if_icmp .ge 140, 3) := by decide +kernel
theorem dX9_collect_22 : decode cX9_collect 22 = .ok (.aload_n 0, 1) := by decide +kernel
theorem dX9_collect_23 : decode cX9_collect 23 = .ok (.iload 4, 2) := by decide +kernel
theorem dX9_collect_25 : decode cX9_collect 25 = .ok (.invokevirtual 137, 3) := by decide +kernel
theorem dX9_collect_28 : decode cX9_collect 28 = .ok (.ifCond .eq 60, 3) := by decide +kernel
theorem dX9_collect_31 : decode cX9_collect 31 = .ok (.aload_n 0, 1) := by decide +kernel
theorem dX9_collect_32 : decode cX9_collect 32 = .ok (.getfield 32, 3) := by decide +kernel
theorem dX9_collect_35 : decode cX9_collect 35 = .ok (.iload 4, 2) := by decide +kernel
theorem dX9_collect_37 : decode cX9_collect 37 = .ok (.iaload, 1) := by decide +kernel
theorem dX9_collect_38 : decode cX9_collect 38 = .ok (.iload_n 1, 1) := by decide +kernel
theorem dX9_collect_39 : decode cX9_collect 39 = .ok (.if_icmp .ne 49, 3) := by decide +kernel
theorem dX9_collect_42 : decode cX9_collect 42 = .ok (.aload_n 0, 1) := by decide +kernel
theorem dX9_collect_43 : decode cX9_collect 43 = .ok (.getfield 35, 3) := by decide +kernel
theorem dX9_collect_46 : decode cX9_collect 46 = .ok (.iload 4, 2) := by decide +kernel
theorem dX9_collect_48 : decode cX9_collect 48 = .ok (.iaload, 1) := by decide +kernel
theorem dX9_collect_49 : decode cX9_collect 49 = .ok (.iload_n 2, 1) := by decide +kernel
theorem dX9_collect_50 : decode cX9_collect 50 = .ok (.if_icmp .ne 38, 3) := by decide +kernel
theorem dX9_collect_53 : decode cX9_collect 53 = .ok (.aload_n 0, 1) := by decide +kernel
theorem dX9_collect_54 : decode cX9_collect 54 = .ok (.getfield 41, 3) := by decide +kernel
theorem dX9_collect_57 : decode cX9_collect 57 = .ok (.iload 4, 2) := by decide +kernel
theorem dX9_collect_59 : decode cX9_collect 59 = .ok (.iaload, 1) := by decide +kernel
theorem dX9_collect_60 : decode cX9_collect 60 = .ok (.iload_n 3, 1) := by decide +kernel
theorem dX9_collect_61 : decode cX9_collect 61 = .ok (.if_icmp .ne 27, 3) := by decide +kernel
theorem dX9_collect_64 : decode cX9_collect 64 = .ok (.aload_n 0, 1) := by decide +kernel
theorem dX9_collect_65 : decode cX9_collect 65 = .ok (.getfield 63, 3) := by decide +kernel
theorem dX9_collect_68 : decode cX9_collect 68 = .ok (.aload_n 0, 1) := by decide +kernel
theorem dX9_collect_69 : decode cX9_collect 69 = .ok (.getfield 134, 3) := by decide +kernel
theorem dX9_collect_72 : decode cX9_collect 72 = .ok (.iload 4, 2) := by decide +kernel
theorem dX9_collect_74 : decode cX9_collect 74 = .ok (.iastore, 1) := by decide +kernel
theorem dX9_collect_75 : decode cX9_collect 75 = .ok (.aload_n 0, 1) := by decide +kernel
theorem dX9_collect_76 : decode cX9_collect 76 = .ok (.dup, 1) := by decide +kernel
theorem dX9_collect_77 : decode cX9_collect 77 = .ok (.getfield 134, 3) := by decide +kernel
theorem dX9_collect_80 : decode cX9_collect 80 = .ok (.iconst 1, 1) := by decide +kernel
theorem dX9_collect_81 : decode cX9_collect 81 = .ok (.iadd, 1) := by decide +kernel
theorem dX9_collect_82 : decode cX9_collect 82 = .ok (.putfield 134, 3) := by decide +kernel
theorem dX9_collect_85 : decode cX9_collect 85 = .ok (.goto 68, 3) := by decide +kernel
theorem dX9_collect_88 : decode cX9_collect 88 = .ok (.aload_n 0, 1) := by decide +kernel
theorem dX9_collect_89 : decode cX9_collect 89 = .ok (.iload 4, 2) := by decide +kernel
theorem dX9_collect_91 : decode cX9_collect 91 = .ok (.invokevirtual 137, 3) := by decide +kernel
theorem dX9_collect_94 : decode cX9_collect 94 = .ok (.ifCond .eq 59, 3) := by decide +kernel
theorem dX9_collect_97 : decode cX9_collect 97 = .ok (.aload_n 0, 1) := by decide +kernel
theorem dX9_collect_98 : decode cX9_collect 98 = .ok (.getfield 32, 3) := by decide +kernel
theorem dX9_collect_101 : decode cX9_collect 101 = .ok (.iload 4, 2) := by decide +kernel
theorem dX9_collect_103 : decode cX9_collect 103 = .ok (.iaload, 1) := by decide +kernel
theorem dX9_collect_104 : decode cX9_collect 104 = .ok (.iload_n 1, 1) := by decide +kernel
theorem dX9_collect_105 : decode cX9_collect 105 = .ok (.if_icmp .ne 48, 3) := by decide +kernel
theorem dX9_collect_108 : decode cX9_collect 108 = .ok (.aload_n 0, 1) := by decide +kernel
theorem dX9_collect_109 : decode cX9_collect 109 = .ok (.getfield 35, 3) := by decide +kernel
theorem dX9_collect_112 : decode cX9_collect 112 = .ok (.iload 4, 2) := by decide +kernel
theorem dX9_collect_114 : decode cX9_collect 114 = .ok (.iaload, 1) := by decide +kernel
theorem dX9_collect_115 : decode cX9_collect 115 = .ok (.iload_n 2, 1) := by decide +kernel
theorem dX9_collect_116 : decode cX9_collect 116 = .ok (.if_icmp .ne 37, 3) := by decide +kernel
theorem dX9_collect_119 : decode cX9_collect 119 = .ok (.aload_n 0, 1) := by decide +kernel
theorem dX9_collect_120 : decode cX9_collect 120 = .ok (.getfield 41, 3) := by decide +kernel
theorem dX9_collect_123 : decode cX9_collect 123 = .ok (.iload 4, 2) := by decide +kernel
theorem dX9_collect_125 : decode cX9_collect 125 = .ok (.iaload, 1) := by decide +kernel
theorem dX9_collect_126 : decode cX9_collect 126 = .ok (.iload_n 3, 1) := by decide +kernel
theorem dX9_collect_127 : decode cX9_collect 127 = .ok (.iconst 1, 1) := by decide +kernel
theorem dX9_collect_128 : decode cX9_collect 128 = .ok (.iadd, 1) := by decide +kernel
theorem dX9_collect_129 : decode cX9_collect 129 = .ok (.if_icmp .ne 24, 3) := by decide +kernel
theorem dX9_collect_132 : decode cX9_collect 132 = .ok (.aload_n 0, 1) := by decide +kernel
theorem dX9_collect_133 : decode cX9_collect 133 = .ok (.getfield 66, 3) := by decide +kernel
theorem dX9_collect_136 : decode cX9_collect 136 = .ok (.aload_n 0, 1) := by decide +kernel
theorem dX9_collect_137 : decode cX9_collect 137 = .ok (.getfield 128, 3) := by decide +kernel
theorem dX9_collect_140 : decode cX9_collect 140 = .ok (.iload 4, 2) := by decide +kernel
theorem dX9_collect_142 : decode cX9_collect 142 = .ok (.iastore, 1) := by decide +kernel
theorem dX9_collect_143 : decode cX9_collect 143 = .ok (.aload_n 0, 1) := by decide +kernel
theorem dX9_collect_144 : decode cX9_collect 144 = .ok (.dup, 1) := by decide +kernel
theorem dX9_collect_145 : decode cX9_collect 145 = .ok (.getfield 128, 3) := by decide +kernel
theorem dX9_collect_148 : decode cX9_collect 148 = .ok (.iconst 1, 1) := by decide +kernel
theorem dX9_collect_149 : decode cX9_collect 149 = .ok (.iadd, 1) := by decide +kernel
theorem dX9_collect_150 : decode cX9_collect 150 = .ok (.putfield 128, 3) := by decide +kernel
theorem dX9_collect_153 : decode cX9_collect 153 = .ok (.iinc 4 1, 3) := by decide +kernel
theorem dX9_collect_156 : decode cX9_collect 156 = .ok (.goto (-143), 3) := by decide +kernel
theorem dX9_collect_159 : decode cX9_collect 159 = .ok (.iconst 0, 1) := by decide +kernel
theorem dX9_collect_160 : decode cX9_collect 160 = .ok (.istore 4, 2) := by decide +kernel
theorem dX9_collect_162 : decode cX9_collect 162 = .ok (.iload 4, 2) := by decide +kernel
theorem dX9_collect_164 : decode cX9_collect 164 = .ok (.aload_n 0, 1) := by decide +kernel
theorem dX9_collect_165 : decode cX9_collect 165 = .ok (.getfield 134, 3) := by decide +kernel
theorem dX9_collect_168 : decode cX9_collect 168 = .ok (.if_icmp .ge 74, 3) := by decide +kernel
theorem dX9_collect_171 : decode cX9_collect 171 = .ok (.aload_n 0, 1) := by decide +kernel
theorem dX9_collect_172 : decode cX9_collect 172 = .ok (.getfield 75, 3) := by decide +kernel
theorem dX9_collect_175 : decode cX9_collect 175 = .ok (.iload 4, 2) := by decide +kernel
theorem dX9_collect_177 : decode cX9_collect 177 = .ok (.iconst 0, 1) := by decide +kernel
theorem dX9_collect_178 : decode cX9_collect 178 = .ok (.bastore, 1) := by decide +kernel
theorem dX9_collect_179 : decode cX9_collect 179 = .ok (.iconst 0, 1) := by decide +kernel
theorem dX9_collect_180 : decode cX9_collect 180 = .ok (.istore 5, 2) := by decide +kernel
theorem dX9_collect_182 : decode cX9_collect 182 = .ok (.iload 5, 2) := by decide +kernel
theorem dX9_collect_184 : decode cX9_collect 184 = .ok (.aload_n 0, 1) := by decide +kernel
theorem dX9_collect_185 : decode cX9_collect 185 = .ok (.getfield 128, 3) := by decide +kernel
theorem dX9_collect_188 : decode cX9_collect 188 = .ok (.if_icmp .ge 48, 3) := by decide +kernel
theorem dX9_collect_191 : decode cX9_collect 191 = .ok (.aload_n 0, 1) := by decide +kernel
theorem dX9_collect_192 : decode cX9_collect 192 = .ok (.getfield 69, 3) := by decide +kernel
theorem dX9_collect_195 : decode cX9_collect 195 = .ok (.bipush 12, 2) := by decide +kernel
theorem dX9_collect_197 : decode cX9_collect 197 = .ok (.iload 4, 2) := by decide +kernel
theorem dX9_collect_199 : decode cX9_collect 199 = .ok (.imul, 1) := by decide +kernel
theorem dX9_collect_200 : decode cX9_collect 200 = .ok (.iload 5, 2) := by decide +kernel
theorem dX9_collect_202 : decode cX9_collect 202 = .ok (.iadd, 1) := by decide +kernel
theorem dX9_collect_203 : decode cX9_collect 203 = .ok (.aload_n 0, 1) := by decide +kernel
theorem dX9_collect_204 : decode cX9_collect 204 = .ok (.aload_n 0, 1) := by decide +kernel
theorem dX9_collect_205 : decode cX9_collect 205 = .ok (.getfield 63, 3) := by decide +kernel
theorem dX9_collect_208 : decode cX9_collect 208 = .ok (.iload 4, 2) := by decide +kernel
theorem dX9_collect_210 : decode cX9_collect 210 = .ok (.iaload, 1) := by decide +kernel
theorem dX9_collect_211 : decode cX9_collect 211 = .ok (.aload_n 0, 1) := by decide +kernel
theorem dX9_collect_212 : decode cX9_collect 212 = .ok (.getfield 66, 3) := by decide +kernel
theorem dX9_collect_215 : decode cX9_collect 215 = .ok (.iload 5, 2) := by decide +kernel
theorem dX9_collect_217 : decode cX9_collect 217 = .ok (.iaload, 1) := by decide +kernel
theorem dX9_collect_218 : decode cX9_collect 218 = .ok (.invokevirtual 140, 3) := by decide +kernel
theorem dX9_collect_221 : decode cX9_collect 221 = .ok (.bastore, 1) := by decide +kernel
theorem dX9_collect_222 : decode cX9_collect 222 = .ok (.aload_n 0, 1) := by decide +kernel
theorem dX9_collect_223 : decode cX9_collect 223 = .ok (.getfield 78, 3) := by decide +kernel
theorem dX9_collect_226 : decode cX9_collect 226 = .ok (.iload 5, 2) := by decide +kernel
theorem dX9_collect_228 : decode cX9_collect 228 = .ok (.iconst 0, 1) := by decide +kernel
theorem dX9_collect_229 : decode cX9_collect 229 = .ok (.bastore, 1) := by decide +kernel
theorem dX9_collect_230 : decode cX9_collect 230 = .ok (.iinc 5 1, 3) := by decide +kernel
theorem dX9_collect_233 : decode cX9_collect 233 = .ok (.goto (-51), 3) := by decide +kernel
theorem dX9_collect_236 : decode cX9_collect 236 = .ok (.iinc 4 1, 3) := by decide +kernel
theorem dX9_collect_239 : decode cX9_collect 239 = .ok (.goto (-77), 3) := by decide +kernel
theorem dX9_collect_242 : decode cX9_collect 242 = .ok (.return_, 1) := by decide +kernel
theorem dX9_pairs_0 : decode cX9_pairs 0 = .ok (.aload_n 0, 1) := by decide +kernel
theorem dX9_pairs_1 : decode cX9_pairs 1 = .ok (.iload_n 1, 1) := by decide +kernel
theorem dX9_pairs_2 : decode cX9_pairs 2 = .ok (.iload_n 2, 1) := by decide +kernel
theorem dX9_pairs_3 : decode cX9_pairs 3 = .ok (.iload_n 3, 1) := by decide +kernel
theorem dX9_pairs_4 : decode cX9_pairs 4 = .ok (.invokevirtual 143, 3) := by decide +kernel
theorem dX9_pairs_7 : decode cX9_pairs 7 = .ok (.aload_n 0, 1) := by decide +kernel
theorem dX9_pairs_8 : decode cX9_pairs 8 = .ok (.invokevirtual 147, 3) := by decide +kernel
theorem dX9_pairs_11 : decode cX9_pairs 11 = .ok (.istore 4, 2) := by decide +kernel
theorem dX9_pairs_13 : decode cX9_pairs 13 = .ok (.iconst 0, 1) := by decide +kernel
theorem dX9_pairs_14 : decode cX9_pairs 14 = .ok (.istore 5, 2) := by decide +kernel
theorem dX9_pairs_16 : decode cX9_pairs 16 = .ok (.iload 5, 2) := by decide +kernel
theorem dX9_pairs_18 : decode cX9_pairs 18 = .ok (.aload_n 0, 1) := by decide +kernel
theorem dX9_pairs_19 : decode cX9_pairs 19 = .ok (.getfield 134, 3) := by decide +kernel
theorem dX9_pairs_22 : decode cX9_pairs 22 = .ok (.if_icmp .ge 164, 3) := by decide +kernel
theorem dX9_pairs_25 : decode cX9_pairs 25 = .ok (.aload_n 0, 1) := by decide +kernel
theorem dX9_pairs_26 : decode cX9_pairs 26 = .ok (.getfield 75, 3) := by decide +kernel
theorem dX9_pairs_29 : decode cX9_pairs 29 = .ok (.iload 5, 2) := by decide +kernel
theorem dX9_pairs_31 : decode cX9_pairs 31 = .ok (.iconst 1, 1) := by decide +kernel
theorem dX9_pairs_32 : decode cX9_pairs 32 = .ok (.bastore, 1) := by decide +kernel
theorem dX9_pairs_33 : decode cX9_pairs 33 = .ok (.iconst (-1), 1) := by decide +kernel
theorem dX9_pairs_34 : decode cX9_pairs 34 = .ok (.istore 6, 2) := by decide +kernel
theorem dX9_pairs_36 : decode cX9_pairs 36 = .ok (.iconst 0, 1) := by decide +kernel
theorem dX9_pairs_37 : decode cX9_pairs 37 = .ok (.istore 7, 2) := by decide +kernel
theorem dX9_pairs_39 : decode cX9_pairs 39 = .ok (.iload 7, 2) := by decide +kernel
theorem dX9_pairs_41 : decode cX9_pairs 41 = .ok (.aload_n 0, 1) := by decide +kernel
theorem dX9_pairs_42 : decode cX9_pairs 42 = .ok (.getfield 128, 3) := by decide +kernel
theorem dX9_pairs_45 : decode cX9_pairs 45 = .ok (.if_icmp .ge 89, 3) := by decide +kernel
theorem dX9_pairs_48 : decode cX9_pairs 48 = .ok (.iload 6, 2) := by decide +kernel
theorem dX9_pairs_50 : decode cX9_pairs 50 = .ok (.ifCond .ge 84, 3) := by decide +kernel
theorem dX9_pairs_53 : decode cX9_pairs 53 = .ok (.iload 4, 2) := by decide +kernel
theorem dX9_pairs_55 : decode cX9_pairs 55 = .ok (.ifCond .le 79, 3) := by decide +kernel
theorem dX9_pairs_58 : decode cX9_pairs 58 = .ok (.aload_n 0, 1) := by decide +kernel
theorem dX9_pairs_59 : decode cX9_pairs 59 = .ok (.getfield 69, 3) := by decide +kernel
theorem dX9_pairs_62 : decode cX9_pairs 62 = .ok (.bipush 12, 2) := by decide +kernel
theorem dX9_pairs_64 : decode cX9_pairs 64 = .ok (.iload 5, 2) := by decide +kernel
theorem dX9_pairs_66 : decode cX9_pairs 66 = .ok (.imul, 1) := by decide +kernel
theorem dX9_pairs_67 : decode cX9_pairs 67 = .ok (.iload 7, 2) := by decide +kernel
theorem dX9_pairs_69 : decode cX9_pairs 69 = .ok (.iadd, 1) := by decide +kernel
theorem dX9_pairs_70 : decode cX9_pairs 70 = .ok (.baload, 1) := by decide +kernel
theorem dX9_pairs_71 : decode cX9_pairs 71 = .ok (.ifCond .eq 57, 3) := by decide +kernel
theorem dX9_pairs_74 : decode cX9_pairs 74 = .ok (.aload_n 0, 1) := by decide +kernel
theorem dX9_pairs_75 : decode cX9_pairs 75 = .ok (.getfield 78, 3) := by decide +kernel
theorem dX9_pairs_78 : decode cX9_pairs 78 = .ok (.iload 7, 2) := by decide +kernel
theorem dX9_pairs_80 : decode cX9_pairs 80 = .ok (.baload, 1) := by decide +kernel
theorem dX9_pairs_81 : decode cX9_pairs 81 = .ok (.ifCond .ne 47, 3) := by decide +kernel
theorem dX9_pairs_84 : decode cX9_pairs 84 = .ok (.aload_n 0, 1) := by decide +kernel
theorem dX9_pairs_85 : decode cX9_pairs 85 = .ok (.getfield 78, 3) := by decide +kernel
theorem dX9_pairs_88 : decode cX9_pairs 88 = .ok (.iload 7, 2) := by decide +kernel
theorem dX9_pairs_90 : decode cX9_pairs 90 = .ok (.iconst 1, 1) := by decide +kernel
theorem dX9_pairs_91 : decode cX9_pairs 91 = .ok (.bastore, 1) := by decide +kernel
theorem dX9_pairs_92 : decode cX9_pairs 92 = .ok (.aload_n 0, 1) := by decide +kernel
theorem dX9_pairs_93 : decode cX9_pairs 93 = .ok (.invokevirtual 147, 3) := by decide +kernel
theorem dX9_pairs_96 : decode cX9_pairs 96 = .ok (.iload 4, 2) := by decide +kernel
theorem dX9_pairs_98 : decode cX9_pairs 98 = .ok (.iconst 1, 1) := by decide +kernel
theorem dX9_pairs_99 : decode cX9_pairs 99 = .ok (.isub, 1) := by decide +kernel
theorem dX9_pairs_100 : decode cX9_pairs 100 = .ok (.if_icmp .ne 8, 3) := by decide +kernel
theorem dX9_pairs_103 : decode cX9_pairs 103 = .ok (.iload 7, 2) := by decide +kernel
theorem dX9_pairs_105 : decode cX9_pairs 105 = .ok (.goto 4, 3) := by decide +kernel
theorem dX9_pairs_108 : decode cX9_pairs 108 = .ok (.iconst (-1), 1) := by decide +kernel
theorem dX9_pairs_109 : decode cX9_pairs 109 = .ok (.istore 6, 2) := by decide +kernel
theorem dX9_pairs_111 : decode cX9_pairs 111 = .ok (.aload_n 0, 1) := by decide +kernel
theorem dX9_pairs_112 : decode cX9_pairs 112 = .ok (.getfield 78, 3) := by decide +kernel
theorem dX9_pairs_115 : decode cX9_pairs 115 = .ok (.iload 7, 2) := by decide +kernel
theorem dX9_pairs_117 : decode cX9_pairs 117 = .ok (.iload 6, 2) := by decide +kernel
theorem dX9_pairs_119 : decode cX9_pairs 119 = .ok (.ifCond .lt 7, 3) := by decide +kernel
theorem dX9_pairs_122 : decode cX9_pairs 122 = .ok (.iconst 1, 1) := by decide +kernel
theorem dX9_pairs_123 : decode cX9_pairs 123 = .ok (.goto 4, 3) := by decide +kernel
theorem dX9_pairs_126 : decode cX9_pairs 126 = .ok (.iconst 0, 1) := by decide +kernel
theorem dX9_pairs_127 : decode cX9_pairs 127 = .ok (.bastore, 1) := by decide +kernel
theorem dX9_pairs_128 : decode cX9_pairs 128 = .ok (.iinc 7 1, 3) := by decide +kernel
theorem dX9_pairs_131 : decode cX9_pairs 131 = .ok (.goto (-92), 3) := by decide +kernel
theorem dX9_pairs_134 : decode cX9_pairs 134 = .ok (.iload 6, 2) := by decide +kernel
theorem dX9_pairs_136 : decode cX9_pairs 136 = .ok (.ifCond .lt 44, 3) := by decide +kernel
theorem dX9_pairs_139 : decode cX9_pairs 139 = .ok (.aload_n 0, 1) := by decide +kernel
theorem dX9_pairs_140 : decode cX9_pairs 140 = .ok (.getfield 57, 3) := by decide +kernel
theorem dX9_pairs_143 : decode cX9_pairs 143 = .ok (.aload_n 0, 1) := by decide +kernel
theorem dX9_pairs_144 : decode cX9_pairs 144 = .ok (.getfield 63, 3) := by decide +kernel
theorem dX9_pairs_147 : decode cX9_pairs 147 = .ok (.iload 5, 2) := by decide +kernel
theorem dX9_pairs_149 : decode cX9_pairs 149 = .ok (.iaload, 1) := by decide +kernel
theorem dX9_pairs_150 : decode cX9_pairs 150 = .ok (.aload_n 0, 1) := by decide +kernel
theorem dX9_pairs_151 : decode cX9_pairs 151 = .ok (.getfield 66, 3) := by decide +kernel
theorem dX9_pairs_154 : decode cX9_pairs 154 = .ok (.iload 6, 2) := by decide +kernel
theorem dX9_pairs_156 : decode cX9_pairs 156 = .ok (.iaload, 1) := by decide +kernel
theorem dX9_pairs_157 : decode cX9_pairs 157 = .ok (.iastore, 1) := by decide +kernel
theorem dX9_pairs_158 : decode cX9_pairs 158 = .ok (.aload_n 0, 1) := by decide +kernel
theorem dX9_pairs_159 : decode cX9_pairs 159 = .ok (.getfield 60, 3) := by decide +kernel
theorem dX9_pairs_162 : decode cX9_pairs 162 = .ok (.aload_n 0, 1) := by decide +kernel
theorem dX9_pairs_163 : decode cX9_pairs 163 = .ok (.getfield 66, 3) := by decide +kernel
theorem dX9_pairs_166 : decode cX9_pairs 166 = .ok (.iload 6, 2) := by decide +kernel
theorem dX9_pairs_168 : decode cX9_pairs 168 = .ok (.iaload, 1) := by decide +kernel
theorem dX9_pairs_169 : decode cX9_pairs 169 = .ok (.aload_n 0, 1) := by decide +kernel
theorem dX9_pairs_170 : decode cX9_pairs 170 = .ok (.getfield 63, 3) := by decide +kernel
theorem dX9_pairs_173 : decode cX9_pairs 173 = .ok (.iload 5, 2) := by decide +kernel
theorem dX9_pairs_175 : decode cX9_pairs 175 = .ok (.iaload, 1) := by decide +kernel
theorem dX9_pairs_176 : decode cX9_pairs 176 = .ok (.iastore, 1) := by decide +kernel
theorem dX9_pairs_177 : decode cX9_pairs 177 = .ok (.iinc 4 (-1), 3) := by decide +kernel
theorem dX9_pairs_180 : decode cX9_pairs 180 = .ok (.iinc 5 1, 3) := by decide +kernel
theorem dX9_pairs_183 : decode cX9_pairs 183 = .ok (.goto (-167), 3) := by decide +kernel
theorem dX9_pairs_186 : decode cX9_pairs 186 = .ok (.return_, 1) := by decide +kernel
theorem dX9_pairsOf_0 : decode cX9_pairsOf 0 = .ok (.iconst 0, 1) := by decide +kernel
theorem dX9_pairsOf_1 : decode cX9_pairsOf 1 = .ok (.istore_n 2, 1) := by decide +kernel
theorem dX9_pairsOf_2 : decode cX9_pairsOf 2 = .ok (.iload_n 2, 1) := by decide +kernel
theorem dX9_pairsOf_3 : decode cX9_pairsOf 3 = .ok (.sipush 300, 3) := by decide +kernel
theorem dX9_pairsOf_6 : decode cX9_pairsOf 6 = .ok (.if_icmp .ge 23, 3) := by decide +kernel
theorem dX9_pairsOf_9 : decode cX9_pairsOf 9 = .ok (.aload_n 0, 1) := by decide +kernel
theorem dX9_pairsOf_10 : decode cX9_pairsOf 10 = .ok (.getfield 57, 3) := by decide +kernel
theorem dX9_pairsOf_13 : decode cX9_pairsOf 13 = .ok (.iload_n 2, 1) := by decide +kernel
theorem dX9_pairsOf_14 : decode cX9_pairsOf 14 = .ok (.iconst (-1), 1) := by decide +kernel
theorem dX9_pairsOf_15 : decode cX9_pairsOf 15 = .ok (.iastore, 1) := by decide +kernel
theorem dX9_pairsOf_16 : decode cX9_pairsOf 16 = .ok (.aload_n 0, 1) := by decide +kernel
theorem dX9_pairsOf_17 : decode cX9_pairsOf 17 = .ok (.getfield 60, 3) := by decide +kernel
theorem dX9_pairsOf_20 : decode cX9_pairsOf 20 = .ok (.iload_n 2, 1) := by decide +kernel
theorem dX9_pairsOf_21 : decode cX9_pairsOf 21 = .ok (.iconst (-1), 1) := by decide +kernel
theorem dX9_pairsOf_22 : decode cX9_pairsOf 22 = .ok (.iastore, 1) := by decide +kernel
theorem dX9_pairsOf_23 : decode cX9_pairsOf 23 = .ok (.iinc 2 1, 3) := by decide +kernel
theorem dX9_pairsOf_26 : decode cX9_pairsOf 26 = .ok (.goto (-24), 3) := by decide +kernel
theorem dX9_pairsOf_29 : decode cX9_pairsOf 29 = .ok (.iconst 0, 1) := by decide +kernel
theorem dX9_pairsOf_30 : decode cX9_pairsOf 30 = .ok (.istore_n 2, 1) := by decide +kernel
theorem dX9_pairsOf_31 : decode cX9_pairsOf 31 = .ok (.iload_n 2, 1) := by decide +kernel
theorem dX9_pairsOf_32 : decode cX9_pairsOf 32 = .ok (.bipush 30, 2) := by decide +kernel
theorem dX9_pairsOf_34 : decode cX9_pairsOf 34 = .ok (.if_icmp .ge 34, 3) := by decide +kernel
theorem dX9_pairsOf_37 : decode cX9_pairsOf 37 = .ok (.iconst 0, 1) := by decide +kernel
theorem dX9_pairsOf_38 : decode cX9_pairsOf 38 = .ok (.istore_n 3, 1) := by decide +kernel
theorem dX9_pairsOf_39 : decode cX9_pairsOf 39 = .ok (.iload_n 3, 1) := by decide +kernel
theorem dX9_pairsOf_40 : decode cX9_pairsOf 40 = .ok (.iconst 1, 1) := by decide +kernel
theorem dX9_pairsOf_41 : decode cX9_pairsOf 41 = .ok (.iadd, 1) := by decide +kernel
theorem dX9_pairsOf_42 : decode cX9_pairsOf 42 = .ok (.aload_n 0, 1) := by decide +kernel
theorem dX9_pairsOf_43 : decode cX9_pairsOf 43 = .ok (.getfield 100, 3) := by decide +kernel
theorem dX9_pairsOf_46 : decode cX9_pairsOf 46 = .ok (.if_icmp .ge 16, 3) := by decide +kernel
theorem dX9_pairsOf_49 : decode cX9_pairsOf 49 = .ok (.aload_n 0, 1) := by decide +kernel
theorem dX9_pairsOf_50 : decode cX9_pairsOf 50 = .ok (.iload_n 1, 1) := by decide +kernel
theorem dX9_pairsOf_51 : decode cX9_pairsOf 51 = .ok (.iload_n 2, 1) := by decide +kernel
theorem dX9_pairsOf_52 : decode cX9_pairsOf 52 = .ok (.iload_n 3, 1) := by decide +kernel
theorem dX9_pairsOf_53 : decode cX9_pairsOf 53 = .ok (.invokevirtual 151, 3) := by decide +kernel
theorem dX9_pairsOf_56 : decode cX9_pairsOf 56 = .ok (.iinc 3 1, 3) := by decide +kernel
theorem dX9_pairsOf_59 : decode cX9_pairsOf 59 = .ok (.goto (-20), 3) := by decide +kernel
theorem dX9_pairsOf_62 : decode cX9_pairsOf 62 = .ok (.iinc 2 1, 3) := by decide +kernel
theorem dX9_pairsOf_65 : decode cX9_pairsOf 65 = .ok (.goto (-34), 3) := by decide +kernel
theorem dX9_pairsOf_68 : decode cX9_pairsOf 68 = .ok (.return_, 1) := by decide +kernel
theorem dX9_partner_0 : decode cX9_partner 0 = .ok (.aload_n 0, 1) := by decide +kernel
theorem dX9_partner_1 : decode cX9_partner 1 = .ok (.iconst 0, 1) := by decide +kernel
theorem dX9_partner_2 : decode cX9_partner 2 = .ok (.putfield 1, 3) := by decide +kernel
theorem dX9_partner_5 : decode cX9_partner 5 = .ok (.aload_n 0, 1) := by decide +kernel
theorem dX9_partner_6 : decode cX9_partner 6 = .ok (.iload_n 1, 1) := by decide +kernel
theorem dX9_partner_7 : decode cX9_partner 7 = .ok (.invokevirtual 137, 3) := by decide +kernel
theorem dX9_partner_10 : decode cX9_partner 10 = .ok (.ifCond .ne 6, 3) := by decide +kernel
theorem dX9_partner_13 : decode cX9_partner 13 = .ok (.bipush (-2), 2) := by decide +kernel
theorem dX9_partner_15 : decode cX9_partner 15 = .ok (.ireturn, 1) := by decide +kernel
theorem dX9_partner_16 : decode cX9_partner 16 = .ok (.aload_n 0, 1) := by decide +kernel
theorem dX9_partner_17 : decode cX9_partner 17 = .ok (.aload_n 0, 1) := by decide +kernel
theorem dX9_partner_18 : decode cX9_partner 18 = .ok (.getfield 32, 3) := by decide +kernel
theorem dX9_partner_21 : decode cX9_partner 21 = .ok (.iload_n 1, 1) := by decide +kernel
theorem dX9_partner_22 : decode cX9_partner 22 = .ok (.iaload, 1) := by decide +kernel
theorem dX9_partner_23 : decode cX9_partner 23 = .ok (.invokevirtual 154, 3) := by decide +kernel
theorem dX9_partner_26 : decode cX9_partner 26 = .ok (.aload_n 0, 1) := by decide +kernel
theorem dX9_partner_27 : decode cX9_partner 27 = .ok (.getfield 57, 3) := by decide +kernel
theorem dX9_partner_30 : decode cX9_partner 30 = .ok (.iload_n 1, 1) := by decide +kernel
theorem dX9_partner_31 : decode cX9_partner 31 = .ok (.iaload, 1) := by decide +kernel
theorem dX9_partner_32 : decode cX9_partner 32 = .ok (.ireturn, 1) := by decide +kernel
theorem dX9_firstOf_0 : decode cX9_firstOf 0 = .ok (.iload_n 1, 1) := by decide +kernel
theorem dX9_firstOf_1 : decode cX9_firstOf 1 = .ok (.istore_n 2, 1) := by decide +kernel
theorem dX9_firstOf_2 : decode cX9_firstOf 2 = .ok (.aload_n 0, 1) := by decide +kernel
theorem dX9_firstOf_3 : decode cX9_firstOf 3 = .ok (.getfield 60, 3) := by decide +kernel
theorem dX9_firstOf_6 : decode cX9_firstOf 6 = .ok (.iload_n 2, 1) := by decide +kernel
theorem dX9_firstOf_7 : decode cX9_firstOf 7 = .ok (.iaload, 1) := by decide +kernel
theorem dX9_firstOf_8 : decode cX9_firstOf 8 = .ok (.ifCond .lt 13, 3) := by decide +kernel
theorem dX9_firstOf_11 : decode cX9_firstOf 11 = .ok (.aload_n 0, 1) := by decide +kernel
theorem dX9_firstOf_12 : decode cX9_firstOf 12 = .ok (.getfield 60, 3) := by decide +kernel
theorem dX9_firstOf_15 : decode cX9_firstOf 15 = .ok (.iload_n 2, 1) := by decide +kernel
theorem dX9_firstOf_16 : decode cX9_firstOf 16 = .ok (.iaload, 1) := by decide +kernel
theorem dX9_firstOf_17 : decode cX9_firstOf 17 = .ok (.istore_n 2, 1) := by decide +kernel
theorem dX9_firstOf_18 : decode cX9_firstOf 18 = .ok (.goto (-16), 3) := by decide +kernel
theorem dX9_firstOf_21 : decode cX9_firstOf 21 = .ok (.iload_n 2, 1) := by decide +kernel
theorem dX9_firstOf_22 : decode cX9_firstOf 22 = .ok (.ireturn, 1) := by decide +kernel
theorem dX9_bird_0 : decode cX9_bird 0 = .ok (.aload_n 0, 1) := by decide +kernel
theorem dX9_bird_1 : decode cX9_bird 1 = .ok (.iconst 0, 1) := by decide +kernel
theorem dX9_bird_2 : decode cX9_bird 2 = .ok (.putfield 1, 3) := by decide +kernel
theorem dX9_bird_5 : decode cX9_bird 5 = .ok (.aload_n 0, 1) := by decide +kernel
theorem dX9_bird_6 : decode cX9_bird 6 = .ok (.iload_n 1, 1) := by decide +kernel
theorem dX9_bird_7 : decode cX9_bird 7 = .ok (.invokevirtual 137, 3) := by decide +kernel
theorem dX9_bird_10 : decode cX9_bird 10 = .ok (.ifCond .ne 6, 3) := by decide +kernel
theorem dX9_bird_13 : decode cX9_bird 13 = .ok (.bipush (-2), 2) := by decide +kernel
theorem dX9_bird_15 : decode cX9_bird 15 = .ok (.ireturn, 1) := by decide +kernel
theorem dX9_bird_16 : decode cX9_bird 16 = .ok (.aload_n 0, 1) := by decide +kernel
theorem dX9_bird_17 : decode cX9_bird 17 = .ok (.aload_n 0, 1) := by decide +kernel
theorem dX9_bird_18 : decode cX9_bird 18 = .ok (.getfield 32, 3) := by decide +kernel
theorem dX9_bird_21 : decode cX9_bird 21 = .ok (.iload_n 1, 1) := by decide +kernel
theorem dX9_bird_22 : decode cX9_bird 22 = .ok (.iaload, 1) := by decide +kernel
theorem dX9_bird_23 : decode cX9_bird 23 = .ok (.invokevirtual 154, 3) := by decide +kernel
theorem dX9_bird_26 : decode cX9_bird 26 = .ok (.aload_n 0, 1) := by decide +kernel
theorem dX9_bird_27 : decode cX9_bird 27 = .ok (.iload_n 1, 1) := by decide +kernel
theorem dX9_bird_28 : decode cX9_bird 28 = .ok (.invokevirtual 158, 3) := by decide +kernel
theorem dX9_bird_31 : decode cX9_bird 31 = .ok (.ireturn, 1) := by decide +kernel
theorem dX9_isBird_0 : decode cX9_isBird 0 = .ok (.aload_n 0, 1) := by decide +kernel
theorem dX9_isBird_1 : decode cX9_isBird 1 = .ok (.iload_n 1, 1) := by decide +kernel
theorem dX9_isBird_2 : decode cX9_isBird 2 = .ok (.invokevirtual 137, 3) := by decide +kernel
theorem dX9_isBird_5 : decode cX9_isBird 5 = .ok (.ifCond .eq 26, 3) := by decide +kernel
theorem dX9_isBird_8 : decode cX9_isBird 8 = .ok (.aload_n 0, 1) := by decide +kernel
theorem dX9_isBird_9 : decode cX9_isBird 9 = .ok (.getfield 32, 3) := by decide +kernel
theorem dX9_isBird_12 : decode cX9_isBird 12 = .ok (.iload_n 1, 1) := by decide +kernel
theorem dX9_isBird_13 : decode cX9_isBird 13 = .ok (.iaload, 1) := by decide +kernel
theorem dX9_isBird_14 : decode cX9_isBird 14 = .ok (.iload_n 2, 1) := by decide +kernel
theorem dX9_isBird_15 : decode cX9_isBird 15 = .ok (.if_icmp .ne 16, 3) := by decide +kernel
theorem dX9_isBird_18 : decode cX9_isBird 18 = .ok (.aload_n 0, 1) := by decide +kernel
theorem dX9_isBird_19 : decode cX9_isBird 19 = .ok (.getfield 60, 3) := by decide +kernel
theorem dX9_isBird_22 : decode cX9_isBird 22 = .ok (.iload_n 1, 1) := by decide +kernel
theorem dX9_isBird_23 : decode cX9_isBird 23 = .ok (.iaload, 1) := by decide +kernel
theorem dX9_isBird_24 : decode cX9_isBird 24 = .ok (.ifCond .ge 7, 3) := by decide +kernel
theorem dX9_isBird_27 : decode cX9_isBird 27 = .ok (.iconst 1, 1) := by decide +kernel
theorem dX9_isBird_28 : decode cX9_isBird 28 = .ok (.goto 4, 3) := by decide +kernel
theorem dX9_isBird_31 : decode cX9_isBird 31 = .ok (.iconst 0, 1) := by decide +kernel
theorem dX9_isBird_32 : decode cX9_isBird 32 = .ok (.ireturn, 1) := by decide +kernel
theorem dX9_kindOfBird_0 : decode cX9_kindOfBird 0 = .ok (.aload_n 0, 1) := by decide +kernel
theorem dX9_kindOfBird_1 : decode cX9_kindOfBird 1 = .ok (.getfield 44, 3) := by decide +kernel
theorem dX9_kindOfBird_4 : decode cX9_kindOfBird 4 = .ok (.iload_n 1, 1) := by decide +kernel
theorem dX9_kindOfBird_5 : decode cX9_kindOfBird 5 = .ok (.iaload, 1) := by decide +kernel
theorem dX9_kindOfBird_6 : decode cX9_kindOfBird 6 = .ok (.istore_n 2, 1) := by decide +kernel
theorem dX9_kindOfBird_7 : decode cX9_kindOfBird 7 = .ok (.aload_n 0, 1) := by decide +kernel
theorem dX9_kindOfBird_8 : decode cX9_kindOfBird 8 = .ok (.getfield 57, 3) := by decide +kernel
theorem dX9_kindOfBird_11 : decode cX9_kindOfBird 11 = .ok (.iload_n 1, 1) := by decide +kernel
theorem dX9_kindOfBird_12 : decode cX9_kindOfBird 12 = .ok (.iaload, 1) := by decide +kernel
theorem dX9_kindOfBird_13 : decode cX9_kindOfBird 13 = .ok (.istore_n 3, 1) := by decide +kernel
theorem dX9_kindOfBird_14 : decode cX9_kindOfBird 14 = .ok (.iload_n 3, 1) := by decide +kernel
theorem dX9_kindOfBird_15 : decode cX9_kindOfBird 15 = .ok (.ifCond .lt 42, 3) := by decide +kernel
theorem dX9_kindOfBird_18 : decode cX9_kindOfBird 18 = .ok (.aload_n 0, 1) := by decide +kernel
theorem dX9_kindOfBird_19 : decode cX9_kindOfBird 19 = .ok (.aload_n 0, 1) := by decide +kernel
theorem dX9_kindOfBird_20 : decode cX9_kindOfBird 20 = .ok (.getfield 44, 3) := by decide +kernel
theorem dX9_kindOfBird_23 : decode cX9_kindOfBird 23 = .ok (.iload_n 3, 1) := by decide +kernel
theorem dX9_kindOfBird_24 : decode cX9_kindOfBird 24 = .ok (.iaload, 1) := by decide +kernel
theorem dX9_kindOfBird_25 : decode cX9_kindOfBird 25 = .ok (.invokevirtual 124, 3) := by decide +kernel
theorem dX9_kindOfBird_28 : decode cX9_kindOfBird 28 = .ok (.aload_n 0, 1) := by decide +kernel
theorem dX9_kindOfBird_29 : decode cX9_kindOfBird 29 = .ok (.iload_n 2, 1) := by decide +kernel
theorem dX9_kindOfBird_30 : decode cX9_kindOfBird 30 = .ok (.invokevirtual 124, 3) := by decide +kernel
theorem dX9_kindOfBird_33 : decode cX9_kindOfBird 33 = .ok (.if_icmp .le 12, 3) := by decide +kernel
theorem dX9_kindOfBird_36 : decode cX9_kindOfBird 36 = .ok (.aload_n 0, 1) := by decide +kernel
theorem dX9_kindOfBird_37 : decode cX9_kindOfBird 37 = .ok (.getfield 44, 3) := by decide +kernel
theorem dX9_kindOfBird_40 : decode cX9_kindOfBird 40 = .ok (.iload_n 3, 1) := by decide +kernel
theorem dX9_kindOfBird_41 : decode cX9_kindOfBird 41 = .ok (.iaload, 1) := by decide +kernel
theorem dX9_kindOfBird_42 : decode cX9_kindOfBird 42 = .ok (.goto 4, 3) := by decide +kernel
theorem dX9_kindOfBird_45 : decode cX9_kindOfBird 45 = .ok (.iload_n 2, 1) := by decide +kernel
theorem dX9_kindOfBird_46 : decode cX9_kindOfBird 46 = .ok (.istore_n 2, 1) := by decide +kernel
theorem dX9_kindOfBird_47 : decode cX9_kindOfBird 47 = .ok (.aload_n 0, 1) := by decide +kernel
theorem dX9_kindOfBird_48 : decode cX9_kindOfBird 48 = .ok (.getfield 57, 3) := by decide +kernel
theorem dX9_kindOfBird_51 : decode cX9_kindOfBird 51 = .ok (.iload_n 3, 1) := by decide +kernel
theorem dX9_kindOfBird_52 : decode cX9_kindOfBird 52 = .ok (.iaload, 1) := by decide +kernel
theorem dX9_kindOfBird_53 : decode cX9_kindOfBird 53 = .ok (.istore_n 3, 1) := by decide +kernel
theorem dX9_kindOfBird_54 : decode cX9_kindOfBird 54 = .ok (.goto (-40), 3) := by decide +kernel
theorem dX9_kindOfBird_57 : decode cX9_kindOfBird 57 = .ok (.iload_n 2, 1) := by decide +kernel
theorem dX9_kindOfBird_58 : decode cX9_kindOfBird 58 = .ok (.ireturn, 1) := by decide +kernel
theorem dX9_just_0 : decode cX9_just 0 = .ok (.iconst 0, 1) := by decide +kernel
theorem dX9_just_1 : decode cX9_just 1 = .ok (.istore_n 3, 1) := by decide +kernel
theorem dX9_just_2 : decode cX9_just 2 = .ok (.iconst 0, 1) := by decide +kernel
theorem dX9_just_3 : decode cX9_just 3 = .ok (.istore 4, 2) := by decide +kernel
theorem dX9_just_5 : decode cX9_just 5 = .ok (.iload 4, 2) := by decide +kernel
theorem dX9_just_7 : decode cX9_just 7 = .ok (.aload_n 0, 1) := by decide +kernel
theorem dX9_just_8 : decode cX9_just 8 = .ok (.getfield 103, 3) := by decide +kernel
theorem dX9_just_11 : decode cX9_just 11 = .ok (.if_icmp .ge 37, 3) := by decide +kernel
theorem dX9_just_14 : decode cX9_just 14 = .ok (.iload_n 3, 1) := by decide +kernel
theorem dX9_just_15 : decode cX9_just 15 = .ok (.aload_n 0, 1) := by decide +kernel
theorem dX9_just_16 : decode cX9_just 16 = .ok (.iload 4, 2) := by decide +kernel
theorem dX9_just_18 : decode cX9_just 18 = .ok (.iload_n 1, 1) := by decide +kernel
theorem dX9_just_19 : decode cX9_just 19 = .ok (.invokevirtual 161, 3) := by decide +kernel
theorem dX9_just_22 : decode cX9_just 22 = .ok (.ifCond .eq 17, 3) := by decide +kernel
theorem dX9_just_25 : decode cX9_just 25 = .ok (.aload_n 0, 1) := by decide +kernel
theorem dX9_just_26 : decode cX9_just 26 = .ok (.iload 4, 2) := by decide +kernel
theorem dX9_just_28 : decode cX9_just 28 = .ok (.invokevirtual 164, 3) := by decide +kernel
theorem dX9_just_31 : decode cX9_just 31 = .ok (.iload_n 2, 1) := by decide +kernel
theorem dX9_just_32 : decode cX9_just 32 = .ok (.if_icmp .ne 7, 3) := by decide +kernel
theorem dX9_just_35 : decode cX9_just 35 = .ok (.iconst 1, 1) := by decide +kernel
theorem dX9_just_36 : decode cX9_just 36 = .ok (.goto 4, 3) := by decide +kernel
theorem dX9_just_39 : decode cX9_just 39 = .ok (.iconst 0, 1) := by decide +kernel
theorem dX9_just_40 : decode cX9_just 40 = .ok (.iadd, 1) := by decide +kernel
theorem dX9_just_41 : decode cX9_just 41 = .ok (.istore_n 3, 1) := by decide +kernel
theorem dX9_just_42 : decode cX9_just 42 = .ok (.iinc 4 1, 3) := by decide +kernel
theorem dX9_just_45 : decode cX9_just 45 = .ok (.goto (-40), 3) := by decide +kernel
theorem dX9_just_48 : decode cX9_just 48 = .ok (.iload_n 3, 1) := by decide +kernel
theorem dX9_just_49 : decode cX9_just 49 = .ok (.ireturn, 1) := by decide +kernel
theorem dX9_numbers_0 : decode cX9_numbers 0 = .ok (.iconst 0, 1) := by decide +kernel
theorem dX9_numbers_1 : decode cX9_numbers 1 = .ok (.istore_n 2, 1) := by decide +kernel
theorem dX9_numbers_2 : decode cX9_numbers 2 = .ok (.iload_n 2, 1) := by decide +kernel
theorem dX9_numbers_3 : decode cX9_numbers 3 = .ok (.aload_n 0, 1) := by decide +kernel
theorem dX9_numbers_4 : decode cX9_numbers 4 = .ok (.getfield 17, 3) := by decide +kernel
theorem dX9_numbers_7 : decode cX9_numbers 7 = .ok (.if_icmp .ge 45, 3) := by decide +kernel
theorem dX9_numbers_10 : decode cX9_numbers 10 = .ok (.aload_n 0, 1) := by decide +kernel
theorem dX9_numbers_11 : decode cX9_numbers 11 = .ok (.getfield 87, 3) := by decide +kernel
theorem dX9_numbers_14 : decode cX9_numbers 14 = .ok (.iload_n 2, 1) := by decide +kernel
theorem dX9_numbers_15 : decode cX9_numbers 15 = .ok (.aload_n 0, 1) := by decide +kernel
theorem dX9_numbers_16 : decode cX9_numbers 16 = .ok (.iload_n 1, 1) := by decide +kernel
theorem dX9_numbers_17 : decode cX9_numbers 17 = .ok (.iload_n 2, 1) := by decide +kernel
theorem dX9_numbers_18 : decode cX9_numbers 18 = .ok (.invokevirtual 167, 3) := by decide +kernel
theorem dX9_numbers_21 : decode cX9_numbers 21 = .ok (.iastore, 1) := by decide +kernel
theorem dX9_numbers_22 : decode cX9_numbers 22 = .ok (.aload_n 0, 1) := by decide +kernel
theorem dX9_numbers_23 : decode cX9_numbers 23 = .ok (.getfield 84, 3) := by decide +kernel
theorem dX9_numbers_26 : decode cX9_numbers 26 = .ok (.iload_n 2, 1) := by decide +kernel
theorem dX9_numbers_27 : decode cX9_numbers 27 = .ok (.aload_n 0, 1) := by decide +kernel
theorem dX9_numbers_28 : decode cX9_numbers 28 = .ok (.iload_n 2, 1) := by decide +kernel
theorem dX9_numbers_29 : decode cX9_numbers 29 = .ok (.invokevirtual 171, 3) := by decide +kernel
theorem dX9_numbers_32 : decode cX9_numbers 32 = .ok (.ifCond .eq 12, 3) := by decide +kernel
theorem dX9_numbers_35 : decode cX9_numbers 35 = .ok (.aload_n 0, 1) := by decide +kernel
theorem dX9_numbers_36 : decode cX9_numbers 36 = .ok (.getfield 87, 3) := by decide +kernel
theorem dX9_numbers_39 : decode cX9_numbers 39 = .ok (.iload_n 2, 1) := by decide +kernel
theorem dX9_numbers_40 : decode cX9_numbers 40 = .ok (.iaload, 1) := by decide +kernel
theorem dX9_numbers_41 : decode cX9_numbers 41 = .ok (.goto 4, 3) := by decide +kernel
theorem dX9_numbers_44 : decode cX9_numbers 44 = .ok (.iconst 0, 1) := by decide +kernel
theorem dX9_numbers_45 : decode cX9_numbers 45 = .ok (.iastore, 1) := by decide +kernel
theorem dX9_numbers_46 : decode cX9_numbers 46 = .ok (.iinc 2 1, 3) := by decide +kernel
theorem dX9_numbers_49 : decode cX9_numbers 49 = .ok (.goto (-47), 3) := by decide +kernel
theorem dX9_numbers_52 : decode cX9_numbers 52 = .ok (.iconst 0, 1) := by decide +kernel
theorem dX9_numbers_53 : decode cX9_numbers 53 = .ok (.istore_n 2, 1) := by decide +kernel
theorem dX9_numbers_54 : decode cX9_numbers 54 = .ok (.iload_n 2, 1) := by decide +kernel
theorem dX9_numbers_55 : decode cX9_numbers 55 = .ok (.aload_n 0, 1) := by decide +kernel
theorem dX9_numbers_56 : decode cX9_numbers 56 = .ok (.getfield 17, 3) := by decide +kernel
theorem dX9_numbers_59 : decode cX9_numbers 59 = .ok (.if_icmp .ge 31, 3) := by decide +kernel
theorem dX9_numbers_62 : decode cX9_numbers 62 = .ok (.aload_n 0, 1) := by decide +kernel
theorem dX9_numbers_63 : decode cX9_numbers 63 = .ok (.iload_n 2, 1) := by decide +kernel
theorem dX9_numbers_64 : decode cX9_numbers 64 = .ok (.invokevirtual 171, 3) := by decide +kernel
theorem dX9_numbers_67 : decode cX9_numbers 67 = .ok (.ifCond .ne 17, 3) := by decide +kernel
theorem dX9_numbers_70 : decode cX9_numbers 70 = .ok (.aload_n 0, 1) := by decide +kernel
theorem dX9_numbers_71 : decode cX9_numbers 71 = .ok (.getfield 87, 3) := by decide +kernel
theorem dX9_numbers_74 : decode cX9_numbers 74 = .ok (.iload_n 2, 1) := by decide +kernel
theorem dX9_numbers_75 : decode cX9_numbers 75 = .ok (.iaload, 1) := by decide +kernel
theorem dX9_numbers_76 : decode cX9_numbers 76 = .ok (.ifCond .le 8, 3) := by decide +kernel
theorem dX9_numbers_79 : decode cX9_numbers 79 = .ok (.aload_n 0, 1) := by decide +kernel
theorem dX9_numbers_80 : decode cX9_numbers 80 = .ok (.iload_n 2, 1) := by decide +kernel
theorem dX9_numbers_81 : decode cX9_numbers 81 = .ok (.invokevirtual 174, 3) := by decide +kernel
theorem dX9_numbers_84 : decode cX9_numbers 84 = .ok (.iinc 2 1, 3) := by decide +kernel
theorem dX9_numbers_87 : decode cX9_numbers 87 = .ok (.goto (-33), 3) := by decide +kernel
theorem dX9_numbers_90 : decode cX9_numbers 90 = .ok (.return_, 1) := by decide +kernel
theorem dX9_isLeafOf_0 : decode cX9_isLeafOf 0 = .ok (.aload_n 0, 1) := by decide +kernel
theorem dX9_isLeafOf_1 : decode cX9_isLeafOf 1 = .ok (.iload_n 1, 1) := by decide +kernel
theorem dX9_isLeafOf_2 : decode cX9_isLeafOf 2 = .ok (.invokevirtual 171, 3) := by decide +kernel
theorem dX9_isLeafOf_5 : decode cX9_isLeafOf 5 = .ok (.ifCond .eq 16, 3) := by decide +kernel
theorem dX9_isLeafOf_8 : decode cX9_isLeafOf 8 = .ok (.aload_n 0, 1) := by decide +kernel
theorem dX9_isLeafOf_9 : decode cX9_isLeafOf 9 = .ok (.iload_n 1, 1) := by decide +kernel
theorem dX9_isLeafOf_10 : decode cX9_isLeafOf 10 = .ok (.iload_n 2, 1) := by decide +kernel
theorem dX9_isLeafOf_11 : decode cX9_isLeafOf 11 = .ok (.invokevirtual 121, 3) := by decide +kernel
theorem dX9_isLeafOf_14 : decode cX9_isLeafOf 14 = .ok (.ifCond .eq 7, 3) := by decide +kernel
theorem dX9_isLeafOf_17 : decode cX9_isLeafOf 17 = .ok (.iconst 1, 1) := by decide +kernel
theorem dX9_isLeafOf_18 : decode cX9_isLeafOf 18 = .ok (.goto 4, 3) := by decide +kernel
theorem dX9_isLeafOf_21 : decode cX9_isLeafOf 21 = .ok (.iconst 0, 1) := by decide +kernel
theorem dX9_isLeafOf_22 : decode cX9_isLeafOf 22 = .ok (.ireturn, 1) := by decide +kernel
theorem dX9_parts_0 : decode cX9_parts 0 = .ok (.iconst 0, 1) := by decide +kernel
theorem dX9_parts_1 : decode cX9_parts 1 = .ok (.istore_n 2, 1) := by decide +kernel
theorem dX9_parts_2 : decode cX9_parts 2 = .ok (.iconst 0, 1) := by decide +kernel
theorem dX9_parts_3 : decode cX9_parts 3 = .ok (.istore_n 3, 1) := by decide +kernel
theorem dX9_parts_4 : decode cX9_parts 4 = .ok (.iconst 0, 1) := by decide +kernel
theorem dX9_parts_5 : decode cX9_parts 5 = .ok (.istore 4, 2) := by decide +kernel
theorem dX9_parts_7 : decode cX9_parts 7 = .ok (.iload 4, 2) := by decide +kernel
theorem dX9_parts_9 : decode cX9_parts 9 = .ok (.aload_n 0, 1) := by decide +kernel
theorem dX9_parts_10 : decode cX9_parts 10 = .ok (.getfield 17, 3) := by decide +kernel
theorem dX9_parts_13 : decode cX9_parts 13 = .ok (.if_icmp .ge 51, 3) := by decide +kernel
theorem dX9_parts_16 : decode cX9_parts 16 = .ok (.iload_n 2, 1) := by decide +kernel
theorem dX9_parts_17 : decode cX9_parts 17 = .ok (.aload_n 0, 1) := by decide +kernel
theorem dX9_parts_18 : decode cX9_parts 18 = .ok (.iload 4, 2) := by decide +kernel
theorem dX9_parts_20 : decode cX9_parts 20 = .ok (.iload_n 1, 1) := by decide +kernel
theorem dX9_parts_21 : decode cX9_parts 21 = .ok (.invokevirtual 177, 3) := by decide +kernel
theorem dX9_parts_24 : decode cX9_parts 24 = .ok (.ifCond .eq 13, 3) := by decide +kernel
theorem dX9_parts_27 : decode cX9_parts 27 = .ok (.aload_n 0, 1) := by decide +kernel
theorem dX9_parts_28 : decode cX9_parts 28 = .ok (.getfield 87, 3) := by decide +kernel
theorem dX9_parts_31 : decode cX9_parts 31 = .ok (.iload 4, 2) := by decide +kernel
theorem dX9_parts_33 : decode cX9_parts 33 = .ok (.iaload, 1) := by decide +kernel
theorem dX9_parts_34 : decode cX9_parts 34 = .ok (.goto 4, 3) := by decide +kernel
theorem dX9_parts_37 : decode cX9_parts 37 = .ok (.iconst 0, 1) := by decide +kernel
theorem dX9_parts_38 : decode cX9_parts 38 = .ok (.iadd, 1) := by decide +kernel
theorem dX9_parts_39 : decode cX9_parts 39 = .ok (.istore_n 2, 1) := by decide +kernel
theorem dX9_parts_40 : decode cX9_parts 40 = .ok (.iload_n 3, 1) := by decide +kernel
theorem dX9_parts_41 : decode cX9_parts 41 = .ok (.aload_n 0, 1) := by decide +kernel
theorem dX9_parts_42 : decode cX9_parts 42 = .ok (.iload 4, 2) := by decide +kernel
theorem dX9_parts_44 : decode cX9_parts 44 = .ok (.iload_n 1, 1) := by decide +kernel
theorem dX9_parts_45 : decode cX9_parts 45 = .ok (.invokevirtual 177, 3) := by decide +kernel
theorem dX9_parts_48 : decode cX9_parts 48 = .ok (.ifCond .eq 7, 3) := by decide +kernel
theorem dX9_parts_51 : decode cX9_parts 51 = .ok (.iconst 1, 1) := by decide +kernel
theorem dX9_parts_52 : decode cX9_parts 52 = .ok (.goto 4, 3) := by decide +kernel
theorem dX9_parts_55 : decode cX9_parts 55 = .ok (.iconst 0, 1) := by decide +kernel
theorem dX9_parts_56 : decode cX9_parts 56 = .ok (.iadd, 1) := by decide +kernel
theorem dX9_parts_57 : decode cX9_parts 57 = .ok (.istore_n 3, 1) := by decide +kernel
theorem dX9_parts_58 : decode cX9_parts 58 = .ok (.iinc 4 1, 3) := by decide +kernel
theorem dX9_parts_61 : decode cX9_parts 61 = .ok (.goto (-54), 3) := by decide +kernel
theorem dX9_parts_64 : decode cX9_parts 64 = .ok (.aload_n 0, 1) := by decide +kernel
theorem dX9_parts_65 : decode cX9_parts 65 = .ok (.getfield 87, 3) := by decide +kernel
theorem dX9_parts_68 : decode cX9_parts 68 = .ok (.iload_n 1, 1) := by decide +kernel
theorem dX9_parts_69 : decode cX9_parts 69 = .ok (.iaload, 1) := by decide +kernel
theorem dX9_parts_70 : decode cX9_parts 70 = .ok (.istore 4, 2) := by decide +kernel
theorem dX9_parts_72 : decode cX9_parts 72 = .ok (.iload_n 2, 1) := by decide +kernel
theorem dX9_parts_73 : decode cX9_parts 73 = .ok (.ifCond .ne 7, 3) := by decide +kernel
theorem dX9_parts_76 : decode cX9_parts 76 = .ok (.iload_n 3, 1) := by decide +kernel
theorem dX9_parts_77 : decode cX9_parts 77 = .ok (.goto 4, 3) := by decide +kernel
theorem dX9_parts_80 : decode cX9_parts 80 = .ok (.iload_n 2, 1) := by decide +kernel
theorem dX9_parts_81 : decode cX9_parts 81 = .ok (.istore 5, 2) := by decide +kernel
theorem dX9_parts_83 : decode cX9_parts 83 = .ok (.iconst 0, 1) := by decide +kernel
theorem dX9_parts_84 : decode cX9_parts 84 = .ok (.istore 6, 2) := by decide +kernel
theorem dX9_parts_86 : decode cX9_parts 86 = .ok (.iload 6, 2) := by decide +kernel
theorem dX9_parts_88 : decode cX9_parts 88 = .ok (.aload_n 0, 1) := by decide +kernel
theorem dX9_parts_89 : decode cX9_parts 89 = .ok (.getfield 17, 3) := by decide +kernel
theorem dX9_parts_92 : decode cX9_parts 92 = .ok (.if_icmp .ge 88, 3) := by decide +kernel
theorem dX9_parts_95 : decode cX9_parts 95 = .ok (.aload_n 0, 1) := by decide +kernel
theorem dX9_parts_96 : decode cX9_parts 96 = .ok (.getfield 90, 3) := by decide +kernel
theorem dX9_parts_99 : decode cX9_parts 99 = .ok (.iload 6, 2) := by decide +kernel
theorem dX9_parts_101 : decode cX9_parts 101 = .ok (.iconst (-1), 1) := by decide +kernel
theorem dX9_parts_102 : decode cX9_parts 102 = .ok (.iastore, 1) := by decide +kernel
theorem dX9_parts_103 : decode cX9_parts 103 = .ok (.aload_n 0, 1) := by decide +kernel
theorem dX9_parts_104 : decode cX9_parts 104 = .ok (.iload 6, 2) := by decide +kernel
theorem dX9_parts_106 : decode cX9_parts 106 = .ok (.iload_n 1, 1) := by decide +kernel
theorem dX9_parts_107 : decode cX9_parts 107 = .ok (.invokevirtual 177, 3) := by decide +kernel
theorem dX9_parts_110 : decode cX9_parts 110 = .ok (.ifCond .eq 64, 3) := by decide +kernel
theorem dX9_parts_113 : decode cX9_parts 113 = .ok (.aload_n 0, 1) := by decide +kernel
theorem dX9_parts_114 : decode cX9_parts 114 = .ok (.getfield 87, 3) := by decide +kernel
theorem dX9_parts_117 : decode cX9_parts 117 = .ok (.iload_n 1, 1) := by decide +kernel
theorem dX9_parts_118 : decode cX9_parts 118 = .ok (.iaload, 1) := by decide +kernel
theorem dX9_parts_119 : decode cX9_parts 119 = .ok (.iload_n 2, 1) := by decide +kernel
theorem dX9_parts_120 : decode cX9_parts 120 = .ok (.ifCond .ne 7, 3) := by decide +kernel
theorem dX9_parts_123 : decode cX9_parts 123 = .ok (.iconst 1, 1) := by decide +kernel
theorem dX9_parts_124 : decode cX9_parts 124 = .ok (.goto 10, 3) := by decide +kernel
theorem dX9_parts_127 : decode cX9_parts 127 = .ok (.aload_n 0, 1) := by decide +kernel
theorem dX9_parts_128 : decode cX9_parts 128 = .ok (.getfield 87, 3) := by decide +kernel
theorem dX9_parts_131 : decode cX9_parts 131 = .ok (.iload 6, 2) := by decide +kernel
theorem dX9_parts_133 : decode cX9_parts 133 = .ok (.iaload, 1) := by decide +kernel
theorem dX9_parts_134 : decode cX9_parts 134 = .ok (.imul, 1) := by decide +kernel
theorem dX9_parts_135 : decode cX9_parts 135 = .ok (.istore 7, 2) := by decide +kernel
theorem dX9_parts_137 : decode cX9_parts 137 = .ok (.aload_n 0, 1) := by decide +kernel
theorem dX9_parts_138 : decode cX9_parts 138 = .ok (.getfield 84, 3) := by decide +kernel
theorem dX9_parts_141 : decode cX9_parts 141 = .ok (.iload 6, 2) := by decide +kernel
theorem dX9_parts_143 : decode cX9_parts 143 = .ok (.dup2, 1) := by decide +kernel
theorem dX9_parts_144 : decode cX9_parts 144 = .ok (.iaload, 1) := by decide +kernel
theorem dX9_parts_145 : decode cX9_parts 145 = .ok (.iload 7, 2) := by decide +kernel
theorem dX9_parts_147 : decode cX9_parts 147 = .ok (.iload 5, 2) := by decide +kernel
theorem dX9_parts_149 : decode cX9_parts 149 = .ok (.idiv, 1) := by decide +kernel
theorem dX9_parts_150 : decode cX9_parts 150 = .ok (.iadd, 1) := by decide +kernel
theorem dX9_parts_151 : decode cX9_parts 151 = .ok (.iastore, 1) := by decide +kernel
theorem dX9_parts_152 : decode cX9_parts 152 = .ok (.aload_n 0, 1) := by decide +kernel
theorem dX9_parts_153 : decode cX9_parts 153 = .ok (.getfield 90, 3) := by decide +kernel
theorem dX9_parts_156 : decode cX9_parts 156 = .ok (.iload 6, 2) := by decide +kernel
theorem dX9_parts_158 : decode cX9_parts 158 = .ok (.iload 7, 2) := by decide +kernel
theorem dX9_parts_160 : decode cX9_parts 160 = .ok (.iload 5, 2) := by decide +kernel
theorem dX9_parts_162 : decode cX9_parts 162 = .ok (.irem, 1) := by decide +kernel
theorem dX9_parts_163 : decode cX9_parts 163 = .ok (.iastore, 1) := by decide +kernel
theorem dX9_parts_164 : decode cX9_parts 164 = .ok (.iload 4, 2) := by decide +kernel
theorem dX9_parts_166 : decode cX9_parts 166 = .ok (.iload 7, 2) := by decide +kernel
theorem dX9_parts_168 : decode cX9_parts 168 = .ok (.iload 5, 2) := by decide +kernel
theorem dX9_parts_170 : decode cX9_parts 170 = .ok (.idiv, 1) := by decide +kernel
theorem dX9_parts_171 : decode cX9_parts 171 = .ok (.isub, 1) := by decide +kernel
theorem dX9_parts_172 : decode cX9_parts 172 = .ok (.istore 4, 2) := by decide +kernel
theorem dX9_parts_174 : decode cX9_parts 174 = .ok (.iinc 6 1, 3) := by decide +kernel
theorem dX9_parts_177 : decode cX9_parts 177 = .ok (.goto (-91), 3) := by decide +kernel
theorem dX9_parts_180 : decode cX9_parts 180 = .ok (.iload 4, 2) := by decide +kernel
theorem dX9_parts_182 : decode cX9_parts 182 = .ok (.ifCond .le 90, 3) := by decide +kernel
theorem dX9_parts_185 : decode cX9_parts 185 = .ok (.iconst (-1), 1) := by decide +kernel
theorem dX9_parts_186 : decode cX9_parts 186 = .ok (.istore 6, 2) := by decide +kernel
theorem dX9_parts_188 : decode cX9_parts 188 = .ok (.iconst 0, 1) := by decide +kernel
theorem dX9_parts_189 : decode cX9_parts 189 = .ok (.istore 7, 2) := by decide +kernel
theorem dX9_parts_191 : decode cX9_parts 191 = .ok (.iload 7, 2) := by decide +kernel
theorem dX9_parts_193 : decode cX9_parts 193 = .ok (.aload_n 0, 1) := by decide +kernel
theorem dX9_parts_194 : decode cX9_parts 194 = .ok (.getfield 17, 3) := by decide +kernel
theorem dX9_parts_197 : decode cX9_parts 197 = .ok (.if_icmp .ge 50, 3) := by decide +kernel
theorem dX9_parts_200 : decode cX9_parts 200 = .ok (.aload_n 0, 1) := by decide +kernel
theorem dX9_parts_201 : decode cX9_parts 201 = .ok (.getfield 90, 3) := by decide +kernel
theorem dX9_parts_204 : decode cX9_parts 204 = .ok (.iload 7, 2) := by decide +kernel
theorem dX9_parts_206 : decode cX9_parts 206 = .ok (.iaload, 1) := by decide +kernel
theorem dX9_parts_207 : decode cX9_parts 207 = .ok (.ifCond .lt 30, 3) := by decide +kernel
theorem dX9_parts_210 : decode cX9_parts 210 = .ok (.iload 6, 2) := by decide +kernel
theorem dX9_parts_212 : decode cX9_parts 212 = .ok (.ifCond .lt 20, 3) := by decide +kernel
theorem dX9_parts_215 : decode cX9_parts 215 = .ok (.aload_n 0, 1) := by decide +kernel
theorem dX9_parts_216 : decode cX9_parts 216 = .ok (.getfield 90, 3) := by decide +kernel
theorem dX9_parts_219 : decode cX9_parts 219 = .ok (.iload 7, 2) := by decide +kernel
theorem dX9_parts_221 : decode cX9_parts 221 = .ok (.iaload, 1) := by decide +kernel
theorem dX9_parts_222 : decode cX9_parts 222 = .ok (.aload_n 0, 1) := by decide +kernel
theorem dX9_parts_223 : decode cX9_parts 223 = .ok (.getfield 90, 3) := by decide +kernel
theorem dX9_parts_226 : decode cX9_parts 226 = .ok (.iload 6, 2) := by decide +kernel
theorem dX9_parts_228 : decode cX9_parts 228 = .ok (.iaload, 1) := by decide +kernel
theorem dX9_parts_229 : decode cX9_parts 229 = .ok (.if_icmp .le 8, 3) := by decide +kernel
theorem dX9_parts_232 : decode cX9_parts 232 = .ok (.iload 7, 2) := by decide +kernel
theorem dX9_parts_234 : decode cX9_parts 234 = .ok (.goto 5, 3) := by decide +kernel
theorem dX9_parts_237 : decode cX9_parts 237 = .ok (.iload 6, 2) := by decide +kernel
theorem dX9_parts_239 : decode cX9_parts 239 = .ok (.istore 6, 2) := by decide +kernel
theorem dX9_parts_241 : decode cX9_parts 241 = .ok (.iinc 7 1, 3) := by decide +kernel
theorem dX9_parts_244 : decode cX9_parts 244 = .ok (.goto (-53), 3) := by decide +kernel
theorem dX9_parts_247 : decode cX9_parts 247 = .ok (.aload_n 0, 1) := by decide +kernel
theorem dX9_parts_248 : decode cX9_parts 248 = .ok (.getfield 84, 3) := by decide +kernel
theorem dX9_parts_251 : decode cX9_parts 251 = .ok (.iload 6, 2) := by decide +kernel
theorem dX9_parts_253 : decode cX9_parts 253 = .ok (.dup2, 1) := by decide +kernel
theorem dX9_parts_254 : decode cX9_parts 254 = .ok (.iaload, 1) := by decide +kernel
theorem dX9_parts_255 : decode cX9_parts 255 = .ok (.iconst 1, 1) := by decide +kernel
theorem dX9_parts_256 : decode cX9_parts 256 = .ok (.iadd, 1) := by decide +kernel
theorem dX9_parts_257 : decode cX9_parts 257 = .ok (.iastore, 1) := by decide +kernel
theorem dX9_parts_258 : decode cX9_parts 258 = .ok (.aload_n 0, 1) := by decide +kernel
theorem dX9_parts_259 : decode cX9_parts 259 = .ok (.getfield 90, 3) := by decide +kernel
theorem dX9_parts_262 : decode cX9_parts 262 = .ok (.iload 6, 2) := by decide +kernel
theorem dX9_parts_264 : decode cX9_parts 264 = .ok (.iconst (-1), 1) := by decide +kernel
theorem dX9_parts_265 : decode cX9_parts 265 = .ok (.iastore, 1) := by decide +kernel
theorem dX9_parts_266 : decode cX9_parts 266 = .ok (.iinc 4 (-1), 3) := by decide +kernel
theorem dX9_parts_269 : decode cX9_parts 269 = .ok (.goto (-89), 3) := by decide +kernel
theorem dX9_parts_272 : decode cX9_parts 272 = .ok (.return_, 1) := by decide +kernel
theorem dX9_birds_0 : decode cX9_birds 0 = .ok (.aload_n 0, 1) := by decide +kernel
theorem dX9_birds_1 : decode cX9_birds 1 = .ok (.iload_n 1, 1) := by decide +kernel
theorem dX9_birds_2 : decode cX9_birds 2 = .ok (.ifCond .lt 30, 3) := by decide +kernel
theorem dX9_birds_5 : decode cX9_birds 5 = .ok (.iload_n 1, 1) := by decide +kernel
theorem dX9_birds_6 : decode cX9_birds 6 = .ok (.bipush 6, 2) := by decide +kernel
theorem dX9_birds_8 : decode cX9_birds 8 = .ok (.if_icmp .ge 24, 3) := by decide +kernel
theorem dX9_birds_11 : decode cX9_birds 11 = .ok (.aload_n 0, 1) := by decide +kernel
theorem dX9_birds_12 : decode cX9_birds 12 = .ok (.iload_n 2, 1) := by decide +kernel
theorem dX9_birds_13 : decode cX9_birds 13 = .ok (.invokevirtual 106, 3) := by decide +kernel
theorem dX9_birds_16 : decode cX9_birds 16 = .ok (.ifCond .eq 16, 3) := by decide +kernel
theorem dX9_birds_19 : decode cX9_birds 19 = .ok (.iload_n 3, 1) := by decide +kernel
theorem dX9_birds_20 : decode cX9_birds 20 = .ok (.ifCond .lt 12, 3) := by decide +kernel
theorem dX9_birds_23 : decode cX9_birds 23 = .ok (.iload_n 3, 1) := by decide +kernel
theorem dX9_birds_24 : decode cX9_birds 24 = .ok (.iconst 2, 1) := by decide +kernel
theorem dX9_birds_25 : decode cX9_birds 25 = .ok (.if_icmp .gt 7, 3) := by decide +kernel
theorem dX9_birds_28 : decode cX9_birds 28 = .ok (.iconst 0, 1) := by decide +kernel
theorem dX9_birds_29 : decode cX9_birds 29 = .ok (.goto 4, 3) := by decide +kernel
theorem dX9_birds_32 : decode cX9_birds 32 = .ok (.iconst 1, 1) := by decide +kernel
theorem dX9_birds_33 : decode cX9_birds 33 = .ok (.putfield 1, 3) := by decide +kernel
theorem dX9_birds_36 : decode cX9_birds 36 = .ok (.aload_n 0, 1) := by decide +kernel
theorem dX9_birds_37 : decode cX9_birds 37 = .ok (.getfield 1, 3) := by decide +kernel
theorem dX9_birds_40 : decode cX9_birds 40 = .ok (.ifCond .le 5, 3) := by decide +kernel
theorem dX9_birds_43 : decode cX9_birds 43 = .ok (.iconst 0, 1) := by decide +kernel
theorem dX9_birds_44 : decode cX9_birds 44 = .ok (.ireturn, 1) := by decide +kernel
theorem dX9_birds_45 : decode cX9_birds 45 = .ok (.aload_n 0, 1) := by decide +kernel
theorem dX9_birds_46 : decode cX9_birds 46 = .ok (.iload_n 1, 1) := by decide +kernel
theorem dX9_birds_47 : decode cX9_birds 47 = .ok (.invokevirtual 154, 3) := by decide +kernel
theorem dX9_birds_50 : decode cX9_birds 50 = .ok (.iload_n 3, 1) := by decide +kernel
theorem dX9_birds_51 : decode cX9_birds 51 = .ok (.ifCond .ne 10, 3) := by decide +kernel
theorem dX9_birds_54 : decode cX9_birds 54 = .ok (.aload_n 0, 1) := by decide +kernel
theorem dX9_birds_55 : decode cX9_birds 55 = .ok (.iload_n 1, 1) := by decide +kernel
theorem dX9_birds_56 : decode cX9_birds 56 = .ok (.iload_n 2, 1) := by decide +kernel
theorem dX9_birds_57 : decode cX9_birds 57 = .ok (.invokevirtual 167, 3) := by decide +kernel
theorem dX9_birds_60 : decode cX9_birds 60 = .ok (.ireturn, 1) := by decide +kernel
theorem dX9_birds_61 : decode cX9_birds 61 = .ok (.aload_n 0, 1) := by decide +kernel
theorem dX9_birds_62 : decode cX9_birds 62 = .ok (.iload_n 1, 1) := by decide +kernel
theorem dX9_birds_63 : decode cX9_birds 63 = .ok (.invokevirtual 180, 3) := by decide +kernel
theorem dX9_birds_66 : decode cX9_birds 66 = .ok (.iconst 0, 1) := by decide +kernel
theorem dX9_birds_67 : decode cX9_birds 67 = .ok (.istore 4, 2) := by decide +kernel
theorem dX9_birds_69 : decode cX9_birds 69 = .ok (.iconst 0, 1) := by decide +kernel
theorem dX9_birds_70 : decode cX9_birds 70 = .ok (.istore 5, 2) := by decide +kernel
theorem dX9_birds_72 : decode cX9_birds 72 = .ok (.iload 5, 2) := by decide +kernel
theorem dX9_birds_74 : decode cX9_birds 74 = .ok (.aload_n 0, 1) := by decide +kernel
theorem dX9_birds_75 : decode cX9_birds 75 = .ok (.getfield 17, 3) := by decide +kernel
theorem dX9_birds_78 : decode cX9_birds 78 = .ok (.if_icmp .ge 50, 3) := by decide +kernel
theorem dX9_birds_81 : decode cX9_birds 81 = .ok (.iload 4, 2) := by decide +kernel
theorem dX9_birds_83 : decode cX9_birds 83 = .ok (.aload_n 0, 1) := by decide +kernel
theorem dX9_birds_84 : decode cX9_birds 84 = .ok (.iload 5, 2) := by decide +kernel
theorem dX9_birds_86 : decode cX9_birds 86 = .ok (.iload_n 2, 1) := by decide +kernel
theorem dX9_birds_87 : decode cX9_birds 87 = .ok (.invokevirtual 121, 3) := by decide +kernel
theorem dX9_birds_90 : decode cX9_birds 90 = .ok (.ifCond .eq 28, 3) := by decide +kernel
theorem dX9_birds_93 : decode cX9_birds 93 = .ok (.iload_n 3, 1) := by decide +kernel
theorem dX9_birds_94 : decode cX9_birds 94 = .ok (.iconst 1, 1) := by decide +kernel
theorem dX9_birds_95 : decode cX9_birds 95 = .ok (.if_icmp .ne 13, 3) := by decide +kernel
theorem dX9_birds_98 : decode cX9_birds 98 = .ok (.aload_n 0, 1) := by decide +kernel
theorem dX9_birds_99 : decode cX9_birds 99 = .ok (.getfield 87, 3) := by decide +kernel
theorem dX9_birds_102 : decode cX9_birds 102 = .ok (.iload 5, 2) := by decide +kernel
theorem dX9_birds_104 : decode cX9_birds 104 = .ok (.iaload, 1) := by decide +kernel
theorem dX9_birds_105 : decode cX9_birds 105 = .ok (.goto 14, 3) := by decide +kernel
theorem dX9_birds_108 : decode cX9_birds 108 = .ok (.aload_n 0, 1) := by decide +kernel
theorem dX9_birds_109 : decode cX9_birds 109 = .ok (.getfield 84, 3) := by decide +kernel
theorem dX9_birds_112 : decode cX9_birds 112 = .ok (.iload 5, 2) := by decide +kernel
theorem dX9_birds_114 : decode cX9_birds 114 = .ok (.iaload, 1) := by decide +kernel
theorem dX9_birds_115 : decode cX9_birds 115 = .ok (.goto 4, 3) := by decide +kernel
theorem dX9_birds_118 : decode cX9_birds 118 = .ok (.iconst 0, 1) := by decide +kernel
theorem dX9_birds_119 : decode cX9_birds 119 = .ok (.iadd, 1) := by decide +kernel
theorem dX9_birds_120 : decode cX9_birds 120 = .ok (.istore 4, 2) := by decide +kernel
theorem dX9_birds_122 : decode cX9_birds 122 = .ok (.iinc 5 1, 3) := by decide +kernel
theorem dX9_birds_125 : decode cX9_birds 125 = .ok (.goto (-53), 3) := by decide +kernel
theorem dX9_birds_128 : decode cX9_birds 128 = .ok (.iload 4, 2) := by decide +kernel
theorem dX9_birds_130 : decode cX9_birds 130 = .ok (.ireturn, 1) := by decide +kernel
theorem dX9_birdsOf_0 : decode cX9_birdsOf 0 = .ok (.iconst 0, 1) := by decide +kernel
theorem dX9_birdsOf_1 : decode cX9_birdsOf 1 = .ok (.istore_n 3, 1) := by decide +kernel
theorem dX9_birdsOf_2 : decode cX9_birdsOf 2 = .ok (.iconst 0, 1) := by decide +kernel
theorem dX9_birdsOf_3 : decode cX9_birdsOf 3 = .ok (.istore 4, 2) := by decide +kernel
theorem dX9_birdsOf_5 : decode cX9_birdsOf 5 = .ok (.iload 4, 2) := by decide +kernel
theorem dX9_birdsOf_7 : decode cX9_birdsOf 7 = .ok (.aload_n 0, 1) := by decide +kernel
theorem dX9_birdsOf_8 : decode cX9_birdsOf 8 = .ok (.getfield 103, 3) := by decide +kernel
theorem dX9_birdsOf_11 : decode cX9_birdsOf 11 = .ok (.if_icmp .ge 52, 3) := by decide +kernel
theorem dX9_birdsOf_14 : decode cX9_birdsOf 14 = .ok (.iload_n 3, 1) := by decide +kernel
theorem dX9_birdsOf_15 : decode cX9_birdsOf 15 = .ok (.aload_n 0, 1) := by decide +kernel
theorem dX9_birdsOf_16 : decode cX9_birdsOf 16 = .ok (.iload 4, 2) := by decide +kernel
theorem dX9_birdsOf_18 : decode cX9_birdsOf 18 = .ok (.iload_n 1, 1) := by decide +kernel
theorem dX9_birdsOf_19 : decode cX9_birdsOf 19 = .ok (.invokevirtual 161, 3) := by decide +kernel
theorem dX9_birdsOf_22 : decode cX9_birdsOf 22 = .ok (.ifCond .eq 32, 3) := by decide +kernel
theorem dX9_birdsOf_25 : decode cX9_birdsOf 25 = .ok (.iload_n 2, 1) := by decide +kernel
theorem dX9_birdsOf_26 : decode cX9_birdsOf 26 = .ok (.ifCond .lt 24, 3) := by decide +kernel
theorem dX9_birdsOf_29 : decode cX9_birdsOf 29 = .ok (.aload_n 0, 1) := by decide +kernel
theorem dX9_birdsOf_30 : decode cX9_birdsOf 30 = .ok (.getfield 54, 3) := by decide +kernel
theorem dX9_birdsOf_33 : decode cX9_birdsOf 33 = .ok (.bipush 30, 2) := by decide +kernel
theorem dX9_birdsOf_35 : decode cX9_birdsOf 35 = .ok (.iload_n 1, 1) := by decide +kernel
theorem dX9_birdsOf_36 : decode cX9_birdsOf 36 = .ok (.imul, 1) := by decide +kernel
theorem dX9_birdsOf_37 : decode cX9_birdsOf 37 = .ok (.aload_n 0, 1) := by decide +kernel
theorem dX9_birdsOf_38 : decode cX9_birdsOf 38 = .ok (.getfield 35, 3) := by decide +kernel
theorem dX9_birdsOf_41 : decode cX9_birdsOf 41 = .ok (.iload 4, 2) := by decide +kernel
theorem dX9_birdsOf_43 : decode cX9_birdsOf 43 = .ok (.iaload, 1) := by decide +kernel
theorem dX9_birdsOf_44 : decode cX9_birdsOf 44 = .ok (.iadd, 1) := by decide +kernel
theorem dX9_birdsOf_45 : decode cX9_birdsOf 45 = .ok (.iaload, 1) := by decide +kernel
theorem dX9_birdsOf_46 : decode cX9_birdsOf 46 = .ok (.iload_n 2, 1) := by decide +kernel
theorem dX9_birdsOf_47 : decode cX9_birdsOf 47 = .ok (.if_icmp .ne 7, 3) := by decide +kernel
theorem dX9_birdsOf_50 : decode cX9_birdsOf 50 = .ok (.iconst 1, 1) := by decide +kernel
theorem dX9_birdsOf_51 : decode cX9_birdsOf 51 = .ok (.goto 4, 3) := by decide +kernel
theorem dX9_birdsOf_54 : decode cX9_birdsOf 54 = .ok (.iconst 0, 1) := by decide +kernel
theorem dX9_birdsOf_55 : decode cX9_birdsOf 55 = .ok (.iadd, 1) := by decide +kernel
theorem dX9_birdsOf_56 : decode cX9_birdsOf 56 = .ok (.istore_n 3, 1) := by decide +kernel
theorem dX9_birdsOf_57 : decode cX9_birdsOf 57 = .ok (.iinc 4 1, 3) := by decide +kernel
theorem dX9_birdsOf_60 : decode cX9_birdsOf 60 = .ok (.goto (-55), 3) := by decide +kernel
theorem dX9_birdsOf_63 : decode cX9_birdsOf 63 = .ok (.iload_n 3, 1) := by decide +kernel
theorem dX9_birdsOf_64 : decode cX9_birdsOf 64 = .ok (.ireturn, 1) := by decide +kernel
theorem dX9_hoursOf_0 : decode cX9_hoursOf 0 = .ok (.iconst 0, 1) := by decide +kernel
theorem dX9_hoursOf_1 : decode cX9_hoursOf 1 = .ok (.istore 4, 2) := by decide +kernel
theorem dX9_hoursOf_3 : decode cX9_hoursOf 3 = .ok (.iconst 0, 1) := by decide +kernel
theorem dX9_hoursOf_4 : decode cX9_hoursOf 4 = .ok (.istore 5, 2) := by decide +kernel
theorem dX9_hoursOf_6 : decode cX9_hoursOf 6 = .ok (.iload 5, 2) := by decide +kernel
theorem dX9_hoursOf_8 : decode cX9_hoursOf 8 = .ok (.sipush 300, 3) := by decide +kernel
theorem dX9_hoursOf_11 : decode cX9_hoursOf 11 = .ok (.if_icmp .ge 59, 3) := by decide +kernel
theorem dX9_hoursOf_14 : decode cX9_hoursOf 14 = .ok (.iload 4, 2) := by decide +kernel
theorem dX9_hoursOf_16 : decode cX9_hoursOf 16 = .ok (.aload_n 0, 1) := by decide +kernel
theorem dX9_hoursOf_17 : decode cX9_hoursOf 17 = .ok (.getfield 50, 3) := by decide +kernel
theorem dX9_hoursOf_20 : decode cX9_hoursOf 20 = .ok (.sipush 300, 3) := by decide +kernel
theorem dX9_hoursOf_23 : decode cX9_hoursOf 23 = .ok (.iload_n 1, 1) := by decide +kernel
theorem dX9_hoursOf_24 : decode cX9_hoursOf 24 = .ok (.imul, 1) := by decide +kernel
theorem dX9_hoursOf_25 : decode cX9_hoursOf 25 = .ok (.iload 5, 2) := by decide +kernel
theorem dX9_hoursOf_27 : decode cX9_hoursOf 27 = .ok (.iadd, 1) := by decide +kernel
theorem dX9_hoursOf_28 : decode cX9_hoursOf 28 = .ok (.baload, 1) := by decide +kernel
theorem dX9_hoursOf_29 : decode cX9_hoursOf 29 = .ok (.iload_n 3, 1) := by decide +kernel
theorem dX9_hoursOf_30 : decode cX9_hoursOf 30 = .ok (.if_icmp .ne 30, 3) := by decide +kernel
theorem dX9_hoursOf_33 : decode cX9_hoursOf 33 = .ok (.iload_n 2, 1) := by decide +kernel
theorem dX9_hoursOf_34 : decode cX9_hoursOf 34 = .ok (.ifCond .lt 22, 3) := by decide +kernel
theorem dX9_hoursOf_37 : decode cX9_hoursOf 37 = .ok (.aload_n 0, 1) := by decide +kernel
theorem dX9_hoursOf_38 : decode cX9_hoursOf 38 = .ok (.getfield 54, 3) := by decide +kernel
theorem dX9_hoursOf_41 : decode cX9_hoursOf 41 = .ok (.bipush 30, 2) := by decide +kernel
theorem dX9_hoursOf_43 : decode cX9_hoursOf 43 = .ok (.iload_n 1, 1) := by decide +kernel
theorem dX9_hoursOf_44 : decode cX9_hoursOf 44 = .ok (.imul, 1) := by decide +kernel
theorem dX9_hoursOf_45 : decode cX9_hoursOf 45 = .ok (.iload 5, 2) := by decide +kernel
theorem dX9_hoursOf_47 : decode cX9_hoursOf 47 = .ok (.bipush 10, 2) := by decide +kernel
theorem dX9_hoursOf_49 : decode cX9_hoursOf 49 = .ok (.idiv, 1) := by decide +kernel
theorem dX9_hoursOf_50 : decode cX9_hoursOf 50 = .ok (.iadd, 1) := by decide +kernel
theorem dX9_hoursOf_51 : decode cX9_hoursOf 51 = .ok (.iaload, 1) := by decide +kernel
theorem dX9_hoursOf_52 : decode cX9_hoursOf 52 = .ok (.iload_n 2, 1) := by decide +kernel
theorem dX9_hoursOf_53 : decode cX9_hoursOf 53 = .ok (.if_icmp .ne 7, 3) := by decide +kernel
theorem dX9_hoursOf_56 : decode cX9_hoursOf 56 = .ok (.iconst 1, 1) := by decide +kernel
theorem dX9_hoursOf_57 : decode cX9_hoursOf 57 = .ok (.goto 4, 3) := by decide +kernel
theorem dX9_hoursOf_60 : decode cX9_hoursOf 60 = .ok (.iconst 0, 1) := by decide +kernel
theorem dX9_hoursOf_61 : decode cX9_hoursOf 61 = .ok (.iadd, 1) := by decide +kernel
theorem dX9_hoursOf_62 : decode cX9_hoursOf 62 = .ok (.istore 4, 2) := by decide +kernel
theorem dX9_hoursOf_64 : decode cX9_hoursOf 64 = .ok (.iinc 5 1, 3) := by decide +kernel
theorem dX9_hoursOf_67 : decode cX9_hoursOf 67 = .ok (.goto (-61), 3) := by decide +kernel
theorem dX9_hoursOf_70 : decode cX9_hoursOf 70 = .ok (.iload 4, 2) := by decide +kernel
theorem dX9_hoursOf_72 : decode cX9_hoursOf 72 = .ok (.ireturn, 1) := by decide +kernel
theorem dX9_missed_0 : decode cX9_missed 0 = .ok (.aload_n 0, 1) := by decide +kernel
theorem dX9_missed_1 : decode cX9_missed 1 = .ok (.iload_n 1, 1) := by decide +kernel
theorem dX9_missed_2 : decode cX9_missed 2 = .ok (.iconst (-1), 1) := by decide +kernel
theorem dX9_missed_3 : decode cX9_missed 3 = .ok (.invokevirtual 183, 3) := by decide +kernel
theorem dX9_missed_6 : decode cX9_missed 6 = .ok (.i2l, 1) := by decide +kernel
theorem dX9_missed_7 : decode cX9_missed 7 = .ok (.lstore_n 2, 1) := by decide +kernel
theorem dX9_missed_8 : decode cX9_missed 8 = .ok (.aload_n 0, 1) := by decide +kernel
theorem dX9_missed_9 : decode cX9_missed 9 = .ok (.iload_n 1, 1) := by decide +kernel
theorem dX9_missed_10 : decode cX9_missed 10 = .ok (.iconst (-1), 1) := by decide +kernel
theorem dX9_missed_11 : decode cX9_missed 11 = .ok (.iconst 0, 1) := by decide +kernel
theorem dX9_missed_12 : decode cX9_missed 12 = .ok (.invokevirtual 186, 3) := by decide +kernel
theorem dX9_missed_15 : decode cX9_missed 15 = .ok (.i2l, 1) := by decide +kernel
theorem dX9_missed_16 : decode cX9_missed 16 = .ok (.lstore 4, 2) := by decide +kernel
theorem dX9_missed_18 : decode cX9_missed 18 = .ok (.iconst 0, 1) := by decide +kernel
theorem dX9_missed_19 : decode cX9_missed 19 = .ok (.istore 6, 2) := by decide +kernel
theorem dX9_missed_21 : decode cX9_missed 21 = .ok (.iload 6, 2) := by decide +kernel
theorem dX9_missed_23 : decode cX9_missed 23 = .ok (.iconst 4, 1) := by decide +kernel
theorem dX9_missed_24 : decode cX9_missed 24 = .ok (.if_icmp .ge 99, 3) := by decide +kernel
theorem dX9_missed_27 : decode cX9_missed 27 = .ok (.aload_n 0, 1) := by decide +kernel
theorem dX9_missed_28 : decode cX9_missed 28 = .ok (.iload_n 1, 1) := by decide +kernel
theorem dX9_missed_29 : decode cX9_missed 29 = .ok (.iload 6, 2) := by decide +kernel
theorem dX9_missed_31 : decode cX9_missed 31 = .ok (.iconst 0, 1) := by decide +kernel
theorem dX9_missed_32 : decode cX9_missed 32 = .ok (.invokevirtual 186, 3) := by decide +kernel
theorem dX9_missed_35 : decode cX9_missed 35 = .ok (.i2l, 1) := by decide +kernel
theorem dX9_missed_36 : decode cX9_missed 36 = .ok (.lstore 7, 2) := by decide +kernel
theorem dX9_missed_38 : decode cX9_missed 38 = .ok (.aload_n 0, 1) := by decide +kernel
theorem dX9_missed_39 : decode cX9_missed 39 = .ok (.getfield 93, 3) := by decide +kernel
theorem dX9_missed_42 : decode cX9_missed 42 = .ok (.iload 6, 2) := by decide +kernel
theorem dX9_missed_44 : decode cX9_missed 44 = .ok (.aload_n 0, 1) := by decide +kernel
theorem dX9_missed_45 : decode cX9_missed 45 = .ok (.iload_n 1, 1) := by decide +kernel
theorem dX9_missed_46 : decode cX9_missed 46 = .ok (.iload 6, 2) := by decide +kernel
theorem dX9_missed_48 : decode cX9_missed 48 = .ok (.iconst 1, 1) := by decide +kernel
theorem dX9_missed_49 : decode cX9_missed 49 = .ok (.invokevirtual 186, 3) := by decide +kernel
theorem dX9_missed_52 : decode cX9_missed 52 = .ok (.i2l, 1) := by decide +kernel
theorem dX9_missed_53 : decode cX9_missed 53 = .ok (.lload 7, 2) := by decide +kernel
theorem dX9_missed_55 : decode cX9_missed 55 = .ok (.lconst 0, 1) := by decide +kernel
theorem dX9_missed_56 : decode cX9_missed 56 = .ok (.lcmp, 1) := by decide +kernel
theorem dX9_missed_57 : decode cX9_missed 57 = .ok (.ifCond .le 14, 3) := by decide +kernel
theorem dX9_missed_60 : decode cX9_missed 60 = .ok (.aload_n 0, 1) := by decide +kernel
theorem dX9_missed_61 : decode cX9_missed 61 = .ok (.iload_n 1, 1) := by decide +kernel
theorem dX9_missed_62 : decode cX9_missed 62 = .ok (.iload 6, 2) := by decide +kernel
theorem dX9_missed_64 : decode cX9_missed 64 = .ok (.invokevirtual 183, 3) := by decide +kernel
theorem dX9_missed_67 : decode cX9_missed 67 = .ok (.i2l, 1) := by decide +kernel
theorem dX9_missed_68 : decode cX9_missed 68 = .ok (.goto 15, 3) := by decide +kernel
theorem dX9_missed_71 : decode cX9_missed 71 = .ok (.lload 4, 2) := by decide +kernel
theorem dX9_missed_73 : decode cX9_missed 73 = .ok (.lconst 0, 1) := by decide +kernel
theorem dX9_missed_74 : decode cX9_missed 74 = .ok (.lcmp, 1) := by decide +kernel
theorem dX9_missed_75 : decode cX9_missed 75 = .ok (.ifCond .le 7, 3) := by decide +kernel
theorem dX9_missed_78 : decode cX9_missed 78 = .ok (.lload_n 2, 1) := by decide +kernel
theorem dX9_missed_79 : decode cX9_missed 79 = .ok (.goto 4, 3) := by decide +kernel
theorem dX9_missed_82 : decode cX9_missed 82 = .ok (.lconst 0, 1) := by decide +kernel
theorem dX9_missed_83 : decode cX9_missed 83 = .ok (.lmul, 1) := by decide +kernel
theorem dX9_missed_84 : decode cX9_missed 84 = .ok (.lastore, 1) := by decide +kernel
theorem dX9_missed_85 : decode cX9_missed 85 = .ok (.aload_n 0, 1) := by decide +kernel
theorem dX9_missed_86 : decode cX9_missed 86 = .ok (.getfield 97, 3) := by decide +kernel
theorem dX9_missed_89 : decode cX9_missed 89 = .ok (.iload 6, 2) := by decide +kernel
theorem dX9_missed_91 : decode cX9_missed 91 = .ok (.lload 7, 2) := by decide +kernel
theorem dX9_missed_93 : decode cX9_missed 93 = .ok (.lconst 0, 1) := by decide +kernel
theorem dX9_missed_94 : decode cX9_missed 94 = .ok (.lcmp, 1) := by decide +kernel
theorem dX9_missed_95 : decode cX9_missed 95 = .ok (.ifCond .le 8, 3) := by decide +kernel
theorem dX9_missed_98 : decode cX9_missed 98 = .ok (.lload 7, 2) := by decide +kernel
theorem dX9_missed_100 : decode cX9_missed 100 = .ok (.goto 16, 3) := by decide +kernel
theorem dX9_missed_103 : decode cX9_missed 103 = .ok (.lload 4, 2) := by decide +kernel
theorem dX9_missed_105 : decode cX9_missed 105 = .ok (.lconst 0, 1) := by decide +kernel
theorem dX9_missed_106 : decode cX9_missed 106 = .ok (.lcmp, 1) := by decide +kernel
theorem dX9_missed_107 : decode cX9_missed 107 = .ok (.ifCond .le 8, 3) := by decide +kernel
theorem dX9_missed_110 : decode cX9_missed 110 = .ok (.lload 4, 2) := by decide +kernel
theorem dX9_missed_112 : decode cX9_missed 112 = .ok (.goto 4, 3) := by decide +kernel
theorem dX9_missed_115 : decode cX9_missed 115 = .ok (.lconst 1, 1) := by decide +kernel
theorem dX9_missed_116 : decode cX9_missed 116 = .ok (.lastore, 1) := by decide +kernel
theorem dX9_missed_117 : decode cX9_missed 117 = .ok (.iinc 6 1, 3) := by decide +kernel
theorem dX9_missed_120 : decode cX9_missed 120 = .ok (.goto (-99), 3) := by decide +kernel
theorem dX9_missed_123 : decode cX9_missed 123 = .ok (.lconst 0, 1) := by decide +kernel
theorem dX9_missed_124 : decode cX9_missed 124 = .ok (.lstore 6, 2) := by decide +kernel
theorem dX9_missed_126 : decode cX9_missed 126 = .ok (.lconst 1, 1) := by decide +kernel
theorem dX9_missed_127 : decode cX9_missed 127 = .ok (.lstore 8, 2) := by decide +kernel
theorem dX9_missed_129 : decode cX9_missed 129 = .ok (.iconst 0, 1) := by decide +kernel
theorem dX9_missed_130 : decode cX9_missed 130 = .ok (.istore 10, 2) := by decide +kernel
theorem dX9_missed_132 : decode cX9_missed 132 = .ok (.iload 10, 2) := by decide +kernel
theorem dX9_missed_134 : decode cX9_missed 134 = .ok (.iconst 4, 1) := by decide +kernel
theorem dX9_missed_135 : decode cX9_missed 135 = .ok (.if_icmp .ge 76, 3) := by decide +kernel
theorem dX9_missed_138 : decode cX9_missed 138 = .ok (.aload_n 0, 1) := by decide +kernel
theorem dX9_missed_139 : decode cX9_missed 139 = .ok (.getfield 93, 3) := by decide +kernel
theorem dX9_missed_142 : decode cX9_missed 142 = .ok (.iload 10, 2) := by decide +kernel
theorem dX9_missed_144 : decode cX9_missed 144 = .ok (.laload, 1) := by decide +kernel
theorem dX9_missed_145 : decode cX9_missed 145 = .ok (.lstore 11, 2) := by decide +kernel
theorem dX9_missed_147 : decode cX9_missed 147 = .ok (.iconst 0, 1) := by decide +kernel
theorem dX9_missed_148 : decode cX9_missed 148 = .ok (.istore 13, 2) := by decide +kernel
theorem dX9_missed_150 : decode cX9_missed 150 = .ok (.iload 13, 2) := by decide +kernel
theorem dX9_missed_152 : decode cX9_missed 152 = .ok (.iconst 4, 1) := by decide +kernel
theorem dX9_missed_153 : decode cX9_missed 153 = .ok (.if_icmp .ge 33, 3) := by decide +kernel
theorem dX9_missed_156 : decode cX9_missed 156 = .ok (.iload 13, 2) := by decide +kernel
theorem dX9_missed_158 : decode cX9_missed 158 = .ok (.iload 10, 2) := by decide +kernel
theorem dX9_missed_160 : decode cX9_missed 160 = .ok (.if_icmp .ne 8, 3) := by decide +kernel
theorem dX9_missed_163 : decode cX9_missed 163 = .ok (.lload 11, 2) := by decide +kernel
theorem dX9_missed_165 : decode cX9_missed 165 = .ok (.goto 13, 3) := by decide +kernel
theorem dX9_missed_168 : decode cX9_missed 168 = .ok (.lload 11, 2) := by decide +kernel
theorem dX9_missed_170 : decode cX9_missed 170 = .ok (.aload_n 0, 1) := by decide +kernel
theorem dX9_missed_171 : decode cX9_missed 171 = .ok (.getfield 97, 3) := by decide +kernel
theorem dX9_missed_174 : decode cX9_missed 174 = .ok (.iload 13, 2) := by decide +kernel
theorem dX9_missed_176 : decode cX9_missed 176 = .ok (.laload, 1) := by decide +kernel
theorem dX9_missed_177 : decode cX9_missed 177 = .ok (.lmul, 1) := by decide +kernel
theorem dX9_missed_178 : decode cX9_missed 178 = .ok (.lstore 11, 2) := by decide +kernel
theorem dX9_missed_180 : decode cX9_missed 180 = .ok (.iinc 13 1, 3) := by decide +kernel
theorem dX9_missed_183 : decode cX9_missed 183 = .ok (.goto (-33), 3) := by decide +kernel
theorem dX9_missed_186 : decode cX9_missed 186 = .ok (.lload 6, 2) := by decide +kernel
theorem dX9_missed_188 : decode cX9_missed 188 = .ok (.lload 11, 2) := by decide +kernel
theorem dX9_missed_190 : decode cX9_missed 190 = .ok (.ladd, 1) := by decide +kernel
theorem dX9_missed_191 : decode cX9_missed 191 = .ok (.lstore 6, 2) := by decide +kernel
theorem dX9_missed_193 : decode cX9_missed 193 = .ok (.lload 8, 2) := by decide +kernel
theorem dX9_missed_195 : decode cX9_missed 195 = .ok (.aload_n 0, 1) := by decide +kernel
theorem dX9_missed_196 : decode cX9_missed 196 = .ok (.getfield 97, 3) := by decide +kernel
theorem dX9_missed_199 : decode cX9_missed 199 = .ok (.iload 10, 2) := by decide +kernel
theorem dX9_missed_201 : decode cX9_missed 201 = .ok (.laload, 1) := by decide +kernel
theorem dX9_missed_202 : decode cX9_missed 202 = .ok (.lmul, 1) := by decide +kernel
theorem dX9_missed_203 : decode cX9_missed 203 = .ok (.lstore 8, 2) := by decide +kernel
theorem dX9_missed_205 : decode cX9_missed 205 = .ok (.iinc 10 1, 3) := by decide +kernel
theorem dX9_missed_208 : decode cX9_missed 208 = .ok (.goto (-76), 3) := by decide +kernel
theorem dX9_missed_211 : decode cX9_missed 211 = .ok (.lload 6, 2) := by decide +kernel
theorem dX9_missed_213 : decode cX9_missed 213 = .ok (.ldc2_w 190, 3) := by decide +kernel
theorem dX9_missed_216 : decode cX9_missed 216 = .ok (.lmul, 1) := by decide +kernel
theorem dX9_missed_217 : decode cX9_missed 217 = .ok (.lload 8, 2) := by decide +kernel
theorem dX9_missed_219 : decode cX9_missed 219 = .ok (.ldiv, 1) := by decide +kernel
theorem dX9_missed_220 : decode cX9_missed 220 = .ok (.lreturn, 1) := by decide +kernel
theorem dX9_total_0 : decode cX9_total 0 = .ok (.aload_n 0, 1) := by decide +kernel
theorem dX9_total_1 : decode cX9_total 1 = .ok (.iload_n 1, 1) := by decide +kernel
theorem dX9_total_2 : decode cX9_total 2 = .ok (.invokevirtual 154, 3) := by decide +kernel
theorem dX9_total_5 : decode cX9_total 5 = .ok (.ldc2_w 190, 3) := by decide +kernel
theorem dX9_total_8 : decode cX9_total 8 = .ok (.aload_n 0, 1) := by decide +kernel
theorem dX9_total_9 : decode cX9_total 9 = .ok (.iload_n 1, 1) := by decide +kernel
theorem dX9_total_10 : decode cX9_total 10 = .ok (.iconst (-1), 1) := by decide +kernel
theorem dX9_total_11 : decode cX9_total 11 = .ok (.invokevirtual 183, 3) := by decide +kernel
theorem dX9_total_14 : decode cX9_total 14 = .ok (.i2l, 1) := by decide +kernel
theorem dX9_total_15 : decode cX9_total 15 = .ok (.lmul, 1) := by decide +kernel
theorem dX9_total_16 : decode cX9_total 16 = .ok (.aload_n 0, 1) := by decide +kernel
theorem dX9_total_17 : decode cX9_total 17 = .ok (.iload_n 1, 1) := by decide +kernel
theorem dX9_total_18 : decode cX9_total 18 = .ok (.invokevirtual 192, 3) := by decide +kernel
theorem dX9_total_21 : decode cX9_total 21 = .ok (.ladd, 1) := by decide +kernel
theorem dX9_total_22 : decode cX9_total 22 = .ok (.lreturn, 1) := by decide +kernel
theorem dX9_year_0 : decode cX9_year 0 = .ok (.aload_n 0, 1) := by decide +kernel
theorem dX9_year_1 : decode cX9_year 1 = .ok (.iconst 0, 1) := by decide +kernel
theorem dX9_year_2 : decode cX9_year 2 = .ok (.putfield 1, 3) := by decide +kernel
theorem dX9_year_5 : decode cX9_year 5 = .ok (.iload_n 1, 1) := by decide +kernel
theorem dX9_year_6 : decode cX9_year 6 = .ok (.ifCond .lt 18, 3) := by decide +kernel
theorem dX9_year_9 : decode cX9_year 9 = .ok (.iload_n 1, 1) := by decide +kernel
theorem dX9_year_10 : decode cX9_year 10 = .ok (.bipush 6, 2) := by decide +kernel
theorem dX9_year_12 : decode cX9_year 12 = .ok (.if_icmp .ge 12, 3) := by decide +kernel
theorem dX9_year_15 : decode cX9_year 15 = .ok (.iload_n 2, 1) := by decide +kernel
theorem dX9_year_16 : decode cX9_year 16 = .ok (.ifCond .lt 8, 3) := by decide +kernel
theorem dX9_year_19 : decode cX9_year 19 = .ok (.iload_n 2, 1) := by decide +kernel
theorem dX9_year_20 : decode cX9_year 20 = .ok (.iconst 5, 1) := by decide +kernel
theorem dX9_year_21 : decode cX9_year 21 = .ok (.if_icmp .le 5, 3) := by decide +kernel
theorem dX9_year_24 : decode cX9_year 24 = .ok (.iconst (-1), 1) := by decide +kernel
theorem dX9_year_25 : decode cX9_year 25 = .ok (.ireturn, 1) := by decide +kernel
theorem dX9_year_26 : decode cX9_year 26 = .ok (.aload_n 0, 1) := by decide +kernel
theorem dX9_year_27 : decode cX9_year 27 = .ok (.iload_n 1, 1) := by decide +kernel
theorem dX9_year_28 : decode cX9_year 28 = .ok (.invokevirtual 154, 3) := by decide +kernel
theorem dX9_year_31 : decode cX9_year 31 = .ok (.iconst 0, 1) := by decide +kernel
theorem dX9_year_32 : decode cX9_year 32 = .ok (.istore_n 3, 1) := by decide +kernel
theorem dX9_year_33 : decode cX9_year 33 = .ok (.iconst 0, 1) := by decide +kernel
theorem dX9_year_34 : decode cX9_year 34 = .ok (.istore 4, 2) := by decide +kernel
theorem dX9_year_36 : decode cX9_year 36 = .ok (.iload 4, 2) := by decide +kernel
theorem dX9_year_38 : decode cX9_year 38 = .ok (.aload_n 0, 1) := by decide +kernel
theorem dX9_year_39 : decode cX9_year 39 = .ok (.getfield 103, 3) := by decide +kernel
theorem dX9_year_42 : decode cX9_year 42 = .ok (.if_icmp .ge 68, 3) := by decide +kernel
theorem dX9_year_45 : decode cX9_year 45 = .ok (.aload_n 0, 1) := by decide +kernel
theorem dX9_year_46 : decode cX9_year 46 = .ok (.iload 4, 2) := by decide +kernel
theorem dX9_year_48 : decode cX9_year 48 = .ok (.invokevirtual 137, 3) := by decide +kernel
theorem dX9_year_51 : decode cX9_year 51 = .ok (.ifCond .eq 18, 3) := by decide +kernel
theorem dX9_year_54 : decode cX9_year 54 = .ok (.aload_n 0, 1) := by decide +kernel
theorem dX9_year_55 : decode cX9_year 55 = .ok (.getfield 32, 3) := by decide +kernel
theorem dX9_year_58 : decode cX9_year 58 = .ok (.iload 4, 2) := by decide +kernel
theorem dX9_year_60 : decode cX9_year 60 = .ok (.iaload, 1) := by decide +kernel
theorem dX9_year_61 : decode cX9_year 61 = .ok (.iload_n 1, 1) := by decide +kernel
theorem dX9_year_62 : decode cX9_year 62 = .ok (.if_icmp .ne 7, 3) := by decide +kernel
theorem dX9_year_65 : decode cX9_year 65 = .ok (.iconst 1, 1) := by decide +kernel
theorem dX9_year_66 : decode cX9_year 66 = .ok (.goto 4, 3) := by decide +kernel
theorem dX9_year_69 : decode cX9_year 69 = .ok (.iconst 0, 1) := by decide +kernel
theorem dX9_year_70 : decode cX9_year 70 = .ok (.istore 5, 2) := by decide +kernel
theorem dX9_year_72 : decode cX9_year 72 = .ok (.iload_n 3, 1) := by decide +kernel
theorem dX9_year_73 : decode cX9_year 73 = .ok (.iload 5, 2) := by decide +kernel
theorem dX9_year_75 : decode cX9_year 75 = .ok (.ifCond .eq 26, 3) := by decide +kernel
theorem dX9_year_78 : decode cX9_year 78 = .ok (.iload_n 2, 1) := by decide +kernel
theorem dX9_year_79 : decode cX9_year 79 = .ok (.ifCond .eq 18, 3) := by decide +kernel
theorem dX9_year_82 : decode cX9_year 82 = .ok (.iload_n 2, 1) := by decide +kernel
theorem dX9_year_83 : decode cX9_year 83 = .ok (.iconst 1, 1) := by decide +kernel
theorem dX9_year_84 : decode cX9_year 84 = .ok (.if_icmp .ne 17, 3) := by decide +kernel
theorem dX9_year_87 : decode cX9_year 87 = .ok (.aload_n 0, 1) := by decide +kernel
theorem dX9_year_88 : decode cX9_year 88 = .ok (.getfield 57, 3) := by decide +kernel
theorem dX9_year_91 : decode cX9_year 91 = .ok (.iload 4, 2) := by decide +kernel
theorem dX9_year_93 : decode cX9_year 93 = .ok (.iaload, 1) := by decide +kernel
theorem dX9_year_94 : decode cX9_year 94 = .ok (.ifCond .lt 7, 3) := by decide +kernel
theorem dX9_year_97 : decode cX9_year 97 = .ok (.iconst 1, 1) := by decide +kernel
theorem dX9_year_98 : decode cX9_year 98 = .ok (.goto 4, 3) := by decide +kernel
theorem dX9_year_101 : decode cX9_year 101 = .ok (.iconst 0, 1) := by decide +kernel
theorem dX9_year_102 : decode cX9_year 102 = .ok (.iadd, 1) := by decide +kernel
theorem dX9_year_103 : decode cX9_year 103 = .ok (.istore_n 3, 1) := by decide +kernel
theorem dX9_year_104 : decode cX9_year 104 = .ok (.iinc 4 1, 3) := by decide +kernel
theorem dX9_year_107 : decode cX9_year 107 = .ok (.goto (-71), 3) := by decide +kernel
theorem dX9_year_110 : decode cX9_year 110 = .ok (.iload_n 2, 1) := by decide +kernel
theorem dX9_year_111 : decode cX9_year 111 = .ok (.tableswitch 57 0 4 #[33, 33, 35, 42, 50], 33) := by decide +kernel
theorem dX9_year_144 : decode cX9_year 144 = .ok (.iload_n 3, 1) := by decide +kernel
theorem dX9_year_145 : decode cX9_year 145 = .ok (.ireturn, 1) := by decide +kernel
theorem dX9_year_146 : decode cX9_year 146 = .ok (.aload_n 0, 1) := by decide +kernel
theorem dX9_year_147 : decode cX9_year 147 = .ok (.iload_n 1, 1) := by decide +kernel
theorem dX9_year_148 : decode cX9_year 148 = .ok (.iconst (-1), 1) := by decide +kernel
theorem dX9_year_149 : decode cX9_year 149 = .ok (.invokevirtual 183, 3) := by decide +kernel
theorem dX9_year_152 : decode cX9_year 152 = .ok (.ireturn, 1) := by decide +kernel
theorem dX9_year_153 : decode cX9_year 153 = .ok (.aload_n 0, 1) := by decide +kernel
theorem dX9_year_154 : decode cX9_year 154 = .ok (.iload_n 1, 1) := by decide +kernel
theorem dX9_year_155 : decode cX9_year 155 = .ok (.iconst (-1), 1) := by decide +kernel
theorem dX9_year_156 : decode cX9_year 156 = .ok (.iconst 1, 1) := by decide +kernel
theorem dX9_year_157 : decode cX9_year 157 = .ok (.invokevirtual 186, 3) := by decide +kernel
theorem dX9_year_160 : decode cX9_year 160 = .ok (.ireturn, 1) := by decide +kernel
theorem dX9_year_161 : decode cX9_year 161 = .ok (.aload_n 0, 1) := by decide +kernel
theorem dX9_year_162 : decode cX9_year 162 = .ok (.iload_n 1, 1) := by decide +kernel
theorem dX9_year_163 : decode cX9_year 163 = .ok (.invokevirtual 192, 3) := by decide +kernel
theorem dX9_year_166 : decode cX9_year 166 = .ok (.l2i, 1) := by decide +kernel
theorem dX9_year_167 : decode cX9_year 167 = .ok (.ireturn, 1) := by decide +kernel
theorem dX9_year_168 : decode cX9_year 168 = .ok (.aload_n 0, 1) := by decide +kernel
theorem dX9_year_169 : decode cX9_year 169 = .ok (.iload_n 1, 1) := by decide +kernel
theorem dX9_year_170 : decode cX9_year 170 = .ok (.invokevirtual 196, 3) := by decide +kernel
theorem dX9_year_173 : decode cX9_year 173 = .ok (.l2i, 1) := by decide +kernel
theorem dX9_year_174 : decode cX9_year 174 = .ok (.ireturn, 1) := by decide +kernel
theorem dX9_comeBy_0 : decode cX9_comeBy 0 = .ok (.iconst 0, 1) := by decide +kernel
theorem dX9_comeBy_1 : decode cX9_comeBy 1 = .ok (.istore 4, 2) := by decide +kernel
theorem dX9_comeBy_3 : decode cX9_comeBy 3 = .ok (.iconst 0, 1) := by decide +kernel
theorem dX9_comeBy_4 : decode cX9_comeBy 4 = .ok (.istore 5, 2) := by decide +kernel
theorem dX9_comeBy_6 : decode cX9_comeBy 6 = .ok (.iload 5, 2) := by decide +kernel
theorem dX9_comeBy_8 : decode cX9_comeBy 8 = .ok (.aload_n 0, 1) := by decide +kernel
theorem dX9_comeBy_9 : decode cX9_comeBy 9 = .ok (.getfield 103, 3) := by decide +kernel
theorem dX9_comeBy_12 : decode cX9_comeBy 12 = .ok (.if_icmp .ge 68, 3) := by decide +kernel
theorem dX9_comeBy_15 : decode cX9_comeBy 15 = .ok (.iload 4, 2) := by decide +kernel
theorem dX9_comeBy_17 : decode cX9_comeBy 17 = .ok (.aload_n 0, 1) := by decide +kernel
theorem dX9_comeBy_18 : decode cX9_comeBy 18 = .ok (.iload 5, 2) := by decide +kernel
theorem dX9_comeBy_20 : decode cX9_comeBy 20 = .ok (.iload_n 1, 1) := by decide +kernel
theorem dX9_comeBy_21 : decode cX9_comeBy 21 = .ok (.invokevirtual 161, 3) := by decide +kernel
theorem dX9_comeBy_24 : decode cX9_comeBy 24 = .ok (.ifCond .eq 46, 3) := by decide +kernel
theorem dX9_comeBy_27 : decode cX9_comeBy 27 = .ok (.bipush 10, 2) := by decide +kernel
theorem dX9_comeBy_29 : decode cX9_comeBy 29 = .ok (.aload_n 0, 1) := by decide +kernel
theorem dX9_comeBy_30 : decode cX9_comeBy 30 = .ok (.getfield 35, 3) := by decide +kernel
theorem dX9_comeBy_33 : decode cX9_comeBy 33 = .ok (.iload 5, 2) := by decide +kernel
theorem dX9_comeBy_35 : decode cX9_comeBy 35 = .ok (.iaload, 1) := by decide +kernel
theorem dX9_comeBy_36 : decode cX9_comeBy 36 = .ok (.imul, 1) := by decide +kernel
theorem dX9_comeBy_37 : decode cX9_comeBy 37 = .ok (.aload_n 0, 1) := by decide +kernel
theorem dX9_comeBy_38 : decode cX9_comeBy 38 = .ok (.getfield 38, 3) := by decide +kernel
theorem dX9_comeBy_41 : decode cX9_comeBy 41 = .ok (.iload 5, 2) := by decide +kernel
theorem dX9_comeBy_43 : decode cX9_comeBy 43 = .ok (.iaload, 1) := by decide +kernel
theorem dX9_comeBy_44 : decode cX9_comeBy 44 = .ok (.bipush 60, 2) := by decide +kernel
theorem dX9_comeBy_46 : decode cX9_comeBy 46 = .ok (.idiv, 1) := by decide +kernel
theorem dX9_comeBy_47 : decode cX9_comeBy 47 = .ok (.iadd, 1) := by decide +kernel
theorem dX9_comeBy_48 : decode cX9_comeBy 48 = .ok (.iload_n 3, 1) := by decide +kernel
theorem dX9_comeBy_49 : decode cX9_comeBy 49 = .ok (.if_icmp .gt 21, 3) := by decide +kernel
theorem dX9_comeBy_52 : decode cX9_comeBy 52 = .ok (.aload_n 0, 1) := by decide +kernel
theorem dX9_comeBy_53 : decode cX9_comeBy 53 = .ok (.aload_n 0, 1) := by decide +kernel
theorem dX9_comeBy_54 : decode cX9_comeBy 54 = .ok (.iload 5, 2) := by decide +kernel
theorem dX9_comeBy_56 : decode cX9_comeBy 56 = .ok (.invokevirtual 164, 3) := by decide +kernel
theorem dX9_comeBy_59 : decode cX9_comeBy 59 = .ok (.iload_n 2, 1) := by decide +kernel
theorem dX9_comeBy_60 : decode cX9_comeBy 60 = .ok (.invokevirtual 121, 3) := by decide +kernel
theorem dX9_comeBy_63 : decode cX9_comeBy 63 = .ok (.ifCond .eq 7, 3) := by decide +kernel
theorem dX9_comeBy_66 : decode cX9_comeBy 66 = .ok (.iconst 1, 1) := by decide +kernel
theorem dX9_comeBy_67 : decode cX9_comeBy 67 = .ok (.goto 4, 3) := by decide +kernel
theorem dX9_comeBy_70 : decode cX9_comeBy 70 = .ok (.iconst 0, 1) := by decide +kernel
theorem dX9_comeBy_71 : decode cX9_comeBy 71 = .ok (.iadd, 1) := by decide +kernel
theorem dX9_comeBy_72 : decode cX9_comeBy 72 = .ok (.istore 4, 2) := by decide +kernel
theorem dX9_comeBy_74 : decode cX9_comeBy 74 = .ok (.iinc 5 1, 3) := by decide +kernel
theorem dX9_comeBy_77 : decode cX9_comeBy 77 = .ok (.goto (-71), 3) := by decide +kernel
theorem dX9_comeBy_80 : decode cX9_comeBy 80 = .ok (.iload 4, 2) := by decide +kernel
theorem dX9_comeBy_82 : decode cX9_comeBy 82 = .ok (.ireturn, 1) := by decide +kernel
theorem dX9_passage_0 : decode cX9_passage 0 = .ok (.aload_n 0, 1) := by decide +kernel
theorem dX9_passage_1 : decode cX9_passage 1 = .ok (.iconst 0, 1) := by decide +kernel
theorem dX9_passage_2 : decode cX9_passage 2 = .ok (.putfield 1, 3) := by decide +kernel
theorem dX9_passage_5 : decode cX9_passage 5 = .ok (.iload_n 1, 1) := by decide +kernel
theorem dX9_passage_6 : decode cX9_passage 6 = .ok (.ifCond .lt 26, 3) := by decide +kernel
theorem dX9_passage_9 : decode cX9_passage 9 = .ok (.iload_n 1, 1) := by decide +kernel
theorem dX9_passage_10 : decode cX9_passage 10 = .ok (.bipush 6, 2) := by decide +kernel
theorem dX9_passage_12 : decode cX9_passage 12 = .ok (.if_icmp .ge 20, 3) := by decide +kernel
theorem dX9_passage_15 : decode cX9_passage 15 = .ok (.aload_n 0, 1) := by decide +kernel
theorem dX9_passage_16 : decode cX9_passage 16 = .ok (.iload_n 2, 1) := by decide +kernel
theorem dX9_passage_17 : decode cX9_passage 17 = .ok (.invokevirtual 106, 3) := by decide +kernel
theorem dX9_passage_20 : decode cX9_passage 20 = .ok (.ifCond .eq 12, 3) := by decide +kernel
theorem dX9_passage_23 : decode cX9_passage 23 = .ok (.iload_n 3, 1) := by decide +kernel
theorem dX9_passage_24 : decode cX9_passage 24 = .ok (.ifCond .lt 8, 3) := by decide +kernel
theorem dX9_passage_27 : decode cX9_passage 27 = .ok (.iload_n 3, 1) := by decide +kernel
theorem dX9_passage_28 : decode cX9_passage 28 = .ok (.iconst 2, 1) := by decide +kernel
theorem dX9_passage_29 : decode cX9_passage 29 = .ok (.if_icmp .le 5, 3) := by decide +kernel
theorem dX9_passage_32 : decode cX9_passage 32 = .ok (.iconst (-1), 1) := by decide +kernel
theorem dX9_passage_33 : decode cX9_passage 33 = .ok (.ireturn, 1) := by decide +kernel
theorem dX9_passage_34 : decode cX9_passage 34 = .ok (.aload_n 0, 1) := by decide +kernel
theorem dX9_passage_35 : decode cX9_passage 35 = .ok (.iload_n 1, 1) := by decide +kernel
theorem dX9_passage_36 : decode cX9_passage 36 = .ok (.invokevirtual 154, 3) := by decide +kernel
theorem dX9_passage_39 : decode cX9_passage 39 = .ok (.aload_n 0, 1) := by decide +kernel
theorem dX9_passage_40 : decode cX9_passage 40 = .ok (.iload_n 1, 1) := by decide +kernel
theorem dX9_passage_41 : decode cX9_passage 41 = .ok (.iload_n 2, 1) := by decide +kernel
theorem dX9_passage_42 : decode cX9_passage 42 = .ok (.sipush 300, 3) := by decide +kernel
theorem dX9_passage_45 : decode cX9_passage 45 = .ok (.invokevirtual 199, 3) := by decide +kernel
theorem dX9_passage_48 : decode cX9_passage 48 = .ok (.istore 4, 2) := by decide +kernel
theorem dX9_passage_50 : decode cX9_passage 50 = .ok (.iload 4, 2) := by decide +kernel
theorem dX9_passage_52 : decode cX9_passage 52 = .ok (.ifCond .ne 5, 3) := by decide +kernel
theorem dX9_passage_55 : decode cX9_passage 55 = .ok (.iconst (-1), 1) := by decide +kernel
theorem dX9_passage_56 : decode cX9_passage 56 = .ok (.ireturn, 1) := by decide +kernel
theorem dX9_passage_57 : decode cX9_passage 57 = .ok (.iconst 0, 1) := by decide +kernel
theorem dX9_passage_58 : decode cX9_passage 58 = .ok (.istore 5, 2) := by decide +kernel
theorem dX9_passage_60 : decode cX9_passage 60 = .ok (.iconst 0, 1) := by decide +kernel
theorem dX9_passage_61 : decode cX9_passage 61 = .ok (.istore 6, 2) := by decide +kernel
theorem dX9_passage_63 : decode cX9_passage 63 = .ok (.iload 6, 2) := by decide +kernel
theorem dX9_passage_65 : decode cX9_passage 65 = .ok (.ifCond .ne 72, 3) := by decide +kernel
theorem dX9_passage_68 : decode cX9_passage 68 = .ok (.aload_n 0, 1) := by decide +kernel
theorem dX9_passage_69 : decode cX9_passage 69 = .ok (.iload_n 1, 1) := by decide +kernel
theorem dX9_passage_70 : decode cX9_passage 70 = .ok (.iload_n 2, 1) := by decide +kernel
theorem dX9_passage_71 : decode cX9_passage 71 = .ok (.iload 5, 2) := by decide +kernel
theorem dX9_passage_73 : decode cX9_passage 73 = .ok (.invokevirtual 199, 3) := by decide +kernel
theorem dX9_passage_76 : decode cX9_passage 76 = .ok (.istore 7, 2) := by decide +kernel
theorem dX9_passage_78 : decode cX9_passage 78 = .ok (.iload_n 3, 1) := by decide +kernel
theorem dX9_passage_79 : decode cX9_passage 79 = .ok (.ifCond .ne 16, 3) := by decide +kernel
theorem dX9_passage_82 : decode cX9_passage 82 = .ok (.iload 7, 2) := by decide +kernel
theorem dX9_passage_84 : decode cX9_passage 84 = .ok (.ifCond .le 7, 3) := by decide +kernel
theorem dX9_passage_87 : decode cX9_passage 87 = .ok (.iconst 1, 1) := by decide +kernel
theorem dX9_passage_88 : decode cX9_passage 88 = .ok (.goto 41, 3) := by decide +kernel
theorem dX9_passage_91 : decode cX9_passage 91 = .ok (.iconst 0, 1) := by decide +kernel
theorem dX9_passage_92 : decode cX9_passage 92 = .ok (.goto 37, 3) := by decide +kernel
theorem dX9_passage_95 : decode cX9_passage 95 = .ok (.iload_n 3, 1) := by decide +kernel
theorem dX9_passage_96 : decode cX9_passage 96 = .ok (.iconst 1, 1) := by decide +kernel
theorem dX9_passage_97 : decode cX9_passage 97 = .ok (.if_icmp .ne 20, 3) := by decide +kernel
theorem dX9_passage_100 : decode cX9_passage 100 = .ok (.iconst 2, 1) := by decide +kernel
theorem dX9_passage_101 : decode cX9_passage 101 = .ok (.iload 7, 2) := by decide +kernel
theorem dX9_passage_103 : decode cX9_passage 103 = .ok (.imul, 1) := by decide +kernel
theorem dX9_passage_104 : decode cX9_passage 104 = .ok (.iload 4, 2) := by decide +kernel
theorem dX9_passage_106 : decode cX9_passage 106 = .ok (.if_icmp .lt 7, 3) := by decide +kernel
theorem dX9_passage_109 : decode cX9_passage 109 = .ok (.iconst 1, 1) := by decide +kernel
theorem dX9_passage_110 : decode cX9_passage 110 = .ok (.goto 19, 3) := by decide +kernel
theorem dX9_passage_113 : decode cX9_passage 113 = .ok (.iconst 0, 1) := by decide +kernel
theorem dX9_passage_114 : decode cX9_passage 114 = .ok (.goto 15, 3) := by decide +kernel
theorem dX9_passage_117 : decode cX9_passage 117 = .ok (.iload 7, 2) := by decide +kernel
theorem dX9_passage_119 : decode cX9_passage 119 = .ok (.iload 4, 2) := by decide +kernel
theorem dX9_passage_121 : decode cX9_passage 121 = .ok (.if_icmp .ne 7, 3) := by decide +kernel
theorem dX9_passage_124 : decode cX9_passage 124 = .ok (.iconst 1, 1) := by decide +kernel
theorem dX9_passage_125 : decode cX9_passage 125 = .ok (.goto 4, 3) := by decide +kernel
theorem dX9_passage_128 : decode cX9_passage 128 = .ok (.iconst 0, 1) := by decide +kernel
theorem dX9_passage_129 : decode cX9_passage 129 = .ok (.istore 6, 2) := by decide +kernel
theorem dX9_passage_131 : decode cX9_passage 131 = .ok (.iinc 5 1, 3) := by decide +kernel
theorem dX9_passage_134 : decode cX9_passage 134 = .ok (.goto (-71), 3) := by decide +kernel
theorem dX9_passage_137 : decode cX9_passage 137 = .ok (.iload 5, 2) := by decide +kernel
theorem dX9_passage_139 : decode cX9_passage 139 = .ok (.iconst 1, 1) := by decide +kernel
theorem dX9_passage_140 : decode cX9_passage 140 = .ok (.isub, 1) := by decide +kernel
theorem dX9_passage_141 : decode cX9_passage 141 = .ok (.ireturn, 1) := by decide +kernel
theorem dX9_change_0 : decode cX9_change 0 = .ok (.aload_n 0, 1) := by decide +kernel
theorem dX9_change_1 : decode cX9_change 1 = .ok (.iconst 0, 1) := by decide +kernel
theorem dX9_change_2 : decode cX9_change 2 = .ok (.putfield 1, 3) := by decide +kernel
theorem dX9_change_5 : decode cX9_change 5 = .ok (.iload_n 1, 1) := by decide +kernel
theorem dX9_change_6 : decode cX9_change 6 = .ok (.ifCond .lt 19, 3) := by decide +kernel
theorem dX9_change_9 : decode cX9_change 9 = .ok (.iload_n 1, 1) := by decide +kernel
theorem dX9_change_10 : decode cX9_change 10 = .ok (.bipush 6, 2) := by decide +kernel
theorem dX9_change_12 : decode cX9_change 12 = .ok (.if_icmp .ge 13, 3) := by decide +kernel
theorem dX9_change_15 : decode cX9_change 15 = .ok (.iload_n 2, 1) := by decide +kernel
theorem dX9_change_16 : decode cX9_change 16 = .ok (.ifCond .lt 9, 3) := by decide +kernel
theorem dX9_change_19 : decode cX9_change 19 = .ok (.iload_n 2, 1) := by decide +kernel
theorem dX9_change_20 : decode cX9_change 20 = .ok (.bipush 6, 2) := by decide +kernel
theorem dX9_change_22 : decode cX9_change 22 = .ok (.if_icmp .lt 6, 3) := by decide +kernel
theorem dX9_change_25 : decode cX9_change 25 = .ok (.bipush (-2), 2) := by decide +kernel
theorem dX9_change_27 : decode cX9_change 27 = .ok (.ireturn, 1) := by decide +kernel
theorem dX9_change_28 : decode cX9_change 28 = .ok (.aload_n 0, 1) := by decide +kernel
theorem dX9_change_29 : decode cX9_change 29 = .ok (.iload_n 1, 1) := by decide +kernel
theorem dX9_change_30 : decode cX9_change 30 = .ok (.invokevirtual 196, 3) := by decide +kernel
theorem dX9_change_33 : decode cX9_change 33 = .ok (.lstore_n 3, 1) := by decide +kernel
theorem dX9_change_34 : decode cX9_change 34 = .ok (.ldc2_w 190, 3) := by decide +kernel
theorem dX9_change_37 : decode cX9_change 37 = .ok (.aload_n 0, 1) := by decide +kernel
theorem dX9_change_38 : decode cX9_change 38 = .ok (.iload_n 1, 1) := by decide +kernel
theorem dX9_change_39 : decode cX9_change 39 = .ok (.iconst (-1), 1) := by decide +kernel
theorem dX9_change_40 : decode cX9_change 40 = .ok (.invokevirtual 183, 3) := by decide +kernel
theorem dX9_change_43 : decode cX9_change 43 = .ok (.i2l, 1) := by decide +kernel
theorem dX9_change_44 : decode cX9_change 44 = .ok (.lmul, 1) := by decide +kernel
theorem dX9_change_45 : decode cX9_change 45 = .ok (.lstore 5, 2) := by decide +kernel
theorem dX9_change_47 : decode cX9_change 47 = .ok (.aload_n 0, 1) := by decide +kernel
theorem dX9_change_48 : decode cX9_change 48 = .ok (.iload_n 2, 1) := by decide +kernel
theorem dX9_change_49 : decode cX9_change 49 = .ok (.invokevirtual 196, 3) := by decide +kernel
theorem dX9_change_52 : decode cX9_change 52 = .ok (.lstore 7, 2) := by decide +kernel
theorem dX9_change_54 : decode cX9_change 54 = .ok (.ldc2_w 190, 3) := by decide +kernel
theorem dX9_change_57 : decode cX9_change 57 = .ok (.aload_n 0, 1) := by decide +kernel
theorem dX9_change_58 : decode cX9_change 58 = .ok (.iload_n 2, 1) := by decide +kernel
theorem dX9_change_59 : decode cX9_change 59 = .ok (.iconst (-1), 1) := by decide +kernel
theorem dX9_change_60 : decode cX9_change 60 = .ok (.invokevirtual 183, 3) := by decide +kernel
theorem dX9_change_63 : decode cX9_change 63 = .ok (.i2l, 1) := by decide +kernel
theorem dX9_change_64 : decode cX9_change 64 = .ok (.lmul, 1) := by decide +kernel
theorem dX9_change_65 : decode cX9_change 65 = .ok (.lstore 9, 2) := by decide +kernel
theorem dX9_change_67 : decode cX9_change 67 = .ok (.lload 9, 2) := by decide +kernel
theorem dX9_change_69 : decode cX9_change 69 = .ok (.lload_n 3, 1) := by decide +kernel
theorem dX9_change_70 : decode cX9_change 70 = .ok (.lcmp, 1) := by decide +kernel
theorem dX9_change_71 : decode cX9_change 71 = .ok (.ifCond .le 7, 3) := by decide +kernel
theorem dX9_change_74 : decode cX9_change 74 = .ok (.iconst 1, 1) := by decide +kernel
theorem dX9_change_75 : decode cX9_change 75 = .ok (.goto 16, 3) := by decide +kernel
theorem dX9_change_78 : decode cX9_change 78 = .ok (.lload 7, 2) := by decide +kernel
theorem dX9_change_80 : decode cX9_change 80 = .ok (.lload 5, 2) := by decide +kernel
theorem dX9_change_82 : decode cX9_change 82 = .ok (.lcmp, 1) := by decide +kernel
theorem dX9_change_83 : decode cX9_change 83 = .ok (.ifCond .ge 7, 3) := by decide +kernel
theorem dX9_change_86 : decode cX9_change 86 = .ok (.iconst (-1), 1) := by decide +kernel
theorem dX9_change_87 : decode cX9_change 87 = .ok (.goto 4, 3) := by decide +kernel
theorem dX9_change_90 : decode cX9_change 90 = .ok (.iconst 0, 1) := by decide +kernel
theorem dX9_change_91 : decode cX9_change 91 = .ok (.ireturn, 1) := by decide +kernel
theorem dX9_look_0 : decode cX9_look 0 = .ok (.aload_n 0, 1) := by decide +kernel
theorem dX9_look_1 : decode cX9_look 1 = .ok (.iload_n 1, 1) := by decide +kernel
theorem dX9_look_2 : decode cX9_look 2 = .ok (.ifCond .lt 24, 3) := by decide +kernel
theorem dX9_look_5 : decode cX9_look 5 = .ok (.iload_n 1, 1) := by decide +kernel
theorem dX9_look_6 : decode cX9_look 6 = .ok (.aload_n 0, 1) := by decide +kernel
theorem dX9_look_7 : decode cX9_look 7 = .ok (.getfield 103, 3) := by decide +kernel
theorem dX9_look_10 : decode cX9_look 10 = .ok (.if_icmp .ge 16, 3) := by decide +kernel
theorem dX9_look_13 : decode cX9_look 13 = .ok (.iload_n 2, 1) := by decide +kernel
theorem dX9_look_14 : decode cX9_look 14 = .ok (.ifCond .lt 12, 3) := by decide +kernel
theorem dX9_look_17 : decode cX9_look 17 = .ok (.iload_n 2, 1) := by decide +kernel
theorem dX9_look_18 : decode cX9_look 18 = .ok (.iconst 5, 1) := by decide +kernel
theorem dX9_look_19 : decode cX9_look 19 = .ok (.if_icmp .gt 7, 3) := by decide +kernel
theorem dX9_look_22 : decode cX9_look 22 = .ok (.iconst 0, 1) := by decide +kernel
theorem dX9_look_23 : decode cX9_look 23 = .ok (.goto 4, 3) := by decide +kernel
theorem dX9_look_26 : decode cX9_look 26 = .ok (.iconst 1, 1) := by decide +kernel
theorem dX9_look_27 : decode cX9_look 27 = .ok (.putfield 1, 3) := by decide +kernel
theorem dX9_look_30 : decode cX9_look 30 = .ok (.aload_n 0, 1) := by decide +kernel
theorem dX9_look_31 : decode cX9_look 31 = .ok (.getfield 1, 3) := by decide +kernel
theorem dX9_look_34 : decode cX9_look 34 = .ok (.ifCond .le 5, 3) := by decide +kernel
theorem dX9_look_37 : decode cX9_look 37 = .ok (.iconst 0, 1) := by decide +kernel
theorem dX9_look_38 : decode cX9_look 38 = .ok (.ireturn, 1) := by decide +kernel
theorem dX9_look_39 : decode cX9_look 39 = .ok (.iload_n 2, 1) := by decide +kernel
theorem dX9_look_40 : decode cX9_look 40 = .ok (.ifCond .ne 12, 3) := by decide +kernel
theorem dX9_look_43 : decode cX9_look 43 = .ok (.aload_n 0, 1) := by decide +kernel
theorem dX9_look_44 : decode cX9_look 44 = .ok (.getfield 32, 3) := by decide +kernel
theorem dX9_look_47 : decode cX9_look 47 = .ok (.iload_n 1, 1) := by decide +kernel
theorem dX9_look_48 : decode cX9_look 48 = .ok (.iaload, 1) := by decide +kernel
theorem dX9_look_49 : decode cX9_look 49 = .ok (.goto 65, 3) := by decide +kernel
theorem dX9_look_52 : decode cX9_look 52 = .ok (.iload_n 2, 1) := by decide +kernel
theorem dX9_look_53 : decode cX9_look 53 = .ok (.iconst 1, 1) := by decide +kernel
theorem dX9_look_54 : decode cX9_look 54 = .ok (.if_icmp .ne 12, 3) := by decide +kernel
theorem dX9_look_57 : decode cX9_look 57 = .ok (.aload_n 0, 1) := by decide +kernel
theorem dX9_look_58 : decode cX9_look 58 = .ok (.getfield 35, 3) := by decide +kernel
theorem dX9_look_61 : decode cX9_look 61 = .ok (.iload_n 1, 1) := by decide +kernel
theorem dX9_look_62 : decode cX9_look 62 = .ok (.iaload, 1) := by decide +kernel
theorem dX9_look_63 : decode cX9_look 63 = .ok (.goto 51, 3) := by decide +kernel
theorem dX9_look_66 : decode cX9_look 66 = .ok (.iload_n 2, 1) := by decide +kernel
theorem dX9_look_67 : decode cX9_look 67 = .ok (.iconst 2, 1) := by decide +kernel
theorem dX9_look_68 : decode cX9_look 68 = .ok (.if_icmp .ne 12, 3) := by decide +kernel
theorem dX9_look_71 : decode cX9_look 71 = .ok (.aload_n 0, 1) := by decide +kernel
theorem dX9_look_72 : decode cX9_look 72 = .ok (.getfield 38, 3) := by decide +kernel
theorem dX9_look_75 : decode cX9_look 75 = .ok (.iload_n 1, 1) := by decide +kernel
theorem dX9_look_76 : decode cX9_look 76 = .ok (.iaload, 1) := by decide +kernel
theorem dX9_look_77 : decode cX9_look 77 = .ok (.goto 37, 3) := by decide +kernel
theorem dX9_look_80 : decode cX9_look 80 = .ok (.iload_n 2, 1) := by decide +kernel
theorem dX9_look_81 : decode cX9_look 81 = .ok (.iconst 3, 1) := by decide +kernel
theorem dX9_look_82 : decode cX9_look 82 = .ok (.if_icmp .ne 12, 3) := by decide +kernel
theorem dX9_look_85 : decode cX9_look 85 = .ok (.aload_n 0, 1) := by decide +kernel
theorem dX9_look_86 : decode cX9_look 86 = .ok (.getfield 41, 3) := by decide +kernel
theorem dX9_look_89 : decode cX9_look 89 = .ok (.iload_n 1, 1) := by decide +kernel
theorem dX9_look_90 : decode cX9_look 90 = .ok (.iaload, 1) := by decide +kernel
theorem dX9_look_91 : decode cX9_look 91 = .ok (.goto 23, 3) := by decide +kernel
theorem dX9_look_94 : decode cX9_look 94 = .ok (.iload_n 2, 1) := by decide +kernel
theorem dX9_look_95 : decode cX9_look 95 = .ok (.iconst 4, 1) := by decide +kernel
theorem dX9_look_96 : decode cX9_look 96 = .ok (.if_icmp .ne 12, 3) := by decide +kernel
theorem dX9_look_99 : decode cX9_look 99 = .ok (.aload_n 0, 1) := by decide +kernel
theorem dX9_look_100 : decode cX9_look 100 = .ok (.getfield 44, 3) := by decide +kernel
theorem dX9_look_103 : decode cX9_look 103 = .ok (.iload_n 1, 1) := by decide +kernel
theorem dX9_look_104 : decode cX9_look 104 = .ok (.iaload, 1) := by decide +kernel
theorem dX9_look_105 : decode cX9_look 105 = .ok (.goto 9, 3) := by decide +kernel
theorem dX9_look_108 : decode cX9_look 108 = .ok (.aload_n 0, 1) := by decide +kernel
theorem dX9_look_109 : decode cX9_look 109 = .ok (.getfield 47, 3) := by decide +kernel
theorem dX9_look_112 : decode cX9_look 112 = .ok (.iload_n 1, 1) := by decide +kernel
theorem dX9_look_113 : decode cX9_look 113 = .ok (.iaload, 1) := by decide +kernel
theorem dX9_look_114 : decode cX9_look 114 = .ok (.ireturn, 1) := by decide +kernel
theorem dX9_count_0 : decode cX9_count 0 = .ok (.aload_n 0, 1) := by decide +kernel
theorem dX9_count_1 : decode cX9_count 1 = .ok (.iconst 0, 1) := by decide +kernel
theorem dX9_count_2 : decode cX9_count 2 = .ok (.putfield 1, 3) := by decide +kernel
theorem dX9_count_5 : decode cX9_count 5 = .ok (.iconst 0, 1) := by decide +kernel
theorem dX9_count_6 : decode cX9_count 6 = .ok (.istore_n 2, 1) := by decide +kernel
theorem dX9_count_7 : decode cX9_count 7 = .ok (.iconst 0, 1) := by decide +kernel
theorem dX9_count_8 : decode cX9_count 8 = .ok (.istore_n 3, 1) := by decide +kernel
theorem dX9_count_9 : decode cX9_count 9 = .ok (.iload_n 3, 1) := by decide +kernel
theorem dX9_count_10 : decode cX9_count 10 = .ok (.aload_n 0, 1) := by decide +kernel
theorem dX9_count_11 : decode cX9_count 11 = .ok (.getfield 17, 3) := by decide +kernel
theorem dX9_count_14 : decode cX9_count 14 = .ok (.if_icmp .ge 25, 3) := by decide +kernel
theorem dX9_count_17 : decode cX9_count 17 = .ok (.iload_n 2, 1) := by decide +kernel
theorem dX9_count_18 : decode cX9_count 18 = .ok (.aload_n 0, 1) := by decide +kernel
theorem dX9_count_19 : decode cX9_count 19 = .ok (.iload_n 3, 1) := by decide +kernel
theorem dX9_count_20 : decode cX9_count 20 = .ok (.invokevirtual 171, 3) := by decide +kernel
theorem dX9_count_23 : decode cX9_count 23 = .ok (.ifCond .eq 7, 3) := by decide +kernel
theorem dX9_count_26 : decode cX9_count 26 = .ok (.iconst 1, 1) := by decide +kernel
theorem dX9_count_27 : decode cX9_count 27 = .ok (.goto 4, 3) := by decide +kernel
theorem dX9_count_30 : decode cX9_count 30 = .ok (.iconst 0, 1) := by decide +kernel
theorem dX9_count_31 : decode cX9_count 31 = .ok (.iadd, 1) := by decide +kernel
theorem dX9_count_32 : decode cX9_count 32 = .ok (.istore_n 2, 1) := by decide +kernel
theorem dX9_count_33 : decode cX9_count 33 = .ok (.iinc 3 1, 3) := by decide +kernel
theorem dX9_count_36 : decode cX9_count 36 = .ok (.goto (-27), 3) := by decide +kernel
theorem dX9_count_39 : decode cX9_count 39 = .ok (.iload_n 1, 1) := by decide +kernel
theorem dX9_count_40 : decode cX9_count 40 = .ok (.ifCond .ne 10, 3) := by decide +kernel
theorem dX9_count_43 : decode cX9_count 43 = .ok (.aload_n 0, 1) := by decide +kernel
theorem dX9_count_44 : decode cX9_count 44 = .ok (.getfield 100, 3) := by decide +kernel
theorem dX9_count_47 : decode cX9_count 47 = .ok (.goto 61, 3) := by decide +kernel
theorem dX9_count_50 : decode cX9_count 50 = .ok (.iload_n 1, 1) := by decide +kernel
theorem dX9_count_51 : decode cX9_count 51 = .ok (.iconst 1, 1) := by decide +kernel
theorem dX9_count_52 : decode cX9_count 52 = .ok (.if_icmp .ne 10, 3) := by decide +kernel
theorem dX9_count_55 : decode cX9_count 55 = .ok (.aload_n 0, 1) := by decide +kernel
theorem dX9_count_56 : decode cX9_count 56 = .ok (.getfield 17, 3) := by decide +kernel
theorem dX9_count_59 : decode cX9_count 59 = .ok (.goto 49, 3) := by decide +kernel
theorem dX9_count_62 : decode cX9_count 62 = .ok (.iload_n 1, 1) := by decide +kernel
theorem dX9_count_63 : decode cX9_count 63 = .ok (.iconst 2, 1) := by decide +kernel
theorem dX9_count_64 : decode cX9_count 64 = .ok (.if_icmp .ne 10, 3) := by decide +kernel
theorem dX9_count_67 : decode cX9_count 67 = .ok (.aload_n 0, 1) := by decide +kernel
theorem dX9_count_68 : decode cX9_count 68 = .ok (.getfield 110, 3) := by decide +kernel
theorem dX9_count_71 : decode cX9_count 71 = .ok (.goto 37, 3) := by decide +kernel
theorem dX9_count_74 : decode cX9_count 74 = .ok (.iload_n 1, 1) := by decide +kernel
theorem dX9_count_75 : decode cX9_count 75 = .ok (.iconst 3, 1) := by decide +kernel
theorem dX9_count_76 : decode cX9_count 76 = .ok (.if_icmp .ne 10, 3) := by decide +kernel
theorem dX9_count_79 : decode cX9_count 79 = .ok (.aload_n 0, 1) := by decide +kernel
theorem dX9_count_80 : decode cX9_count 80 = .ok (.getfield 103, 3) := by decide +kernel
theorem dX9_count_83 : decode cX9_count 83 = .ok (.goto 25, 3) := by decide +kernel
theorem dX9_count_86 : decode cX9_count 86 = .ok (.iload_n 1, 1) := by decide +kernel
theorem dX9_count_87 : decode cX9_count 87 = .ok (.iconst 4, 1) := by decide +kernel
theorem dX9_count_88 : decode cX9_count 88 = .ok (.if_icmp .ne 7, 3) := by decide +kernel
theorem dX9_count_91 : decode cX9_count 91 = .ok (.iload_n 2, 1) := by decide +kernel
theorem dX9_count_92 : decode cX9_count 92 = .ok (.goto 16, 3) := by decide +kernel
theorem dX9_count_95 : decode cX9_count 95 = .ok (.iload_n 1, 1) := by decide +kernel
theorem dX9_count_96 : decode cX9_count 96 = .ok (.iconst 5, 1) := by decide +kernel
theorem dX9_count_97 : decode cX9_count 97 = .ok (.if_icmp .ne 10, 3) := by decide +kernel
theorem dX9_count_100 : decode cX9_count 100 = .ok (.aload_n 0, 1) := by decide +kernel
theorem dX9_count_101 : decode cX9_count 101 = .ok (.getfield 29, 3) := by decide +kernel
theorem dX9_count_104 : decode cX9_count 104 = .ok (.goto 4, 3) := by decide +kernel
theorem dX9_count_107 : decode cX9_count 107 = .ok (.iconst (-1), 1) := by decide +kernel
theorem dX9_count_108 : decode cX9_count 108 = .ok (.ireturn, 1) := by decide +kernel
