theorem dX9_init_0 : decode cX9_init 0 = .ok (.aload_n 0, 1) := by decide +kernel
theorem dX9_init_1 : decode cX9_init 1 = .ok (.invokespecial 3, 3) := by decide +kernel
theorem dX9_init_4 : decode cX9_init 4 = .ok (.aload_n 0, 1) := by decide +kernel
theorem dX9_init_5 : decode cX9_init 5 = .ok (.new 9, 3) := by decide +kernel
theorem dX9_init_8 : decode cX9_init 8 = .ok (.dup, 1) := by decide +kernel
theorem dX9_init_9 : decode cX9_init 9 = .ok (.invokespecial 11, 3) := by decide +kernel
theorem dX9_init_12 : decode cX9_init 12 = .ok (.putfield 12, 3) := by decide +kernel
theorem dX9_init_15 : decode cX9_init 15 = .ok (.aload_n 0, 1) := by decide +kernel
theorem dX9_init_16 : decode cX9_init 16 = .ok (.new 9, 3) := by decide +kernel
theorem dX9_init_19 : decode cX9_init 19 = .ok (.dup, 1) := by decide +kernel
theorem dX9_init_20 : decode cX9_init 20 = .ok (.invokespecial 11, 3) := by decide +kernel
theorem dX9_init_23 : decode cX9_init 23 = .ok (.putfield 16, 3) := by decide +kernel
theorem dX9_init_26 : decode cX9_init 26 = .ok (.aload_n 0, 1) := by decide +kernel
theorem dX9_init_27 : decode cX9_init 27 = .ok (.new 19, 3) := by decide +kernel
theorem dX9_init_30 : decode cX9_init 30 = .ok (.dup, 1) := by decide +kernel
theorem dX9_init_31 : decode cX9_init 31 = .ok (.invokespecial 21, 3) := by decide +kernel
theorem dX9_init_34 : decode cX9_init 34 = .ok (.putfield 22, 3) := by decide +kernel
theorem dX9_init_37 : decode cX9_init 37 = .ok (.aload_n 0, 1) := by decide +kernel
theorem dX9_init_38 : decode cX9_init 38 = .ok (.new 26, 3) := by decide +kernel
theorem dX9_init_41 : decode cX9_init 41 = .ok (.dup, 1) := by decide +kernel
theorem dX9_init_42 : decode cX9_init 42 = .ok (.invokespecial 28, 3) := by decide +kernel
theorem dX9_init_45 : decode cX9_init 45 = .ok (.putfield 29, 3) := by decide +kernel
theorem dX9_init_48 : decode cX9_init 48 = .ok (.aload_n 0, 1) := by decide +kernel
theorem dX9_init_49 : decode cX9_init 49 = .ok (.iconst 2, 1) := by decide +kernel
theorem dX9_init_50 : decode cX9_init 50 = .ok (.anewarray 9, 3) := by decide +kernel
theorem dX9_init_53 : decode cX9_init 53 = .ok (.putfield 33, 3) := by decide +kernel
theorem dX9_init_56 : decode cX9_init 56 = .ok (.aload_n 0, 1) := by decide +kernel
theorem dX9_init_57 : decode cX9_init 57 = .ok (.iconst 2, 1) := by decide +kernel
theorem dX9_init_58 : decode cX9_init 58 = .ok (.newarray .boolean, 2) := by decide +kernel
theorem dX9_init_60 : decode cX9_init 60 = .ok (.putfield 37, 3) := by decide +kernel
theorem dX9_init_63 : decode cX9_init 63 = .ok (.aload_n 0, 1) := by decide +kernel
theorem dX9_init_64 : decode cX9_init 64 = .ok (.new 41, 3) := by decide +kernel
theorem dX9_init_67 : decode cX9_init 67 = .ok (.dup, 1) := by decide +kernel
theorem dX9_init_68 : decode cX9_init 68 = .ok (.invokespecial 43, 3) := by decide +kernel
theorem dX9_init_71 : decode cX9_init 71 = .ok (.putfield 44, 3) := by decide +kernel
theorem dX9_init_74 : decode cX9_init 74 = .ok (.aload_n 0, 1) := by decide +kernel
theorem dX9_init_75 : decode cX9_init 75 = .ok (.new 48, 3) := by decide +kernel
theorem dX9_init_78 : decode cX9_init 78 = .ok (.dup, 1) := by decide +kernel
theorem dX9_init_79 : decode cX9_init 79 = .ok (.invokespecial 50, 3) := by decide +kernel
theorem dX9_init_82 : decode cX9_init 82 = .ok (.putfield 51, 3) := by decide +kernel
theorem dX9_init_85 : decode cX9_init 85 = .ok (.aload_n 0, 1) := by decide +kernel
theorem dX9_init_86 : decode cX9_init 86 = .ok (.new 48, 3) := by decide +kernel
theorem dX9_init_89 : decode cX9_init 89 = .ok (.dup, 1) := by decide +kernel
theorem dX9_init_90 : decode cX9_init 90 = .ok (.invokespecial 50, 3) := by decide +kernel
theorem dX9_init_93 : decode cX9_init 93 = .ok (.putfield 55, 3) := by decide +kernel
theorem dX9_init_96 : decode cX9_init 96 = .ok (.aload_n 0, 1) := by decide +kernel
theorem dX9_init_97 : decode cX9_init 97 = .ok (.new 58, 3) := by decide +kernel
theorem dX9_init_100 : decode cX9_init 100 = .ok (.dup, 1) := by decide +kernel
theorem dX9_init_101 : decode cX9_init 101 = .ok (.invokespecial 60, 3) := by decide +kernel
theorem dX9_init_104 : decode cX9_init 104 = .ok (.putfield 61, 3) := by decide +kernel
theorem dX9_init_107 : decode cX9_init 107 = .ok (.iconst 0, 1) := by decide +kernel
theorem dX9_init_108 : decode cX9_init 108 = .ok (.istore_n 1, 1) := by decide +kernel
theorem dX9_init_109 : decode cX9_init 109 = .ok (.iload_n 1, 1) := by decide +kernel
theorem dX9_init_110 : decode cX9_init 110 = .ok (.iconst 2, 1) := by decide +kernel
theorem dX9_init_111 : decode cX9_init 111 = .ok (.if_icmp .ge 22, 3) := by decide +kernel
theorem dX9_init_114 : decode cX9_init 114 = .ok (.aload_n 0, 1) := by decide +kernel
theorem dX9_init_115 : decode cX9_init 115 = .ok (.getfield 33, 3) := by decide +kernel
theorem dX9_init_118 : decode cX9_init 118 = .ok (.iload_n 1, 1) := by decide +kernel
theorem dX9_init_119 : decode cX9_init 119 = .ok (.new 9, 3) := by decide +kernel
theorem dX9_init_122 : decode cX9_init 122 = .ok (.dup, 1) := by decide +kernel
theorem dX9_init_123 : decode cX9_init 123 = .ok (.invokespecial 11, 3) := by decide +kernel
theorem dX9_init_126 : decode cX9_init 126 = .ok (.aastore, 1) := by decide +kernel
theorem dX9_init_127 : decode cX9_init 127 = .ok (.iinc 1 1, 3) := by decide +kernel
theorem dX9_init_130 : decode cX9_init 130 = .ok (.goto (-21), 3) := by decide +kernel
theorem dX9_init_133 : decode cX9_init 133 = .ok (.aload_n 0, 1) := by decide +kernel
theorem dX9_init_134 : decode cX9_init 134 = .ok (.getfield 12, 3) := by decide +kernel
theorem dX9_init_137 : decode cX9_init 137 = .ok (.invokevirtual 65, 3) := by decide +kernel
theorem dX9_init_140 : decode cX9_init 140 = .ok (.aload_n 0, 1) := by decide +kernel
theorem dX9_init_141 : decode cX9_init 141 = .ok (.getfield 12, 3) := by decide +kernel
theorem dX9_init_144 : decode cX9_init 144 = .ok (.iconst 1, 1) := by decide +kernel
theorem dX9_init_145 : decode cX9_init 145 = .ok (.putfield 68, 3) := by decide +kernel
theorem dX9_init_148 : decode cX9_init 148 = .ok (.aload_n 0, 1) := by decide +kernel
theorem dX9_init_149 : decode cX9_init 149 = .ok (.getfield 12, 3) := by decide +kernel
theorem dX9_init_152 : decode cX9_init 152 = .ok (.getfield 72, 3) := by decide +kernel
theorem dX9_init_155 : decode cX9_init 155 = .ok (.iconst 0, 1) := by decide +kernel
theorem dX9_init_156 : decode cX9_init 156 = .ok (.iconst 4, 1) := by decide +kernel
theorem dX9_init_157 : decode cX9_init 157 = .ok (.iastore, 1) := by decide +kernel
theorem dX9_init_158 : decode cX9_init 158 = .ok (.return_, 1) := by decide +kernel
theorem dX9_append_0 : decode cX9_append 0 = .ok (.aload_n 0, 1) := by decide +kernel
theorem dX9_append_1 : decode cX9_append 1 = .ok (.getfield 22, 3) := by decide +kernel
theorem dX9_append_4 : decode cX9_append 4 = .ok (.lload_n 1, 1) := by decide +kernel
theorem dX9_append_5 : decode cX9_append 5 = .ok (.invokevirtual 76, 3) := by decide +kernel
theorem dX9_append_8 : decode cX9_append 8 = .ok (.ireturn, 1) := by decide +kernel
theorem dX9_load_0 : decode cX9_load 0 = .ok (.aload_n 0, 1) := by decide +kernel
theorem dX9_load_1 : decode cX9_load 1 = .ok (.getfield 22, 3) := by decide +kernel
theorem dX9_load_4 : decode cX9_load 4 = .ok (.aload_n 0, 1) := by decide +kernel
theorem dX9_load_5 : decode cX9_load 5 = .ok (.getfield 16, 3) := by decide +kernel
theorem dX9_load_8 : decode cX9_load 8 = .ok (.invokevirtual 80, 3) := by decide +kernel
theorem dX9_load_11 : decode cX9_load 11 = .ok (.istore_n 1, 1) := by decide +kernel
theorem dX9_load_12 : decode cX9_load 12 = .ok (.aload_n 0, 1) := by decide +kernel
theorem dX9_load_13 : decode cX9_load 13 = .ok (.getfield 22, 3) := by decide +kernel
theorem dX9_load_16 : decode cX9_load 16 = .ok (.iconst 0, 1) := by decide +kernel
theorem dX9_load_17 : decode cX9_load 17 = .ok (.putfield 84, 3) := by decide +kernel
theorem dX9_load_20 : decode cX9_load 20 = .ok (.iload_n 1, 1) := by decide +kernel
theorem dX9_load_21 : decode cX9_load 21 = .ok (.ifCond .ne 14, 3) := by decide +kernel
theorem dX9_load_24 : decode cX9_load 24 = .ok (.bipush (-100), 2) := by decide +kernel
theorem dX9_load_26 : decode cX9_load 26 = .ok (.aload_n 0, 1) := by decide +kernel
theorem dX9_load_27 : decode cX9_load 27 = .ok (.getfield 22, 3) := by decide +kernel
theorem dX9_load_30 : decode cX9_load 30 = .ok (.getfield 87, 3) := by decide +kernel
theorem dX9_load_33 : decode cX9_load 33 = .ok (.isub, 1) := by decide +kernel
theorem dX9_load_34 : decode cX9_load 34 = .ok (.ireturn, 1) := by decide +kernel
theorem dX9_load_35 : decode cX9_load 35 = .ok (.aload_n 0, 1) := by decide +kernel
theorem dX9_load_36 : decode cX9_load 36 = .ok (.getfield 12, 3) := by decide +kernel
theorem dX9_load_39 : decode cX9_load 39 = .ok (.aload_n 0, 1) := by decide +kernel
theorem dX9_load_40 : decode cX9_load 40 = .ok (.getfield 16, 3) := by decide +kernel
theorem dX9_load_43 : decode cX9_load 43 = .ok (.invokevirtual 90, 3) := by decide +kernel
theorem dX9_load_46 : decode cX9_load 46 = .ok (.aload_n 0, 1) := by decide +kernel
theorem dX9_load_47 : decode cX9_load 47 = .ok (.getfield 29, 3) := by decide +kernel
theorem dX9_load_50 : decode cX9_load 50 = .ok (.invokevirtual 94, 3) := by decide +kernel
theorem dX9_load_53 : decode cX9_load 53 = .ok (.aload_n 0, 1) := by decide +kernel
theorem dX9_load_54 : decode cX9_load 54 = .ok (.getfield 12, 3) := by decide +kernel
theorem dX9_load_57 : decode cX9_load 57 = .ok (.getfield 97, 3) := by decide +kernel
theorem dX9_load_60 : decode cX9_load 60 = .ok (.getfield 101, 3) := by decide +kernel
theorem dX9_load_63 : decode cX9_load 63 = .ok (.ireturn, 1) := by decide +kernel
theorem dX9_size_0 : decode cX9_size 0 = .ok (.iload_n 1, 1) := by decide +kernel
theorem dX9_size_1 : decode cX9_size 1 = .ok (.tableswitch 239 0 14 #[75, 83, 98, 117, 133, 144, 155, 166, 177, 188, 199, 207, 215, 223, 231], 75) := by decide +kernel
theorem dX9_size_76 : decode cX9_size 76 = .ok (.aload_n 0, 1) := by decide +kernel
theorem dX9_size_77 : decode cX9_size 77 = .ok (.getfield 12, 3) := by decide +kernel
theorem dX9_size_80 : decode cX9_size 80 = .ok (.getfield 68, 3) := by decide +kernel
theorem dX9_size_83 : decode cX9_size 83 = .ok (.ireturn, 1) := by decide +kernel
theorem dX9_size_84 : decode cX9_size 84 = .ok (.aload_n 0, 1) := by decide +kernel
theorem dX9_size_85 : decode cX9_size 85 = .ok (.getfield 12, 3) := by decide +kernel
theorem dX9_size_88 : decode cX9_size 88 = .ok (.aload_n 0, 1) := by decide +kernel
theorem dX9_size_89 : decode cX9_size 89 = .ok (.getfield 12, 3) := by decide +kernel
theorem dX9_size_92 : decode cX9_size 92 = .ok (.getfield 68, 3) := by decide +kernel
theorem dX9_size_95 : decode cX9_size 95 = .ok (.invokevirtual 112, 3) := by decide +kernel
theorem dX9_size_98 : decode cX9_size 98 = .ok (.ireturn, 1) := by decide +kernel
theorem dX9_size_99 : decode cX9_size 99 = .ok (.aload_n 0, 1) := by decide +kernel
theorem dX9_size_100 : decode cX9_size 100 = .ok (.getfield 12, 3) := by decide +kernel
theorem dX9_size_103 : decode cX9_size 103 = .ok (.getfield 116, 3) := by decide +kernel
theorem dX9_size_106 : decode cX9_size 106 = .ok (.getfield 120, 3) := by decide +kernel
theorem dX9_size_109 : decode cX9_size 109 = .ok (.ifCond .eq 7, 3) := by decide +kernel
theorem dX9_size_112 : decode cX9_size 112 = .ok (.iconst 1, 1) := by decide +kernel
theorem dX9_size_113 : decode cX9_size 113 = .ok (.goto 4, 3) := by decide +kernel
theorem dX9_size_116 : decode cX9_size 116 = .ok (.iconst 0, 1) := by decide +kernel
theorem dX9_size_117 : decode cX9_size 117 = .ok (.ireturn, 1) := by decide +kernel
theorem dX9_size_118 : decode cX9_size 118 = .ok (.aload_n 0, 1) := by decide +kernel
theorem dX9_size_119 : decode cX9_size 119 = .ok (.getfield 12, 3) := by decide +kernel
theorem dX9_size_122 : decode cX9_size 122 = .ok (.getfield 126, 3) := by decide +kernel
theorem dX9_size_125 : decode cX9_size 125 = .ok (.ifCond .eq 7, 3) := by decide +kernel
theorem dX9_size_128 : decode cX9_size 128 = .ok (.iconst 1, 1) := by decide +kernel
theorem dX9_size_129 : decode cX9_size 129 = .ok (.goto 4, 3) := by decide +kernel
theorem dX9_size_132 : decode cX9_size 132 = .ok (.iconst 0, 1) := by decide +kernel
theorem dX9_size_133 : decode cX9_size 133 = .ok (.ireturn, 1) := by decide +kernel
theorem dX9_size_134 : decode cX9_size 134 = .ok (.aload_n 0, 1) := by decide +kernel
theorem dX9_size_135 : decode cX9_size 135 = .ok (.getfield 12, 3) := by decide +kernel
theorem dX9_size_138 : decode cX9_size 138 = .ok (.getfield 116, 3) := by decide +kernel
theorem dX9_size_141 : decode cX9_size 141 = .ok (.getfield 129, 3) := by decide +kernel
theorem dX9_size_144 : decode cX9_size 144 = .ok (.ireturn, 1) := by decide +kernel
theorem dX9_size_145 : decode cX9_size 145 = .ok (.aload_n 0, 1) := by decide +kernel
theorem dX9_size_146 : decode cX9_size 146 = .ok (.getfield 12, 3) := by decide +kernel
theorem dX9_size_149 : decode cX9_size 149 = .ok (.getfield 116, 3) := by decide +kernel
theorem dX9_size_152 : decode cX9_size 152 = .ok (.getfield 132, 3) := by decide +kernel
theorem dX9_size_155 : decode cX9_size 155 = .ok (.ireturn, 1) := by decide +kernel
theorem dX9_size_156 : decode cX9_size 156 = .ok (.aload_n 0, 1) := by decide +kernel
theorem dX9_size_157 : decode cX9_size 157 = .ok (.getfield 12, 3) := by decide +kernel
theorem dX9_size_160 : decode cX9_size 160 = .ok (.getfield 97, 3) := by decide +kernel
theorem dX9_size_163 : decode cX9_size 163 = .ok (.getfield 101, 3) := by decide +kernel
theorem dX9_size_166 : decode cX9_size 166 = .ok (.ireturn, 1) := by decide +kernel
theorem dX9_size_167 : decode cX9_size 167 = .ok (.aload_n 0, 1) := by decide +kernel
theorem dX9_size_168 : decode cX9_size 168 = .ok (.getfield 12, 3) := by decide +kernel
theorem dX9_size_171 : decode cX9_size 171 = .ok (.getfield 116, 3) := by decide +kernel
theorem dX9_size_174 : decode cX9_size 174 = .ok (.getfield 135, 3) := by decide +kernel
theorem dX9_size_177 : decode cX9_size 177 = .ok (.ireturn, 1) := by decide +kernel
theorem dX9_size_178 : decode cX9_size 178 = .ok (.aload_n 0, 1) := by decide +kernel
theorem dX9_size_179 : decode cX9_size 179 = .ok (.getfield 12, 3) := by decide +kernel
theorem dX9_size_182 : decode cX9_size 182 = .ok (.getfield 138, 3) := by decide +kernel
theorem dX9_size_185 : decode cX9_size 185 = .ok (.getfield 141, 3) := by decide +kernel
theorem dX9_size_188 : decode cX9_size 188 = .ok (.ireturn, 1) := by decide +kernel
theorem dX9_size_189 : decode cX9_size 189 = .ok (.aload_n 0, 1) := by decide +kernel
theorem dX9_size_190 : decode cX9_size 190 = .ok (.getfield 12, 3) := by decide +kernel
theorem dX9_size_193 : decode cX9_size 193 = .ok (.getfield 138, 3) := by decide +kernel
theorem dX9_size_196 : decode cX9_size 196 = .ok (.invokevirtual 144, 3) := by decide +kernel
theorem dX9_size_199 : decode cX9_size 199 = .ok (.ireturn, 1) := by decide +kernel
theorem dX9_size_200 : decode cX9_size 200 = .ok (.aload_n 0, 1) := by decide +kernel
theorem dX9_size_201 : decode cX9_size 201 = .ok (.getfield 12, 3) := by decide +kernel
theorem dX9_size_204 : decode cX9_size 204 = .ok (.getfield 148, 3) := by decide +kernel
theorem dX9_size_207 : decode cX9_size 207 = .ok (.ireturn, 1) := by decide +kernel
theorem dX9_size_208 : decode cX9_size 208 = .ok (.aload_n 0, 1) := by decide +kernel
theorem dX9_size_209 : decode cX9_size 209 = .ok (.getfield 12, 3) := by decide +kernel
theorem dX9_size_212 : decode cX9_size 212 = .ok (.getfield 151, 3) := by decide +kernel
theorem dX9_size_215 : decode cX9_size 215 = .ok (.ireturn, 1) := by decide +kernel
theorem dX9_size_216 : decode cX9_size 216 = .ok (.aload_n 0, 1) := by decide +kernel
theorem dX9_size_217 : decode cX9_size 217 = .ok (.getfield 12, 3) := by decide +kernel
theorem dX9_size_220 : decode cX9_size 220 = .ok (.getfield 154, 3) := by decide +kernel
theorem dX9_size_223 : decode cX9_size 223 = .ok (.ireturn, 1) := by decide +kernel
theorem dX9_size_224 : decode cX9_size 224 = .ok (.aload_n 0, 1) := by decide +kernel
theorem dX9_size_225 : decode cX9_size 225 = .ok (.getfield 12, 3) := by decide +kernel
theorem dX9_size_228 : decode cX9_size 228 = .ok (.getfield 157, 3) := by decide +kernel
theorem dX9_size_231 : decode cX9_size 231 = .ok (.ireturn, 1) := by decide +kernel
theorem dX9_size_232 : decode cX9_size 232 = .ok (.aload_n 0, 1) := by decide +kernel
theorem dX9_size_233 : decode cX9_size 233 = .ok (.getfield 29, 3) := by decide +kernel
theorem dX9_size_236 : decode cX9_size 236 = .ok (.getfield 160, 3) := by decide +kernel
theorem dX9_size_239 : decode cX9_size 239 = .ok (.ireturn, 1) := by decide +kernel
theorem dX9_size_240 : decode cX9_size 240 = .ok (.new 163, 3) := by decide +kernel
theorem dX9_size_243 : decode cX9_size 243 = .ok (.dup, 1) := by decide +kernel
theorem dX9_size_244 : decode cX9_size 244 = .ok (.ldc 165, 2) := by decide +kernel
theorem dX9_size_246 : decode cX9_size 246 = .ok (.invokespecial 167, 3) := by decide +kernel
theorem dX9_size_249 : decode cX9_size 249 = .ok (.athrow, 1) := by decide +kernel
theorem dX9_card_0 : decode cX9_card 0 = .ok (.aload_n 0, 1) := by decide +kernel
theorem dX9_card_1 : decode cX9_card 1 = .ok (.iload_n 1, 1) := by decide +kernel
theorem dX9_card_2 : decode cX9_card 2 = .ok (.invokevirtual 170, 3) := by decide +kernel
theorem dX9_card_5 : decode cX9_card 5 = .ok (.istore_n 3, 1) := by decide +kernel
theorem dX9_card_6 : decode cX9_card 6 = .ok (.iload_n 2, 1) := by decide +kernel
theorem dX9_card_7 : decode cX9_card 7 = .ok (.tableswitch 79 0 3 #[29, 41, 53, 66], 29) := by decide +kernel
theorem dX9_card_36 : decode cX9_card 36 = .ok (.aload_n 0, 1) := by decide +kernel
theorem dX9_card_37 : decode cX9_card 37 = .ok (.getfield 12, 3) := by decide +kernel
theorem dX9_card_40 : decode cX9_card 40 = .ok (.getfield 116, 3) := by decide +kernel
theorem dX9_card_43 : decode cX9_card 43 = .ok (.iload_n 3, 1) := by decide +kernel
theorem dX9_card_44 : decode cX9_card 44 = .ok (.invokevirtual 173, 3) := by decide +kernel
theorem dX9_card_47 : decode cX9_card 47 = .ok (.ireturn, 1) := by decide +kernel
theorem dX9_card_48 : decode cX9_card 48 = .ok (.aload_n 0, 1) := by decide +kernel
theorem dX9_card_49 : decode cX9_card 49 = .ok (.getfield 12, 3) := by decide +kernel
theorem dX9_card_52 : decode cX9_card 52 = .ok (.getfield 116, 3) := by decide +kernel
theorem dX9_card_55 : decode cX9_card 55 = .ok (.iload_n 3, 1) := by decide +kernel
theorem dX9_card_56 : decode cX9_card 56 = .ok (.invokevirtual 176, 3) := by decide +kernel
theorem dX9_card_59 : decode cX9_card 59 = .ok (.ireturn, 1) := by decide +kernel
theorem dX9_card_60 : decode cX9_card 60 = .ok (.aload_n 0, 1) := by decide +kernel
theorem dX9_card_61 : decode cX9_card 61 = .ok (.getfield 12, 3) := by decide +kernel
theorem dX9_card_64 : decode cX9_card 64 = .ok (.getfield 116, 3) := by decide +kernel
theorem dX9_card_67 : decode cX9_card 67 = .ok (.getfield 179, 3) := by decide +kernel
theorem dX9_card_70 : decode cX9_card 70 = .ok (.iload_n 3, 1) := by decide +kernel
theorem dX9_card_71 : decode cX9_card 71 = .ok (.iaload, 1) := by decide +kernel
theorem dX9_card_72 : decode cX9_card 72 = .ok (.ireturn, 1) := by decide +kernel
theorem dX9_card_73 : decode cX9_card 73 = .ok (.aload_n 0, 1) := by decide +kernel
theorem dX9_card_74 : decode cX9_card 74 = .ok (.getfield 12, 3) := by decide +kernel
theorem dX9_card_77 : decode cX9_card 77 = .ok (.getfield 138, 3) := by decide +kernel
theorem dX9_card_80 : decode cX9_card 80 = .ok (.getfield 182, 3) := by decide +kernel
theorem dX9_card_83 : decode cX9_card 83 = .ok (.iload_n 3, 1) := by decide +kernel
theorem dX9_card_84 : decode cX9_card 84 = .ok (.iaload, 1) := by decide +kernel
theorem dX9_card_85 : decode cX9_card 85 = .ok (.ireturn, 1) := by decide +kernel
theorem dX9_card_86 : decode cX9_card 86 = .ok (.new 163, 3) := by decide +kernel
theorem dX9_card_89 : decode cX9_card 89 = .ok (.dup, 1) := by decide +kernel
theorem dX9_card_90 : decode cX9_card 90 = .ok (.ldc 165, 2) := by decide +kernel
theorem dX9_card_92 : decode cX9_card 92 = .ok (.invokespecial 167, 3) := by decide +kernel
theorem dX9_card_95 : decode cX9_card 95 = .ok (.athrow, 1) := by decide +kernel
theorem dX9_way_0 : decode cX9_way 0 = .ok (.aload_n 0, 1) := by decide +kernel
theorem dX9_way_1 : decode cX9_way 1 = .ok (.iload_n 1, 1) := by decide +kernel
theorem dX9_way_2 : decode cX9_way 2 = .ok (.invokevirtual 170, 3) := by decide +kernel
theorem dX9_way_5 : decode cX9_way 5 = .ok (.istore_n 3, 1) := by decide +kernel
theorem dX9_way_6 : decode cX9_way 6 = .ok (.iload_n 2, 1) := by decide +kernel
theorem dX9_way_7 : decode cX9_way 7 = .ok (.invokestatic 185, 3) := by decide +kernel
theorem dX9_way_10 : decode cX9_way 10 = .ok (.aload_n 0, 1) := by decide +kernel
theorem dX9_way_11 : decode cX9_way 11 = .ok (.getfield 12, 3) := by decide +kernel
theorem dX9_way_14 : decode cX9_way 14 = .ok (.getfield 116, 3) := by decide +kernel
theorem dX9_way_17 : decode cX9_way 17 = .ok (.iload_n 3, 1) := by decide +kernel
theorem dX9_way_18 : decode cX9_way 18 = .ok (.iload_n 2, 1) := by decide +kernel
theorem dX9_way_19 : decode cX9_way 19 = .ok (.invokevirtual 189, 3) := by decide +kernel
theorem dX9_way_22 : decode cX9_way 22 = .ok (.ireturn, 1) := by decide +kernel
theorem dX9_lends_0 : decode cX9_lends 0 = .ok (.aload_n 0, 1) := by decide +kernel
theorem dX9_lends_1 : decode cX9_lends 1 = .ok (.iload_n 1, 1) := by decide +kernel
theorem dX9_lends_2 : decode cX9_lends 2 = .ok (.invokevirtual 193, 3) := by decide +kernel
theorem dX9_lends_5 : decode cX9_lends 5 = .ok (.iload_n 2, 1) := by decide +kernel
theorem dX9_lends_6 : decode cX9_lends 6 = .ok (.invokestatic 185, 3) := by decide +kernel
theorem dX9_lends_9 : decode cX9_lends 9 = .ok (.aload_n 0, 1) := by decide +kernel
theorem dX9_lends_10 : decode cX9_lends 10 = .ok (.getfield 12, 3) := by decide +kernel
theorem dX9_lends_13 : decode cX9_lends 13 = .ok (.getfield 116, 3) := by decide +kernel
theorem dX9_lends_16 : decode cX9_lends 16 = .ok (.getfield 196, 3) := by decide +kernel
theorem dX9_lends_19 : decode cX9_lends 19 = .ok (.iload_n 1, 1) := by decide +kernel
theorem dX9_lends_20 : decode cX9_lends 20 = .ok (.bipush 10, 2) := by decide +kernel
theorem dX9_lends_22 : decode cX9_lends 22 = .ok (.imul, 1) := by decide +kernel
theorem dX9_lends_23 : decode cX9_lends 23 = .ok (.iload_n 2, 1) := by decide +kernel
theorem dX9_lends_24 : decode cX9_lends 24 = .ok (.iadd, 1) := by decide +kernel
theorem dX9_lends_25 : decode cX9_lends 25 = .ok (.iaload, 1) := by decide +kernel
theorem dX9_lends_26 : decode cX9_lends 26 = .ok (.ireturn, 1) := by decide +kernel
theorem dX9_loan_0 : decode cX9_loan 0 = .ok (.iload_n 1, 1) := by decide +kernel
theorem dX9_loan_1 : decode cX9_loan 1 = .ok (.iconst 0, 1) := by decide +kernel
theorem dX9_loan_2 : decode cX9_loan 2 = .ok (.aload_n 0, 1) := by decide +kernel
theorem dX9_loan_3 : decode cX9_loan 3 = .ok (.getfield 12, 3) := by decide +kernel
theorem dX9_loan_6 : decode cX9_loan 6 = .ok (.getfield 116, 3) := by decide +kernel
theorem dX9_loan_9 : decode cX9_loan 9 = .ok (.getfield 135, 3) := by decide +kernel
theorem dX9_loan_12 : decode cX9_loan 12 = .ok (.iconst 1, 1) := by decide +kernel
theorem dX9_loan_13 : decode cX9_loan 13 = .ok (.isub, 1) := by decide +kernel
theorem dX9_loan_14 : decode cX9_loan 14 = .ok (.invokestatic 199, 3) := by decide +kernel
theorem dX9_loan_17 : decode cX9_loan 17 = .ok (.invokestatic 203, 3) := by decide +kernel
theorem dX9_loan_20 : decode cX9_loan 20 = .ok (.iload_n 2, 1) := by decide +kernel
theorem dX9_loan_21 : decode cX9_loan 21 = .ok (.tableswitch 89 0 3 #[31, 47, 63, 76], 31) := by decide +kernel
theorem dX9_loan_52 : decode cX9_loan 52 = .ok (.aload_n 0, 1) := by decide +kernel
theorem dX9_loan_53 : decode cX9_loan 53 = .ok (.getfield 12, 3) := by decide +kernel
theorem dX9_loan_56 : decode cX9_loan 56 = .ok (.getfield 116, 3) := by decide +kernel
theorem dX9_loan_59 : decode cX9_loan 59 = .ok (.getfield 207, 3) := by decide +kernel
theorem dX9_loan_62 : decode cX9_loan 62 = .ok (.iload_n 1, 1) := by decide +kernel
theorem dX9_loan_63 : decode cX9_loan 63 = .ok (.iaload, 1) := by decide +kernel
theorem dX9_loan_64 : decode cX9_loan 64 = .ok (.bipush 10, 2) := by decide +kernel
theorem dX9_loan_66 : decode cX9_loan 66 = .ok (.idiv, 1) := by decide +kernel
theorem dX9_loan_67 : decode cX9_loan 67 = .ok (.ireturn, 1) := by decide +kernel
theorem dX9_loan_68 : decode cX9_loan 68 = .ok (.aload_n 0, 1) := by decide +kernel
theorem dX9_loan_69 : decode cX9_loan 69 = .ok (.getfield 12, 3) := by decide +kernel
theorem dX9_loan_72 : decode cX9_loan 72 = .ok (.getfield 116, 3) := by decide +kernel
theorem dX9_loan_75 : decode cX9_loan 75 = .ok (.getfield 207, 3) := by decide +kernel
theorem dX9_loan_78 : decode cX9_loan 78 = .ok (.iload_n 1, 1) := by decide +kernel
theorem dX9_loan_79 : decode cX9_loan 79 = .ok (.iaload, 1) := by decide +kernel
theorem dX9_loan_80 : decode cX9_loan 80 = .ok (.bipush 10, 2) := by decide +kernel
theorem dX9_loan_82 : decode cX9_loan 82 = .ok (.irem, 1) := by decide +kernel
theorem dX9_loan_83 : decode cX9_loan 83 = .ok (.ireturn, 1) := by decide +kernel
theorem dX9_loan_84 : decode cX9_loan 84 = .ok (.aload_n 0, 1) := by decide +kernel
theorem dX9_loan_85 : decode cX9_loan 85 = .ok (.getfield 12, 3) := by decide +kernel
theorem dX9_loan_88 : decode cX9_loan 88 = .ok (.getfield 116, 3) := by decide +kernel
theorem dX9_loan_91 : decode cX9_loan 91 = .ok (.getfield 210, 3) := by decide +kernel
theorem dX9_loan_94 : decode cX9_loan 94 = .ok (.iload_n 1, 1) := by decide +kernel
theorem dX9_loan_95 : decode cX9_loan 95 = .ok (.iaload, 1) := by decide +kernel
theorem dX9_loan_96 : decode cX9_loan 96 = .ok (.ireturn, 1) := by decide +kernel
theorem dX9_loan_97 : decode cX9_loan 97 = .ok (.aload_n 0, 1) := by decide +kernel
theorem dX9_loan_98 : decode cX9_loan 98 = .ok (.getfield 12, 3) := by decide +kernel
theorem dX9_loan_101 : decode cX9_loan 101 = .ok (.getfield 116, 3) := by decide +kernel
theorem dX9_loan_104 : decode cX9_loan 104 = .ok (.getfield 213, 3) := by decide +kernel
theorem dX9_loan_107 : decode cX9_loan 107 = .ok (.iload_n 1, 1) := by decide +kernel
theorem dX9_loan_108 : decode cX9_loan 108 = .ok (.iaload, 1) := by decide +kernel
theorem dX9_loan_109 : decode cX9_loan 109 = .ok (.ireturn, 1) := by decide +kernel
theorem dX9_loan_110 : decode cX9_loan 110 = .ok (.new 163, 3) := by decide +kernel
theorem dX9_loan_113 : decode cX9_loan 113 = .ok (.dup, 1) := by decide +kernel
theorem dX9_loan_114 : decode cX9_loan 114 = .ok (.ldc 165, 2) := by decide +kernel
theorem dX9_loan_116 : decode cX9_loan 116 = .ok (.invokespecial 167, 3) := by decide +kernel
theorem dX9_loan_119 : decode cX9_loan 119 = .ok (.athrow, 1) := by decide +kernel
theorem dX9_rows_0 : decode cX9_rows 0 = .ok (.iload_n 1, 1) := by decide +kernel
theorem dX9_rows_1 : decode cX9_rows 1 = .ok (.iconst 0, 1) := by decide +kernel
theorem dX9_rows_2 : decode cX9_rows 2 = .ok (.aload_n 0, 1) := by decide +kernel
theorem dX9_rows_3 : decode cX9_rows 3 = .ok (.getfield 12, 3) := by decide +kernel
theorem dX9_rows_6 : decode cX9_rows 6 = .ok (.getfield 68, 3) := by decide +kernel
theorem dX9_rows_9 : decode cX9_rows 9 = .ok (.iconst 1, 1) := by decide +kernel
theorem dX9_rows_10 : decode cX9_rows 10 = .ok (.isub, 1) := by decide +kernel
theorem dX9_rows_11 : decode cX9_rows 11 = .ok (.invokestatic 199, 3) := by decide +kernel
theorem dX9_rows_14 : decode cX9_rows 14 = .ok (.invokestatic 203, 3) := by decide +kernel
theorem dX9_rows_17 : decode cX9_rows 17 = .ok (.aload_n 0, 1) := by decide +kernel
theorem dX9_rows_18 : decode cX9_rows 18 = .ok (.getfield 12, 3) := by decide +kernel
theorem dX9_rows_21 : decode cX9_rows 21 = .ok (.getfield 72, 3) := by decide +kernel
theorem dX9_rows_24 : decode cX9_rows 24 = .ok (.iload_n 1, 1) := by decide +kernel
theorem dX9_rows_25 : decode cX9_rows 25 = .ok (.iaload, 1) := by decide +kernel
theorem dX9_rows_26 : decode cX9_rows 26 = .ok (.ireturn, 1) := by decide +kernel
theorem dX9_hymns_0 : decode cX9_hymns 0 = .ok (.aload_n 0, 1) := by decide +kernel
theorem dX9_hymns_1 : decode cX9_hymns 1 = .ok (.iload_n 1, 1) := by decide +kernel
theorem dX9_hymns_2 : decode cX9_hymns 2 = .ok (.invokevirtual 216, 3) := by decide +kernel
theorem dX9_hymns_5 : decode cX9_hymns 5 = .ok (.aload_n 0, 1) := by decide +kernel
theorem dX9_hymns_6 : decode cX9_hymns 6 = .ok (.getfield 12, 3) := by decide +kernel
theorem dX9_hymns_9 : decode cX9_hymns 9 = .ok (.getfield 97, 3) := by decide +kernel
theorem dX9_hymns_12 : decode cX9_hymns 12 = .ok (.getfield 219, 3) := by decide +kernel
theorem dX9_hymns_15 : decode cX9_hymns 15 = .ok (.iload_n 1, 1) := by decide +kernel
theorem dX9_hymns_16 : decode cX9_hymns 16 = .ok (.iaload, 1) := by decide +kernel
theorem dX9_hymns_17 : decode cX9_hymns 17 = .ok (.ireturn, 1) := by decide +kernel
theorem dX9_hymn_0 : decode cX9_hymn 0 = .ok (.aload_n 0, 1) := by decide +kernel
theorem dX9_hymn_1 : decode cX9_hymn 1 = .ok (.iload_n 1, 1) := by decide +kernel
theorem dX9_hymn_2 : decode cX9_hymn 2 = .ok (.invokevirtual 216, 3) := by decide +kernel
theorem dX9_hymn_5 : decode cX9_hymn 5 = .ok (.aload_n 0, 1) := by decide +kernel
theorem dX9_hymn_6 : decode cX9_hymn 6 = .ok (.getfield 12, 3) := by decide +kernel
theorem dX9_hymn_9 : decode cX9_hymn 9 = .ok (.getfield 97, 3) := by decide +kernel
theorem dX9_hymn_12 : decode cX9_hymn 12 = .ok (.iload_n 1, 1) := by decide +kernel
theorem dX9_hymn_13 : decode cX9_hymn 13 = .ok (.iload_n 2, 1) := by decide +kernel
theorem dX9_hymn_14 : decode cX9_hymn 14 = .ok (.invokevirtual 221, 3) := by decide +kernel
theorem dX9_hymn_17 : decode cX9_hymn 17 = .ok (.ireturn, 1) := by decide +kernel
theorem dX9_place_0 : decode cX9_place 0 = .ok (.aload_n 0, 1) := by decide +kernel
theorem dX9_place_1 : decode cX9_place 1 = .ok (.iload_n 1, 1) := by decide +kernel
theorem dX9_place_2 : decode cX9_place 2 = .ok (.iload_n 2, 1) := by decide +kernel
theorem dX9_place_3 : decode cX9_place 3 = .ok (.invokevirtual 224, 3) := by decide +kernel
theorem dX9_place_6 : decode cX9_place 6 = .ok (.iload_n 3, 1) := by decide +kernel
theorem dX9_place_7 : decode cX9_place 7 = .ok (.iconst 0, 1) := by decide +kernel
theorem dX9_place_8 : decode cX9_place 8 = .ok (.iconst 2, 1) := by decide +kernel
theorem dX9_place_9 : decode cX9_place 9 = .ok (.invokestatic 199, 3) := by decide +kernel
theorem dX9_place_12 : decode cX9_place 12 = .ok (.invokestatic 228, 3) := by decide +kernel
theorem dX9_place_15 : decode cX9_place 15 = .ok (.iload_n 1, 1) := by decide +kernel
theorem dX9_place_16 : decode cX9_place 16 = .ok (.bipush 6, 2) := by decide +kernel
theorem dX9_place_18 : decode cX9_place 18 = .ok (.imul, 1) := by decide +kernel
theorem dX9_place_19 : decode cX9_place 19 = .ok (.iload_n 2, 1) := by decide +kernel
theorem dX9_place_20 : decode cX9_place 20 = .ok (.iadd, 1) := by decide +kernel
theorem dX9_place_21 : decode cX9_place 21 = .ok (.iconst 3, 1) := by decide +kernel
theorem dX9_place_22 : decode cX9_place 22 = .ok (.imul, 1) := by decide +kernel
theorem dX9_place_23 : decode cX9_place 23 = .ok (.iload_n 3, 1) := by decide +kernel
theorem dX9_place_24 : decode cX9_place 24 = .ok (.iadd, 1) := by decide +kernel
theorem dX9_place_25 : decode cX9_place 25 = .ok (.istore 5, 2) := by decide +kernel
theorem dX9_place_27 : decode cX9_place 27 = .ok (.iload 4, 2) := by decide +kernel
theorem dX9_place_29 : decode cX9_place 29 = .ok (.tableswitch 72 0 2 #[27, 41, 58], 27) := by decide +kernel
theorem dX9_place_56 : decode cX9_place 56 = .ok (.aload_n 0, 1) := by decide +kernel
theorem dX9_place_57 : decode cX9_place 57 = .ok (.getfield 12, 3) := by decide +kernel
theorem dX9_place_60 : decode cX9_place 60 = .ok (.getfield 138, 3) := by decide +kernel
theorem dX9_place_63 : decode cX9_place 63 = .ok (.getfield 231, 3) := by decide +kernel
theorem dX9_place_66 : decode cX9_place 66 = .ok (.iload 5, 2) := by decide +kernel
theorem dX9_place_68 : decode cX9_place 68 = .ok (.iaload, 1) := by decide +kernel
theorem dX9_place_69 : decode cX9_place 69 = .ok (.ireturn, 1) := by decide +kernel
theorem dX9_place_70 : decode cX9_place 70 = .ok (.aload_n 0, 1) := by decide +kernel
theorem dX9_place_71 : decode cX9_place 71 = .ok (.getfield 12, 3) := by decide +kernel
theorem dX9_place_74 : decode cX9_place 74 = .ok (.getfield 138, 3) := by decide +kernel
theorem dX9_place_77 : decode cX9_place 77 = .ok (.getfield 234, 3) := by decide +kernel
theorem dX9_place_80 : decode cX9_place 80 = .ok (.iload 5, 2) := by decide +kernel
theorem dX9_place_82 : decode cX9_place 82 = .ok (.iaload, 1) := by decide +kernel
theorem dX9_place_83 : decode cX9_place 83 = .ok (.invokestatic 237, 3) := by decide +kernel
theorem dX9_place_86 : decode cX9_place 86 = .ok (.ireturn, 1) := by decide +kernel
theorem dX9_place_87 : decode cX9_place 87 = .ok (.aload_n 0, 1) := by decide +kernel
theorem dX9_place_88 : decode cX9_place 88 = .ok (.getfield 12, 3) := by decide +kernel
theorem dX9_place_91 : decode cX9_place 91 = .ok (.getfield 138, 3) := by decide +kernel
theorem dX9_place_94 : decode cX9_place 94 = .ok (.getfield 240, 3) := by decide +kernel
theorem dX9_place_97 : decode cX9_place 97 = .ok (.iload 5, 2) := by decide +kernel
theorem dX9_place_99 : decode cX9_place 99 = .ok (.iaload, 1) := by decide +kernel
theorem dX9_place_100 : decode cX9_place 100 = .ok (.ireturn, 1) := by decide +kernel
theorem dX9_place_101 : decode cX9_place 101 = .ok (.new 163, 3) := by decide +kernel
theorem dX9_place_104 : decode cX9_place 104 = .ok (.dup, 1) := by decide +kernel
theorem dX9_place_105 : decode cX9_place 105 = .ok (.ldc 165, 2) := by decide +kernel
theorem dX9_place_107 : decode cX9_place 107 = .ok (.invokespecial 167, 3) := by decide +kernel
theorem dX9_place_110 : decode cX9_place 110 = .ok (.athrow, 1) := by decide +kernel
theorem dX9_hung_0 : decode cX9_hung 0 = .ok (.aload_n 0, 1) := by decide +kernel
theorem dX9_hung_1 : decode cX9_hung 1 = .ok (.iload_n 1, 1) := by decide +kernel
theorem dX9_hung_2 : decode cX9_hung 2 = .ok (.iload_n 2, 1) := by decide +kernel
theorem dX9_hung_3 : decode cX9_hung 3 = .ok (.invokevirtual 224, 3) := by decide +kernel
theorem dX9_hung_6 : decode cX9_hung 6 = .ok (.aload_n 0, 1) := by decide +kernel
theorem dX9_hung_7 : decode cX9_hung 7 = .ok (.getfield 12, 3) := by decide +kernel
theorem dX9_hung_10 : decode cX9_hung 10 = .ok (.getfield 138, 3) := by decide +kernel
theorem dX9_hung_13 : decode cX9_hung 13 = .ok (.getfield 243, 3) := by decide +kernel
theorem dX9_hung_16 : decode cX9_hung 16 = .ok (.iload_n 1, 1) := by decide +kernel
theorem dX9_hung_17 : decode cX9_hung 17 = .ok (.bipush 6, 2) := by decide +kernel
theorem dX9_hung_19 : decode cX9_hung 19 = .ok (.imul, 1) := by decide +kernel
theorem dX9_hung_20 : decode cX9_hung 20 = .ok (.iload_n 2, 1) := by decide +kernel
theorem dX9_hung_21 : decode cX9_hung 21 = .ok (.iadd, 1) := by decide +kernel
theorem dX9_hung_22 : decode cX9_hung 22 = .ok (.iaload, 1) := by decide +kernel
theorem dX9_hung_23 : decode cX9_hung 23 = .ok (.ireturn, 1) := by decide +kernel
theorem dX9_holes_0 : decode cX9_holes 0 = .ok (.aload_n 0, 1) := by decide +kernel
theorem dX9_holes_1 : decode cX9_holes 1 = .ok (.getfield 12, 3) := by decide +kernel
theorem dX9_holes_4 : decode cX9_holes 4 = .ok (.getfield 138, 3) := by decide +kernel
theorem dX9_holes_7 : decode cX9_holes 7 = .ok (.invokevirtual 246, 3) := by decide +kernel
theorem dX9_holes_10 : decode cX9_holes 10 = .ok (.ireturn, 1) := by decide +kernel
theorem dX9_free_0 : decode cX9_free 0 = .ok (.iload_n 1, 1) := by decide +kernel
theorem dX9_free_1 : decode cX9_free 1 = .ok (.invokestatic 185, 3) := by decide +kernel
theorem dX9_free_4 : decode cX9_free 4 = .ok (.iconst 0, 1) := by decide +kernel
theorem dX9_free_5 : decode cX9_free 5 = .ok (.istore_n 2, 1) := by decide +kernel
theorem dX9_free_6 : decode cX9_free 6 = .ok (.iconst 0, 1) := by decide +kernel
theorem dX9_free_7 : decode cX9_free 7 = .ok (.istore_n 3, 1) := by decide +kernel
theorem dX9_free_8 : decode cX9_free 8 = .ok (.iload_n 3, 1) := by decide +kernel
theorem dX9_free_9 : decode cX9_free 9 = .ok (.bipush 42, 2) := by decide +kernel
theorem dX9_free_11 : decode cX9_free 11 = .ok (.if_icmp .ge 52, 3) := by decide +kernel
theorem dX9_free_14 : decode cX9_free 14 = .ok (.aload_n 0, 1) := by decide +kernel
theorem dX9_free_15 : decode cX9_free 15 = .ok (.getfield 12, 3) := by decide +kernel
theorem dX9_free_18 : decode cX9_free 18 = .ok (.getfield 116, 3) := by decide +kernel
theorem dX9_free_21 : decode cX9_free 21 = .ok (.iload_n 3, 1) := by decide +kernel
theorem dX9_free_22 : decode cX9_free 22 = .ok (.iload_n 1, 1) := by decide +kernel
theorem dX9_free_23 : decode cX9_free 23 = .ok (.invokevirtual 249, 3) := by decide +kernel
theorem dX9_free_26 : decode cX9_free 26 = .ok (.ifCond .eq 31, 3) := by decide +kernel
theorem dX9_free_29 : decode cX9_free 29 = .ok (.iload_n 2, 1) := by decide +kernel
theorem dX9_free_30 : decode cX9_free 30 = .ok (.aload_n 0, 1) := by decide +kernel
theorem dX9_free_31 : decode cX9_free 31 = .ok (.getfield 12, 3) := by decide +kernel
theorem dX9_free_34 : decode cX9_free 34 = .ok (.getfield 116, 3) := by decide +kernel
theorem dX9_free_37 : decode cX9_free 37 = .ok (.getfield 179, 3) := by decide +kernel
theorem dX9_free_40 : decode cX9_free 40 = .ok (.iload_n 3, 1) := by decide +kernel
theorem dX9_free_41 : decode cX9_free 41 = .ok (.iaload, 1) := by decide +kernel
theorem dX9_free_42 : decode cX9_free 42 = .ok (.aload_n 0, 1) := by decide +kernel
theorem dX9_free_43 : decode cX9_free 43 = .ok (.getfield 12, 3) := by decide +kernel
theorem dX9_free_46 : decode cX9_free 46 = .ok (.getfield 138, 3) := by decide +kernel
theorem dX9_free_49 : decode cX9_free 49 = .ok (.getfield 182, 3) := by decide +kernel
theorem dX9_free_52 : decode cX9_free 52 = .ok (.iload_n 3, 1) := by decide +kernel
theorem dX9_free_53 : decode cX9_free 53 = .ok (.iaload, 1) := by decide +kernel
theorem dX9_free_54 : decode cX9_free 54 = .ok (.isub, 1) := by decide +kernel
theorem dX9_free_55 : decode cX9_free 55 = .ok (.iadd, 1) := by decide +kernel
theorem dX9_free_56 : decode cX9_free 56 = .ok (.istore_n 2, 1) := by decide +kernel
theorem dX9_free_57 : decode cX9_free 57 = .ok (.iinc 3 1, 3) := by decide +kernel
theorem dX9_free_60 : decode cX9_free 60 = .ok (.goto (-52), 3) := by decide +kernel
theorem dX9_free_63 : decode cX9_free 63 = .ok (.iload_n 2, 1) := by decide +kernel
theorem dX9_free_64 : decode cX9_free 64 = .ok (.ireturn, 1) := by decide +kernel
theorem dX9_canShow_0 : decode cX9_canShow 0 = .ok (.iload_n 1, 1) := by decide +kernel
theorem dX9_canShow_1 : decode cX9_canShow 1 = .ok (.invokestatic 253, 3) := by decide +kernel
theorem dX9_canShow_4 : decode cX9_canShow 4 = .ok (.aload_n 0, 1) := by decide +kernel
theorem dX9_canShow_5 : decode cX9_canShow 5 = .ok (.getfield 44, 3) := by decide +kernel
theorem dX9_canShow_8 : decode cX9_canShow 8 = .ok (.aload_n 0, 1) := by decide +kernel
theorem dX9_canShow_9 : decode cX9_canShow 9 = .ok (.getfield 12, 3) := by decide +kernel
theorem dX9_canShow_12 : decode cX9_canShow 12 = .ok (.iload_n 1, 1) := by decide +kernel
theorem dX9_canShow_13 : decode cX9_canShow 13 = .ok (.invokevirtual 256, 3) := by decide +kernel
theorem dX9_canShow_16 : decode cX9_canShow 16 = .ok (.ireturn, 1) := by decide +kernel
theorem dX9_most_0 : decode cX9_most 0 = .ok (.iload_n 1, 1) := by decide +kernel
theorem dX9_most_1 : decode cX9_most 1 = .ok (.invokestatic 185, 3) := by decide +kernel
theorem dX9_most_4 : decode cX9_most 4 = .ok (.iconst 0, 1) := by decide +kernel
theorem dX9_most_5 : decode cX9_most 5 = .ok (.istore_n 2, 1) := by decide +kernel
theorem dX9_most_6 : decode cX9_most 6 = .ok (.iconst 0, 1) := by decide +kernel
theorem dX9_most_7 : decode cX9_most 7 = .ok (.istore_n 3, 1) := by decide +kernel
theorem dX9_most_8 : decode cX9_most 8 = .ok (.iload_n 3, 1) := by decide +kernel
theorem dX9_most_9 : decode cX9_most 9 = .ok (.bipush 42, 2) := by decide +kernel
theorem dX9_most_11 : decode cX9_most 11 = .ok (.if_icmp .ge 39, 3) := by decide +kernel
theorem dX9_most_14 : decode cX9_most 14 = .ok (.aload_n 0, 1) := by decide +kernel
theorem dX9_most_15 : decode cX9_most 15 = .ok (.getfield 12, 3) := by decide +kernel
theorem dX9_most_18 : decode cX9_most 18 = .ok (.getfield 116, 3) := by decide +kernel
theorem dX9_most_21 : decode cX9_most 21 = .ok (.iload_n 3, 1) := by decide +kernel
theorem dX9_most_22 : decode cX9_most 22 = .ok (.iload_n 1, 1) := by decide +kernel
theorem dX9_most_23 : decode cX9_most 23 = .ok (.invokevirtual 249, 3) := by decide +kernel
theorem dX9_most_26 : decode cX9_most 26 = .ok (.ifCond .eq 18, 3) := by decide +kernel
theorem dX9_most_29 : decode cX9_most 29 = .ok (.iload_n 2, 1) := by decide +kernel
theorem dX9_most_30 : decode cX9_most 30 = .ok (.aload_n 0, 1) := by decide +kernel
theorem dX9_most_31 : decode cX9_most 31 = .ok (.getfield 12, 3) := by decide +kernel
theorem dX9_most_34 : decode cX9_most 34 = .ok (.getfield 116, 3) := by decide +kernel
theorem dX9_most_37 : decode cX9_most 37 = .ok (.getfield 179, 3) := by decide +kernel
theorem dX9_most_40 : decode cX9_most 40 = .ok (.iload_n 3, 1) := by decide +kernel
theorem dX9_most_41 : decode cX9_most 41 = .ok (.iaload, 1) := by decide +kernel
theorem dX9_most_42 : decode cX9_most 42 = .ok (.iadd, 1) := by decide +kernel
theorem dX9_most_43 : decode cX9_most 43 = .ok (.istore_n 2, 1) := by decide +kernel
theorem dX9_most_44 : decode cX9_most 44 = .ok (.iinc 3 1, 3) := by decide +kernel
theorem dX9_most_47 : decode cX9_most 47 = .ok (.goto (-39), 3) := by decide +kernel
theorem dX9_most_50 : decode cX9_most 50 = .ok (.iload_n 2, 1) := by decide +kernel
theorem dX9_most_51 : decode cX9_most 51 = .ok (.ireturn, 1) := by decide +kernel
theorem dX9_would_0 : decode cX9_would 0 = .ok (.aload_n 0, 1) := by decide +kernel
theorem dX9_would_1 : decode cX9_would 1 = .ok (.iload_n 1, 1) := by decide +kernel
theorem dX9_would_2 : decode cX9_would 2 = .ok (.invokevirtual 216, 3) := by decide +kernel
theorem dX9_would_5 : decode cX9_would 5 = .ok (.iload_n 2, 1) := by decide +kernel
theorem dX9_would_6 : decode cX9_would 6 = .ok (.iconst 0, 1) := by decide +kernel
theorem dX9_would_7 : decode cX9_would 7 = .ok (.bipush 6, 2) := by decide +kernel
theorem dX9_would_9 : decode cX9_would 9 = .ok (.invokestatic 199, 3) := by decide +kernel
theorem dX9_would_12 : decode cX9_would 12 = .ok (.invokestatic 228, 3) := by decide +kernel
theorem dX9_would_15 : decode cX9_would 15 = .ok (.aload_n 0, 1) := by decide +kernel
theorem dX9_would_16 : decode cX9_would 16 = .ok (.getfield 44, 3) := by decide +kernel
theorem dX9_would_19 : decode cX9_would 19 = .ok (.aload_n 0, 1) := by decide +kernel
theorem dX9_would_20 : decode cX9_would 20 = .ok (.getfield 12, 3) := by decide +kernel
theorem dX9_would_23 : decode cX9_would 23 = .ok (.iload_n 1, 1) := by decide +kernel
theorem dX9_would_24 : decode cX9_would 24 = .ok (.iconst (-1), 1) := by decide +kernel
theorem dX9_would_25 : decode cX9_would 25 = .ok (.aload_n 0, 1) := by decide +kernel
theorem dX9_would_26 : decode cX9_would 26 = .ok (.getfield 51, 3) := by decide +kernel
theorem dX9_would_29 : decode cX9_would 29 = .ok (.invokevirtual 260, 3) := by decide +kernel
theorem dX9_would_32 : decode cX9_would 32 = .ok (.iload_n 2, 1) := by decide +kernel
theorem dX9_would_33 : decode cX9_would 33 = .ok (.iconst 4, 1) := by decide +kernel
theorem dX9_would_34 : decode cX9_would 34 = .ok (.if_icmp .lt 21, 3) := by decide +kernel
theorem dX9_would_37 : decode cX9_would 37 = .ok (.aload_n 0, 1) := by decide +kernel
theorem dX9_would_38 : decode cX9_would 38 = .ok (.getfield 44, 3) := by decide +kernel
theorem dX9_would_41 : decode cX9_would 41 = .ok (.aload_n 0, 1) := by decide +kernel
theorem dX9_would_42 : decode cX9_would 42 = .ok (.getfield 12, 3) := by decide +kernel
theorem dX9_would_45 : decode cX9_would 45 = .ok (.getfield 116, 3) := by decide +kernel
theorem dX9_would_48 : decode cX9_would 48 = .ok (.aload_n 0, 1) := by decide +kernel
theorem dX9_would_49 : decode cX9_would 49 = .ok (.getfield 51, 3) := by decide +kernel
theorem dX9_would_52 : decode cX9_would 52 = .ok (.invokevirtual 264, 3) := by decide +kernel
theorem dX9_would_55 : decode cX9_would 55 = .ok (.iload_n 2, 1) := by decide +kernel
theorem dX9_would_56 : decode cX9_would 56 = .ok (.tableswitch 95 0 5 #[40, 48, 56, 71, 79, 87], 40) := by decide +kernel
theorem dX9_would_96 : decode cX9_would 96 = .ok (.aload_n 0, 1) := by decide +kernel
theorem dX9_would_97 : decode cX9_would 97 = .ok (.getfield 44, 3) := by decide +kernel
theorem dX9_would_100 : decode cX9_would 100 = .ok (.getfield 268, 3) := by decide +kernel
theorem dX9_would_103 : decode cX9_would 103 = .ok (.ireturn, 1) := by decide +kernel
theorem dX9_would_104 : decode cX9_would 104 = .ok (.aload_n 0, 1) := by decide +kernel
theorem dX9_would_105 : decode cX9_would 105 = .ok (.getfield 44, 3) := by decide +kernel
theorem dX9_would_108 : decode cX9_would 108 = .ok (.getfield 269, 3) := by decide +kernel
theorem dX9_would_111 : decode cX9_would 111 = .ok (.ireturn, 1) := by decide +kernel
theorem dX9_would_112 : decode cX9_would 112 = .ok (.aload_n 0, 1) := by decide +kernel
theorem dX9_would_113 : decode cX9_would 113 = .ok (.getfield 12, 3) := by decide +kernel
theorem dX9_would_116 : decode cX9_would 116 = .ok (.getfield 138, 3) := by decide +kernel
theorem dX9_would_119 : decode cX9_would 119 = .ok (.aload_n 0, 1) := by decide +kernel
theorem dX9_would_120 : decode cX9_would 120 = .ok (.getfield 51, 3) := by decide +kernel
theorem dX9_would_123 : decode cX9_would 123 = .ok (.invokevirtual 270, 3) := by decide +kernel
theorem dX9_would_126 : decode cX9_would 126 = .ok (.ireturn, 1) := by decide +kernel
theorem dX9_would_127 : decode cX9_would 127 = .ok (.aload_n 0, 1) := by decide +kernel
theorem dX9_would_128 : decode cX9_would 128 = .ok (.getfield 51, 3) := by decide +kernel
theorem dX9_would_131 : decode cX9_would 131 = .ok (.invokevirtual 144, 3) := by decide +kernel
theorem dX9_would_134 : decode cX9_would 134 = .ok (.ireturn, 1) := by decide +kernel
theorem dX9_would_135 : decode cX9_would 135 = .ok (.aload_n 0, 1) := by decide +kernel
theorem dX9_would_136 : decode cX9_would 136 = .ok (.getfield 51, 3) := by decide +kernel
theorem dX9_would_139 : decode cX9_would 139 = .ok (.invokevirtual 274, 3) := by decide +kernel
theorem dX9_would_142 : decode cX9_would 142 = .ok (.ireturn, 1) := by decide +kernel
theorem dX9_would_143 : decode cX9_would 143 = .ok (.aload_n 0, 1) := by decide +kernel
theorem dX9_would_144 : decode cX9_would 144 = .ok (.getfield 51, 3) := by decide +kernel
theorem dX9_would_147 : decode cX9_would 147 = .ok (.invokevirtual 277, 3) := by decide +kernel
theorem dX9_would_150 : decode cX9_would 150 = .ok (.ireturn, 1) := by decide +kernel
theorem dX9_would_151 : decode cX9_would 151 = .ok (.aload_n 0, 1) := by decide +kernel
theorem dX9_would_152 : decode cX9_would 152 = .ok (.getfield 51, 3) := by decide +kernel
theorem dX9_would_155 : decode cX9_would 155 = .ok (.invokevirtual 280, 3) := by decide +kernel
theorem dX9_would_158 : decode cX9_would 158 = .ok (.ireturn, 1) := by decide +kernel
theorem dX9_outAt_0 : decode cX9_outAt 0 = .ok (.aload_n 0, 1) := by decide +kernel
theorem dX9_outAt_1 : decode cX9_outAt 1 = .ok (.iload_n 1, 1) := by decide +kernel
theorem dX9_outAt_2 : decode cX9_outAt 2 = .ok (.invokevirtual 216, 3) := by decide +kernel
theorem dX9_outAt_5 : decode cX9_outAt 5 = .ok (.aload_n 0, 1) := by decide +kernel
theorem dX9_outAt_6 : decode cX9_outAt 6 = .ok (.getfield 44, 3) := by decide +kernel
theorem dX9_outAt_9 : decode cX9_outAt 9 = .ok (.aload_n 0, 1) := by decide +kernel
theorem dX9_outAt_10 : decode cX9_outAt 10 = .ok (.getfield 12, 3) := by decide +kernel
theorem dX9_outAt_13 : decode cX9_outAt 13 = .ok (.iload_n 1, 1) := by decide +kernel
theorem dX9_outAt_14 : decode cX9_outAt 14 = .ok (.iconst (-1), 1) := by decide +kernel
theorem dX9_outAt_15 : decode cX9_outAt 15 = .ok (.aload_n 0, 1) := by decide +kernel
theorem dX9_outAt_16 : decode cX9_outAt 16 = .ok (.getfield 51, 3) := by decide +kernel
theorem dX9_outAt_19 : decode cX9_outAt 19 = .ok (.invokevirtual 260, 3) := by decide +kernel
theorem dX9_outAt_22 : decode cX9_outAt 22 = .ok (.aload_n 0, 1) := by decide +kernel
theorem dX9_outAt_23 : decode cX9_outAt 23 = .ok (.getfield 44, 3) := by decide +kernel
theorem dX9_outAt_26 : decode cX9_outAt 26 = .ok (.getfield 283, 3) := by decide +kernel
theorem dX9_outAt_29 : decode cX9_outAt 29 = .ok (.ireturn, 1) := by decide +kernel
theorem dX9_missing_0 : decode cX9_missing 0 = .ok (.aload_n 0, 1) := by decide +kernel
theorem dX9_missing_1 : decode cX9_missing 1 = .ok (.iload_n 1, 1) := by decide +kernel
theorem dX9_missing_2 : decode cX9_missing 2 = .ok (.invokevirtual 216, 3) := by decide +kernel
theorem dX9_missing_5 : decode cX9_missing 5 = .ok (.aload_n 0, 1) := by decide +kernel
theorem dX9_missing_6 : decode cX9_missing 6 = .ok (.getfield 44, 3) := by decide +kernel
theorem dX9_missing_9 : decode cX9_missing 9 = .ok (.aload_n 0, 1) := by decide +kernel
theorem dX9_missing_10 : decode cX9_missing 10 = .ok (.getfield 12, 3) := by decide +kernel
theorem dX9_missing_13 : decode cX9_missing 13 = .ok (.iload_n 1, 1) := by decide +kernel
theorem dX9_missing_14 : decode cX9_missing 14 = .ok (.invokevirtual 286, 3) := by decide +kernel
theorem dX9_missing_17 : decode cX9_missing 17 = .ok (.ireturn, 1) := by decide +kernel
theorem dX9_bestBuy_0 : decode cX9_bestBuy 0 = .ok (.aload_n 0, 1) := by decide +kernel
theorem dX9_bestBuy_1 : decode cX9_bestBuy 1 = .ok (.iload_n 1, 1) := by decide +kernel
theorem dX9_bestBuy_2 : decode cX9_bestBuy 2 = .ok (.invokevirtual 216, 3) := by decide +kernel
theorem dX9_bestBuy_5 : decode cX9_bestBuy 5 = .ok (.aload_n 0, 1) := by decide +kernel
theorem dX9_bestBuy_6 : decode cX9_bestBuy 6 = .ok (.getfield 44, 3) := by decide +kernel
theorem dX9_bestBuy_9 : decode cX9_bestBuy 9 = .ok (.aload_n 0, 1) := by decide +kernel
theorem dX9_bestBuy_10 : decode cX9_bestBuy 10 = .ok (.getfield 12, 3) := by decide +kernel
theorem dX9_bestBuy_13 : decode cX9_bestBuy 13 = .ok (.iload_n 1, 1) := by decide +kernel
theorem dX9_bestBuy_14 : decode cX9_bestBuy 14 = .ok (.iconst (-1), 1) := by decide +kernel
theorem dX9_bestBuy_15 : decode cX9_bestBuy 15 = .ok (.aload_n 0, 1) := by decide +kernel
theorem dX9_bestBuy_16 : decode cX9_bestBuy 16 = .ok (.getfield 51, 3) := by decide +kernel
theorem dX9_bestBuy_19 : decode cX9_bestBuy 19 = .ok (.invokevirtual 260, 3) := by decide +kernel
theorem dX9_bestBuy_22 : decode cX9_bestBuy 22 = .ok (.aload_n 0, 1) := by decide +kernel
theorem dX9_bestBuy_23 : decode cX9_bestBuy 23 = .ok (.getfield 44, 3) := by decide +kernel
theorem dX9_bestBuy_26 : decode cX9_bestBuy 26 = .ok (.getfield 268, 3) := by decide +kernel
theorem dX9_bestBuy_29 : decode cX9_bestBuy 29 = .ok (.istore_n 2, 1) := by decide +kernel
theorem dX9_bestBuy_30 : decode cX9_bestBuy 30 = .ok (.iconst (-1), 1) := by decide +kernel
theorem dX9_bestBuy_31 : decode cX9_bestBuy 31 = .ok (.istore_n 3, 1) := by decide +kernel
theorem dX9_bestBuy_32 : decode cX9_bestBuy 32 = .ok (.iconst 0, 1) := by decide +kernel
theorem dX9_bestBuy_33 : decode cX9_bestBuy 33 = .ok (.istore 4, 2) := by decide +kernel
theorem dX9_bestBuy_35 : decode cX9_bestBuy 35 = .ok (.iload 4, 2) := by decide +kernel
theorem dX9_bestBuy_37 : decode cX9_bestBuy 37 = .ok (.bipush 10, 2) := by decide +kernel
theorem dX9_bestBuy_39 : decode cX9_bestBuy 39 = .ok (.if_icmp .ge 49, 3) := by decide +kernel
theorem dX9_bestBuy_42 : decode cX9_bestBuy 42 = .ok (.aload_n 0, 1) := by decide +kernel
theorem dX9_bestBuy_43 : decode cX9_bestBuy 43 = .ok (.getfield 44, 3) := by decide +kernel
theorem dX9_bestBuy_46 : decode cX9_bestBuy 46 = .ok (.aload_n 0, 1) := by decide +kernel
theorem dX9_bestBuy_47 : decode cX9_bestBuy 47 = .ok (.getfield 12, 3) := by decide +kernel
theorem dX9_bestBuy_50 : decode cX9_bestBuy 50 = .ok (.iload_n 1, 1) := by decide +kernel
theorem dX9_bestBuy_51 : decode cX9_bestBuy 51 = .ok (.iload 4, 2) := by decide +kernel
theorem dX9_bestBuy_53 : decode cX9_bestBuy 53 = .ok (.aload_n 0, 1) := by decide +kernel
theorem dX9_bestBuy_54 : decode cX9_bestBuy 54 = .ok (.getfield 51, 3) := by decide +kernel
theorem dX9_bestBuy_57 : decode cX9_bestBuy 57 = .ok (.invokevirtual 260, 3) := by decide +kernel
theorem dX9_bestBuy_60 : decode cX9_bestBuy 60 = .ok (.aload_n 0, 1) := by decide +kernel
theorem dX9_bestBuy_61 : decode cX9_bestBuy 61 = .ok (.getfield 44, 3) := by decide +kernel
theorem dX9_bestBuy_64 : decode cX9_bestBuy 64 = .ok (.getfield 268, 3) := by decide +kernel
theorem dX9_bestBuy_67 : decode cX9_bestBuy 67 = .ok (.iload_n 2, 1) := by decide +kernel
theorem dX9_bestBuy_68 : decode cX9_bestBuy 68 = .ok (.if_icmp .le 14, 3) := by decide +kernel
theorem dX9_bestBuy_71 : decode cX9_bestBuy 71 = .ok (.aload_n 0, 1) := by decide +kernel
theorem dX9_bestBuy_72 : decode cX9_bestBuy 72 = .ok (.getfield 44, 3) := by decide +kernel
theorem dX9_bestBuy_75 : decode cX9_bestBuy 75 = .ok (.getfield 268, 3) := by decide +kernel
theorem dX9_bestBuy_78 : decode cX9_bestBuy 78 = .ok (.istore_n 2, 1) := by decide +kernel
theorem dX9_bestBuy_79 : decode cX9_bestBuy 79 = .ok (.iload 4, 2) := by decide +kernel
theorem dX9_bestBuy_81 : decode cX9_bestBuy 81 = .ok (.istore_n 3, 1) := by decide +kernel
theorem dX9_bestBuy_82 : decode cX9_bestBuy 82 = .ok (.iinc 4 1, 3) := by decide +kernel
theorem dX9_bestBuy_85 : decode cX9_bestBuy 85 = .ok (.goto (-50), 3) := by decide +kernel
theorem dX9_bestBuy_88 : decode cX9_bestBuy 88 = .ok (.iload_n 3, 1) := by decide +kernel
theorem dX9_bestBuy_89 : decode cX9_bestBuy 89 = .ok (.ireturn, 1) := by decide +kernel
theorem dX9_workFrom_0 : decode cX9_workFrom 0 = .ok (.aload_n 0, 1) := by decide +kernel
theorem dX9_workFrom_1 : decode cX9_workFrom 1 = .ok (.iload_n 1, 1) := by decide +kernel
theorem dX9_workFrom_2 : decode cX9_workFrom 2 = .ok (.invokevirtual 216, 3) := by decide +kernel
theorem dX9_workFrom_5 : decode cX9_workFrom 5 = .ok (.aload_n 0, 1) := by decide +kernel
theorem dX9_workFrom_6 : decode cX9_workFrom 6 = .ok (.iload_n 2, 1) := by decide +kernel
theorem dX9_workFrom_7 : decode cX9_workFrom 7 = .ok (.invokevirtual 216, 3) := by decide +kernel
theorem dX9_workFrom_10 : decode cX9_workFrom 10 = .ok (.aload_n 0, 1) := by decide +kernel
theorem dX9_workFrom_11 : decode cX9_workFrom 11 = .ok (.getfield 44, 3) := by decide +kernel
theorem dX9_workFrom_14 : decode cX9_workFrom 14 = .ok (.aload_n 0, 1) := by decide +kernel
theorem dX9_workFrom_15 : decode cX9_workFrom 15 = .ok (.getfield 12, 3) := by decide +kernel
theorem dX9_workFrom_18 : decode cX9_workFrom 18 = .ok (.iload_n 1, 1) := by decide +kernel
theorem dX9_workFrom_19 : decode cX9_workFrom 19 = .ok (.iconst (-1), 1) := by decide +kernel
theorem dX9_workFrom_20 : decode cX9_workFrom 20 = .ok (.aload_n 0, 1) := by decide +kernel
theorem dX9_workFrom_21 : decode cX9_workFrom 21 = .ok (.getfield 55, 3) := by decide +kernel
theorem dX9_workFrom_24 : decode cX9_workFrom 24 = .ok (.invokevirtual 260, 3) := by decide +kernel
theorem dX9_workFrom_27 : decode cX9_workFrom 27 = .ok (.aload_n 0, 1) := by decide +kernel
theorem dX9_workFrom_28 : decode cX9_workFrom 28 = .ok (.getfield 44, 3) := by decide +kernel
theorem dX9_workFrom_31 : decode cX9_workFrom 31 = .ok (.aload_n 0, 1) := by decide +kernel
theorem dX9_workFrom_32 : decode cX9_workFrom 32 = .ok (.getfield 12, 3) := by decide +kernel
theorem dX9_workFrom_35 : decode cX9_workFrom 35 = .ok (.iload_n 2, 1) := by decide +kernel
theorem dX9_workFrom_36 : decode cX9_workFrom 36 = .ok (.iconst (-1), 1) := by decide +kernel
theorem dX9_workFrom_37 : decode cX9_workFrom 37 = .ok (.aload_n 0, 1) := by decide +kernel
theorem dX9_workFrom_38 : decode cX9_workFrom 38 = .ok (.getfield 51, 3) := by decide +kernel
theorem dX9_workFrom_41 : decode cX9_workFrom 41 = .ok (.invokevirtual 260, 3) := by decide +kernel
theorem dX9_workFrom_44 : decode cX9_workFrom 44 = .ok (.aload_n 0, 1) := by decide +kernel
theorem dX9_workFrom_45 : decode cX9_workFrom 45 = .ok (.getfield 55, 3) := by decide +kernel
theorem dX9_workFrom_48 : decode cX9_workFrom 48 = .ok (.aload_n 0, 1) := by decide +kernel
theorem dX9_workFrom_49 : decode cX9_workFrom 49 = .ok (.getfield 51, 3) := by decide +kernel
theorem dX9_workFrom_52 : decode cX9_workFrom 52 = .ok (.invokevirtual 270, 3) := by decide +kernel
theorem dX9_workFrom_55 : decode cX9_workFrom 55 = .ok (.ireturn, 1) := by decide +kernel
theorem dX9_easiest_0 : decode cX9_easiest 0 = .ok (.iconst (-1), 1) := by decide +kernel
theorem dX9_easiest_1 : decode cX9_easiest 1 = .ok (.istore_n 1, 1) := by decide +kernel
theorem dX9_easiest_2 : decode cX9_easiest 2 = .ok (.iconst 0, 1) := by decide +kernel
theorem dX9_easiest_3 : decode cX9_easiest 3 = .ok (.istore_n 2, 1) := by decide +kernel
theorem dX9_easiest_4 : decode cX9_easiest 4 = .ok (.iconst 0, 1) := by decide +kernel
theorem dX9_easiest_5 : decode cX9_easiest 5 = .ok (.istore_n 3, 1) := by decide +kernel
theorem dX9_easiest_6 : decode cX9_easiest 6 = .ok (.iload_n 3, 1) := by decide +kernel
theorem dX9_easiest_7 : decode cX9_easiest 7 = .ok (.aload_n 0, 1) := by decide +kernel
theorem dX9_easiest_8 : decode cX9_easiest 8 = .ok (.getfield 12, 3) := by decide +kernel
theorem dX9_easiest_11 : decode cX9_easiest 11 = .ok (.getfield 97, 3) := by decide +kernel
theorem dX9_easiest_14 : decode cX9_easiest 14 = .ok (.getfield 101, 3) := by decide +kernel
theorem dX9_easiest_17 : decode cX9_easiest 17 = .ok (.if_icmp .ge 58, 3) := by decide +kernel
theorem dX9_easiest_20 : decode cX9_easiest 20 = .ok (.aload_n 0, 1) := by decide +kernel
theorem dX9_easiest_21 : decode cX9_easiest 21 = .ok (.getfield 44, 3) := by decide +kernel
theorem dX9_easiest_24 : decode cX9_easiest 24 = .ok (.aload_n 0, 1) := by decide +kernel
theorem dX9_easiest_25 : decode cX9_easiest 25 = .ok (.getfield 12, 3) := by decide +kernel
theorem dX9_easiest_28 : decode cX9_easiest 28 = .ok (.iload_n 3, 1) := by decide +kernel
theorem dX9_easiest_29 : decode cX9_easiest 29 = .ok (.iconst (-1), 1) := by decide +kernel
theorem dX9_easiest_30 : decode cX9_easiest 30 = .ok (.aload_n 0, 1) := by decide +kernel
theorem dX9_easiest_31 : decode cX9_easiest 31 = .ok (.getfield 51, 3) := by decide +kernel
theorem dX9_easiest_34 : decode cX9_easiest 34 = .ok (.invokevirtual 260, 3) := by decide +kernel
theorem dX9_easiest_37 : decode cX9_easiest 37 = .ok (.aload_n 0, 1) := by decide +kernel
theorem dX9_easiest_38 : decode cX9_easiest 38 = .ok (.getfield 12, 3) := by decide +kernel
theorem dX9_easiest_41 : decode cX9_easiest 41 = .ok (.getfield 138, 3) := by decide +kernel
theorem dX9_easiest_44 : decode cX9_easiest 44 = .ok (.aload_n 0, 1) := by decide +kernel
theorem dX9_easiest_45 : decode cX9_easiest 45 = .ok (.getfield 51, 3) := by decide +kernel
theorem dX9_easiest_48 : decode cX9_easiest 48 = .ok (.invokevirtual 270, 3) := by decide +kernel
theorem dX9_easiest_51 : decode cX9_easiest 51 = .ok (.istore 4, 2) := by decide +kernel
theorem dX9_easiest_53 : decode cX9_easiest 53 = .ok (.iload_n 1, 1) := by decide +kernel
theorem dX9_easiest_54 : decode cX9_easiest 54 = .ok (.iconst (-1), 1) := by decide +kernel
theorem dX9_easiest_55 : decode cX9_easiest 55 = .ok (.if_icmp .eq 9, 3) := by decide +kernel
theorem dX9_easiest_58 : decode cX9_easiest 58 = .ok (.iload 4, 2) := by decide +kernel
theorem dX9_easiest_60 : decode cX9_easiest 60 = .ok (.iload_n 2, 1) := by decide +kernel
theorem dX9_easiest_61 : decode cX9_easiest 61 = .ok (.if_icmp .ge 8, 3) := by decide +kernel
theorem dX9_easiest_64 : decode cX9_easiest 64 = .ok (.iload_n 3, 1) := by decide +kernel
theorem dX9_easiest_65 : decode cX9_easiest 65 = .ok (.istore_n 1, 1) := by decide +kernel
theorem dX9_easiest_66 : decode cX9_easiest 66 = .ok (.iload 4, 2) := by decide +kernel
theorem dX9_easiest_68 : decode cX9_easiest 68 = .ok (.istore_n 2, 1) := by decide +kernel
theorem dX9_easiest_69 : decode cX9_easiest 69 = .ok (.iinc 3 1, 3) := by decide +kernel
theorem dX9_easiest_72 : decode cX9_easiest 72 = .ok (.goto (-66), 3) := by decide +kernel
theorem dX9_easiest_75 : decode cX9_easiest 75 = .ok (.iload_n 1, 1) := by decide +kernel
theorem dX9_easiest_76 : decode cX9_easiest 76 = .ok (.ireturn, 1) := by decide +kernel
theorem dX9_wouldFall_0 : decode cX9_wouldFall 0 = .ok (.iconst 0, 1) := by decide +kernel
theorem dX9_wouldFall_1 : decode cX9_wouldFall 1 = .ok (.istore_n 1, 1) := by decide +kernel
theorem dX9_wouldFall_2 : decode cX9_wouldFall 2 = .ok (.iconst 0, 1) := by decide +kernel
theorem dX9_wouldFall_3 : decode cX9_wouldFall 3 = .ok (.istore_n 2, 1) := by decide +kernel
theorem dX9_wouldFall_4 : decode cX9_wouldFall 4 = .ok (.iload_n 2, 1) := by decide +kernel
theorem dX9_wouldFall_5 : decode cX9_wouldFall 5 = .ok (.bipush 30, 2) := by decide +kernel
theorem dX9_wouldFall_7 : decode cX9_wouldFall 7 = .ok (.if_icmp .ge 62, 3) := by decide +kernel
theorem dX9_wouldFall_10 : decode cX9_wouldFall 10 = .ok (.bipush 12, 2) := by decide +kernel
theorem dX9_wouldFall_12 : decode cX9_wouldFall 12 = .ok (.iload_n 2, 1) := by decide +kernel
theorem dX9_wouldFall_13 : decode cX9_wouldFall 13 = .ok (.iadd, 1) := by decide +kernel
theorem dX9_wouldFall_14 : decode cX9_wouldFall 14 = .ok (.istore_n 3, 1) := by decide +kernel
theorem dX9_wouldFall_15 : decode cX9_wouldFall 15 = .ok (.aload_n 0, 1) := by decide +kernel
theorem dX9_wouldFall_16 : decode cX9_wouldFall 16 = .ok (.getfield 12, 3) := by decide +kernel
theorem dX9_wouldFall_19 : decode cX9_wouldFall 19 = .ok (.getfield 116, 3) := by decide +kernel
theorem dX9_wouldFall_22 : decode cX9_wouldFall 22 = .ok (.getfield 179, 3) := by decide +kernel
theorem dX9_wouldFall_25 : decode cX9_wouldFall 25 = .ok (.iload_n 3, 1) := by decide +kernel
theorem dX9_wouldFall_26 : decode cX9_wouldFall 26 = .ok (.iaload, 1) := by decide +kernel
theorem dX9_wouldFall_27 : decode cX9_wouldFall 27 = .ok (.aload_n 0, 1) := by decide +kernel
theorem dX9_wouldFall_28 : decode cX9_wouldFall 28 = .ok (.getfield 12, 3) := by decide +kernel
theorem dX9_wouldFall_31 : decode cX9_wouldFall 31 = .ok (.getfield 116, 3) := by decide +kernel
theorem dX9_wouldFall_34 : decode cX9_wouldFall 34 = .ok (.iload_n 2, 1) := by decide +kernel
theorem dX9_wouldFall_35 : decode cX9_wouldFall 35 = .ok (.invokevirtual 290, 3) := by decide +kernel
theorem dX9_wouldFall_38 : decode cX9_wouldFall 38 = .ok (.isub, 1) := by decide +kernel
theorem dX9_wouldFall_39 : decode cX9_wouldFall 39 = .ok (.istore 4, 2) := by decide +kernel
theorem dX9_wouldFall_41 : decode cX9_wouldFall 41 = .ok (.iload_n 1, 1) := by decide +kernel
theorem dX9_wouldFall_42 : decode cX9_wouldFall 42 = .ok (.iconst 0, 1) := by decide +kernel
theorem dX9_wouldFall_43 : decode cX9_wouldFall 43 = .ok (.aload_n 0, 1) := by decide +kernel
theorem dX9_wouldFall_44 : decode cX9_wouldFall 44 = .ok (.getfield 12, 3) := by decide +kernel
theorem dX9_wouldFall_47 : decode cX9_wouldFall 47 = .ok (.getfield 138, 3) := by decide +kernel
theorem dX9_wouldFall_50 : decode cX9_wouldFall 50 = .ok (.getfield 182, 3) := by decide +kernel
theorem dX9_wouldFall_53 : decode cX9_wouldFall 53 = .ok (.iload_n 3, 1) := by decide +kernel
theorem dX9_wouldFall_54 : decode cX9_wouldFall 54 = .ok (.iaload, 1) := by decide +kernel
theorem dX9_wouldFall_55 : decode cX9_wouldFall 55 = .ok (.iload 4, 2) := by decide +kernel
theorem dX9_wouldFall_57 : decode cX9_wouldFall 57 = .ok (.isub, 1) := by decide +kernel
theorem dX9_wouldFall_58 : decode cX9_wouldFall 58 = .ok (.invokestatic 293, 3) := by decide +kernel
theorem dX9_wouldFall_61 : decode cX9_wouldFall 61 = .ok (.iadd, 1) := by decide +kernel
theorem dX9_wouldFall_62 : decode cX9_wouldFall 62 = .ok (.istore_n 1, 1) := by decide +kernel
theorem dX9_wouldFall_63 : decode cX9_wouldFall 63 = .ok (.iinc 2 1, 3) := by decide +kernel
theorem dX9_wouldFall_66 : decode cX9_wouldFall 66 = .ok (.goto (-62), 3) := by decide +kernel
theorem dX9_wouldFall_69 : decode cX9_wouldFall 69 = .ok (.iload_n 1, 1) := by decide +kernel
theorem dX9_wouldFall_70 : decode cX9_wouldFall 70 = .ok (.ireturn, 1) := by decide +kernel
theorem dX9_hang_0 : decode cX9_hang 0 = .ok (.aload_n 0, 1) := by decide +kernel
theorem dX9_hang_1 : decode cX9_hang 1 = .ok (.iload_n 1, 1) := by decide +kernel
theorem dX9_hang_2 : decode cX9_hang 2 = .ok (.invokevirtual 216, 3) := by decide +kernel
theorem dX9_hang_5 : decode cX9_hang 5 = .ok (.aload_n 0, 1) := by decide +kernel
theorem dX9_hang_6 : decode cX9_hang 6 = .ok (.getfield 29, 3) := by decide +kernel
theorem dX9_hang_9 : decode cX9_hang 9 = .ok (.aload_n 0, 1) := by decide +kernel
theorem dX9_hang_10 : decode cX9_hang 10 = .ok (.getfield 12, 3) := by decide +kernel
theorem dX9_hang_13 : decode cX9_hang 13 = .ok (.invokevirtual 298, 3) := by decide +kernel
theorem dX9_hang_16 : decode cX9_hang 16 = .ok (.aload_n 0, 1) := by decide +kernel
theorem dX9_hang_17 : decode cX9_hang 17 = .ok (.getfield 44, 3) := by decide +kernel
theorem dX9_hang_20 : decode cX9_hang 20 = .ok (.aload_n 0, 1) := by decide +kernel
theorem dX9_hang_21 : decode cX9_hang 21 = .ok (.getfield 12, 3) := by decide +kernel
theorem dX9_hang_24 : decode cX9_hang 24 = .ok (.iload_n 1, 1) := by decide +kernel
theorem dX9_hang_25 : decode cX9_hang 25 = .ok (.iconst (-1), 1) := by decide +kernel
theorem dX9_hang_26 : decode cX9_hang 26 = .ok (.aload_n 0, 1) := by decide +kernel
theorem dX9_hang_27 : decode cX9_hang 27 = .ok (.getfield 51, 3) := by decide +kernel
theorem dX9_hang_30 : decode cX9_hang 30 = .ok (.invokevirtual 260, 3) := by decide +kernel
theorem dX9_hang_33 : decode cX9_hang 33 = .ok (.aload_n 0, 1) := by decide +kernel
theorem dX9_hang_34 : decode cX9_hang 34 = .ok (.getfield 44, 3) := by decide +kernel
theorem dX9_hang_37 : decode cX9_hang 37 = .ok (.aload_n 0, 1) := by decide +kernel
theorem dX9_hang_38 : decode cX9_hang 38 = .ok (.getfield 12, 3) := by decide +kernel
theorem dX9_hang_41 : decode cX9_hang 41 = .ok (.getfield 116, 3) := by decide +kernel
theorem dX9_hang_44 : decode cX9_hang 44 = .ok (.aload_n 0, 1) := by decide +kernel
theorem dX9_hang_45 : decode cX9_hang 45 = .ok (.getfield 51, 3) := by decide +kernel
theorem dX9_hang_48 : decode cX9_hang 48 = .ok (.invokevirtual 264, 3) := by decide +kernel
theorem dX9_hang_51 : decode cX9_hang 51 = .ok (.aload_n 0, 1) := by decide +kernel
theorem dX9_hang_52 : decode cX9_hang 52 = .ok (.getfield 12, 3) := by decide +kernel
theorem dX9_hang_55 : decode cX9_hang 55 = .ok (.getfield 138, 3) := by decide +kernel
theorem dX9_hang_58 : decode cX9_hang 58 = .ok (.aload_n 0, 1) := by decide +kernel
theorem dX9_hang_59 : decode cX9_hang 59 = .ok (.getfield 51, 3) := by decide +kernel
theorem dX9_hang_62 : decode cX9_hang 62 = .ok (.invokevirtual 270, 3) := by decide +kernel
theorem dX9_hang_65 : decode cX9_hang 65 = .ok (.istore_n 2, 1) := by decide +kernel
theorem dX9_hang_66 : decode cX9_hang 66 = .ok (.aload_n 0, 1) := by decide +kernel
theorem dX9_hang_67 : decode cX9_hang 67 = .ok (.getfield 12, 3) := by decide +kernel
theorem dX9_hang_70 : decode cX9_hang 70 = .ok (.getfield 138, 3) := by decide +kernel
theorem dX9_hang_73 : decode cX9_hang 73 = .ok (.aload_n 0, 1) := by decide +kernel
theorem dX9_hang_74 : decode cX9_hang 74 = .ok (.getfield 51, 3) := by decide +kernel
theorem dX9_hang_77 : decode cX9_hang 77 = .ok (.invokevirtual 301, 3) := by decide +kernel
theorem dX9_hang_80 : decode cX9_hang 80 = .ok (.aload_n 0, 1) := by decide +kernel
theorem dX9_hang_81 : decode cX9_hang 81 = .ok (.getfield 12, 3) := by decide +kernel
theorem dX9_hang_84 : decode cX9_hang 84 = .ok (.getfield 138, 3) := by decide +kernel
theorem dX9_hang_87 : decode cX9_hang 87 = .ok (.iload_n 1, 1) := by decide +kernel
theorem dX9_hang_88 : decode cX9_hang 88 = .ok (.putfield 141, 3) := by decide +kernel
theorem dX9_hang_91 : decode cX9_hang 91 = .ok (.aload_n 0, 1) := by decide +kernel
theorem dX9_hang_92 : decode cX9_hang 92 = .ok (.getfield 12, 3) := by decide +kernel
theorem dX9_hang_95 : decode cX9_hang 95 = .ok (.dup, 1) := by decide +kernel
theorem dX9_hang_96 : decode cX9_hang 96 = .ok (.getfield 151, 3) := by decide +kernel
theorem dX9_hang_99 : decode cX9_hang 99 = .ok (.iload_n 2, 1) := by decide +kernel
theorem dX9_hang_100 : decode cX9_hang 100 = .ok (.iadd, 1) := by decide +kernel
theorem dX9_hang_101 : decode cX9_hang 101 = .ok (.putfield 151, 3) := by decide +kernel
theorem dX9_hang_104 : decode cX9_hang 104 = .ok (.aload_n 0, 1) := by decide +kernel
theorem dX9_hang_105 : decode cX9_hang 105 = .ok (.getfield 12, 3) := by decide +kernel
theorem dX9_hang_108 : decode cX9_hang 108 = .ok (.dup, 1) := by decide +kernel
theorem dX9_hang_109 : decode cX9_hang 109 = .ok (.getfield 154, 3) := by decide +kernel
theorem dX9_hang_112 : decode cX9_hang 112 = .ok (.aload_n 0, 1) := by decide +kernel
theorem dX9_hang_113 : decode cX9_hang 113 = .ok (.getfield 44, 3) := by decide +kernel
theorem dX9_hang_116 : decode cX9_hang 116 = .ok (.getfield 268, 3) := by decide +kernel
theorem dX9_hang_119 : decode cX9_hang 119 = .ok (.iadd, 1) := by decide +kernel
theorem dX9_hang_120 : decode cX9_hang 120 = .ok (.putfield 154, 3) := by decide +kernel
theorem dX9_hang_123 : decode cX9_hang 123 = .ok (.aload_n 0, 1) := by decide +kernel
theorem dX9_hang_124 : decode cX9_hang 124 = .ok (.getfield 12, 3) := by decide +kernel
theorem dX9_hang_127 : decode cX9_hang 127 = .ok (.dup, 1) := by decide +kernel
theorem dX9_hang_128 : decode cX9_hang 128 = .ok (.getfield 157, 3) := by decide +kernel
theorem dX9_hang_131 : decode cX9_hang 131 = .ok (.aload_n 0, 1) := by decide +kernel
theorem dX9_hang_132 : decode cX9_hang 132 = .ok (.getfield 44, 3) := by decide +kernel
theorem dX9_hang_135 : decode cX9_hang 135 = .ok (.getfield 269, 3) := by decide +kernel
theorem dX9_hang_138 : decode cX9_hang 138 = .ok (.iadd, 1) := by decide +kernel
theorem dX9_hang_139 : decode cX9_hang 139 = .ok (.putfield 157, 3) := by decide +kernel
theorem dX9_hang_142 : decode cX9_hang 142 = .ok (.iload_n 2, 1) := by decide +kernel
theorem dX9_hang_143 : decode cX9_hang 143 = .ok (.ireturn, 1) := by decide +kernel
theorem dX9_hold_0 : decode cX9_hold 0 = .ok (.aload_n 0, 1) := by decide +kernel
theorem dX9_hold_1 : decode cX9_hold 1 = .ok (.getfield 12, 3) := by decide +kernel
theorem dX9_hold_4 : decode cX9_hold 4 = .ok (.getfield 138, 3) := by decide +kernel
theorem dX9_hold_7 : decode cX9_hold 7 = .ok (.getfield 141, 3) := by decide +kernel
theorem dX9_hold_10 : decode cX9_hold 10 = .ok (.iconst (-1), 1) := by decide +kernel
theorem dX9_hold_11 : decode cX9_hold 11 = .ok (.if_icmp .ne 6, 3) := by decide +kernel
theorem dX9_hold_14 : decode cX9_hold 14 = .ok (.bipush (-3), 2) := by decide +kernel
theorem dX9_hold_16 : decode cX9_hold 16 = .ok (.ireturn, 1) := by decide +kernel
theorem dX9_hold_17 : decode cX9_hold 17 = .ok (.aload_n 0, 1) := by decide +kernel
theorem dX9_hold_18 : decode cX9_hold 18 = .ok (.getfield 29, 3) := by decide +kernel
theorem dX9_hold_21 : decode cX9_hold 21 = .ok (.aload_n 0, 1) := by decide +kernel
theorem dX9_hold_22 : decode cX9_hold 22 = .ok (.getfield 12, 3) := by decide +kernel
theorem dX9_hold_25 : decode cX9_hold 25 = .ok (.invokevirtual 298, 3) := by decide +kernel
theorem dX9_hold_28 : decode cX9_hold 28 = .ok (.aload_n 0, 1) := by decide +kernel
theorem dX9_hold_29 : decode cX9_hold 29 = .ok (.getfield 12, 3) := by decide +kernel
theorem dX9_hold_32 : decode cX9_hold 32 = .ok (.dup, 1) := by decide +kernel
theorem dX9_hold_33 : decode cX9_hold 33 = .ok (.getfield 148, 3) := by decide +kernel
theorem dX9_hold_36 : decode cX9_hold 36 = .ok (.iconst 1, 1) := by decide +kernel
theorem dX9_hold_37 : decode cX9_hold 37 = .ok (.iadd, 1) := by decide +kernel
theorem dX9_hold_38 : decode cX9_hold 38 = .ok (.putfield 148, 3) := by decide +kernel
theorem dX9_hold_41 : decode cX9_hold 41 = .ok (.aload_n 0, 1) := by decide +kernel
theorem dX9_hold_42 : decode cX9_hold 42 = .ok (.getfield 12, 3) := by decide +kernel
theorem dX9_hold_45 : decode cX9_hold 45 = .ok (.getfield 116, 3) := by decide +kernel
theorem dX9_hold_48 : decode cX9_hold 48 = .ok (.invokevirtual 304, 3) := by decide +kernel
theorem dX9_hold_51 : decode cX9_hold 51 = .ok (.aload_n 0, 1) := by decide +kernel
theorem dX9_hold_52 : decode cX9_hold 52 = .ok (.getfield 12, 3) := by decide +kernel
theorem dX9_hold_55 : decode cX9_hold 55 = .ok (.invokevirtual 307, 3) := by decide +kernel
theorem dX9_hold_58 : decode cX9_hold 58 = .ok (.ireturn, 1) := by decide +kernel
theorem dX9_clear_0 : decode cX9_clear 0 = .ok (.aload_n 0, 1) := by decide +kernel
theorem dX9_clear_1 : decode cX9_clear 1 = .ok (.getfield 29, 3) := by decide +kernel
theorem dX9_clear_4 : decode cX9_clear 4 = .ok (.aload_n 0, 1) := by decide +kernel
theorem dX9_clear_5 : decode cX9_clear 5 = .ok (.getfield 12, 3) := by decide +kernel
theorem dX9_clear_8 : decode cX9_clear 8 = .ok (.invokevirtual 298, 3) := by decide +kernel
theorem dX9_clear_11 : decode cX9_clear 11 = .ok (.aload_n 0, 1) := by decide +kernel
theorem dX9_clear_12 : decode cX9_clear 12 = .ok (.getfield 12, 3) := by decide +kernel
theorem dX9_clear_15 : decode cX9_clear 15 = .ok (.getfield 138, 3) := by decide +kernel
theorem dX9_clear_18 : decode cX9_clear 18 = .ok (.invokevirtual 144, 3) := by decide +kernel
theorem dX9_clear_21 : decode cX9_clear 21 = .ok (.istore_n 1, 1) := by decide +kernel
theorem dX9_clear_22 : decode cX9_clear 22 = .ok (.aload_n 0, 1) := by decide +kernel
theorem dX9_clear_23 : decode cX9_clear 23 = .ok (.getfield 12, 3) := by decide +kernel
theorem dX9_clear_26 : decode cX9_clear 26 = .ok (.getfield 138, 3) := by decide +kernel
theorem dX9_clear_29 : decode cX9_clear 29 = .ok (.invokevirtual 310, 3) := by decide +kernel
theorem dX9_clear_32 : decode cX9_clear 32 = .ok (.iload_n 1, 1) := by decide +kernel
theorem dX9_clear_33 : decode cX9_clear 33 = .ok (.ireturn, 1) := by decide +kernel
theorem dX9_borrow_0 : decode cX9_borrow 0 = .ok (.aload_n 0, 1) := by decide +kernel
theorem dX9_borrow_1 : decode cX9_borrow 1 = .ok (.iload_n 1, 1) := by decide +kernel
theorem dX9_borrow_2 : decode cX9_borrow 2 = .ok (.invokevirtual 193, 3) := by decide +kernel
theorem dX9_borrow_5 : decode cX9_borrow 5 = .ok (.iload_n 2, 1) := by decide +kernel
theorem dX9_borrow_6 : decode cX9_borrow 6 = .ok (.invokestatic 185, 3) := by decide +kernel
theorem dX9_borrow_9 : decode cX9_borrow 9 = .ok (.iload_n 3, 1) := by decide +kernel
theorem dX9_borrow_10 : decode cX9_borrow 10 = .ok (.invokestatic 313, 3) := by decide +kernel
theorem dX9_borrow_13 : decode cX9_borrow 13 = .ok (.iload_n 1, 1) := by decide +kernel
theorem dX9_borrow_14 : decode cX9_borrow 14 = .ok (.bipush 10, 2) := by decide +kernel
theorem dX9_borrow_16 : decode cX9_borrow 16 = .ok (.imul, 1) := by decide +kernel
theorem dX9_borrow_17 : decode cX9_borrow 17 = .ok (.iload_n 2, 1) := by decide +kernel
theorem dX9_borrow_18 : decode cX9_borrow 18 = .ok (.iadd, 1) := by decide +kernel
theorem dX9_borrow_19 : decode cX9_borrow 19 = .ok (.istore 4, 2) := by decide +kernel
theorem dX9_borrow_21 : decode cX9_borrow 21 = .ok (.iload_n 3, 1) := by decide +kernel
theorem dX9_borrow_22 : decode cX9_borrow 22 = .ok (.aload_n 0, 1) := by decide +kernel
theorem dX9_borrow_23 : decode cX9_borrow 23 = .ok (.getfield 12, 3) := by decide +kernel
theorem dX9_borrow_26 : decode cX9_borrow 26 = .ok (.getfield 116, 3) := by decide +kernel
theorem dX9_borrow_29 : decode cX9_borrow 29 = .ok (.getfield 196, 3) := by decide +kernel
theorem dX9_borrow_32 : decode cX9_borrow 32 = .ok (.iload 4, 2) := by decide +kernel
theorem dX9_borrow_34 : decode cX9_borrow 34 = .ok (.iaload, 1) := by decide +kernel
theorem dX9_borrow_35 : decode cX9_borrow 35 = .ok (.if_icmp .le 6, 3) := by decide +kernel
theorem dX9_borrow_38 : decode cX9_borrow 38 = .ok (.bipush (-3), 2) := by decide +kernel
theorem dX9_borrow_40 : decode cX9_borrow 40 = .ok (.ireturn, 1) := by decide +kernel
theorem dX9_borrow_41 : decode cX9_borrow 41 = .ok (.aload_n 0, 1) := by decide +kernel
theorem dX9_borrow_42 : decode cX9_borrow 42 = .ok (.getfield 12, 3) := by decide +kernel
theorem dX9_borrow_45 : decode cX9_borrow 45 = .ok (.getfield 116, 3) := by decide +kernel
theorem dX9_borrow_48 : decode cX9_borrow 48 = .ok (.getfield 135, 3) := by decide +kernel
theorem dX9_borrow_51 : decode cX9_borrow 51 = .ok (.bipush 12, 2) := by decide +kernel
theorem dX9_borrow_53 : decode cX9_borrow 53 = .ok (.if_icmp .ne 6, 3) := by decide +kernel
theorem dX9_borrow_56 : decode cX9_borrow 56 = .ok (.bipush (-2), 2) := by decide +kernel
theorem dX9_borrow_58 : decode cX9_borrow 58 = .ok (.ireturn, 1) := by decide +kernel
theorem dX9_borrow_59 : decode cX9_borrow 59 = .ok (.aload_n 0, 1) := by decide +kernel
theorem dX9_borrow_60 : decode cX9_borrow 60 = .ok (.getfield 29, 3) := by decide +kernel
theorem dX9_borrow_63 : decode cX9_borrow 63 = .ok (.aload_n 0, 1) := by decide +kernel
theorem dX9_borrow_64 : decode cX9_borrow 64 = .ok (.getfield 12, 3) := by decide +kernel
theorem dX9_borrow_67 : decode cX9_borrow 67 = .ok (.invokevirtual 298, 3) := by decide +kernel
theorem dX9_borrow_70 : decode cX9_borrow 70 = .ok (.aload_n 0, 1) := by decide +kernel
theorem dX9_borrow_71 : decode cX9_borrow 71 = .ok (.getfield 12, 3) := by decide +kernel
theorem dX9_borrow_74 : decode cX9_borrow 74 = .ok (.getfield 116, 3) := by decide +kernel
theorem dX9_borrow_77 : decode cX9_borrow 77 = .ok (.iload 4, 2) := by decide +kernel
theorem dX9_borrow_79 : decode cX9_borrow 79 = .ok (.iload_n 3, 1) := by decide +kernel
theorem dX9_borrow_80 : decode cX9_borrow 80 = .ok (.invokevirtual 316, 3) := by decide +kernel
theorem dX9_borrow_83 : decode cX9_borrow 83 = .ok (.ireturn, 1) := by decide +kernel
theorem dX9_giveBack_0 : decode cX9_giveBack 0 = .ok (.iload_n 1, 1) := by decide +kernel
theorem dX9_giveBack_1 : decode cX9_giveBack 1 = .ok (.iconst 0, 1) := by decide +kernel
theorem dX9_giveBack_2 : decode cX9_giveBack 2 = .ok (.aload_n 0, 1) := by decide +kernel
theorem dX9_giveBack_3 : decode cX9_giveBack 3 = .ok (.getfield 12, 3) := by decide +kernel
theorem dX9_giveBack_6 : decode cX9_giveBack 6 = .ok (.getfield 116, 3) := by decide +kernel
theorem dX9_giveBack_9 : decode cX9_giveBack 9 = .ok (.getfield 135, 3) := by decide +kernel
theorem dX9_giveBack_12 : decode cX9_giveBack 12 = .ok (.iconst 1, 1) := by decide +kernel
theorem dX9_giveBack_13 : decode cX9_giveBack 13 = .ok (.isub, 1) := by decide +kernel
theorem dX9_giveBack_14 : decode cX9_giveBack 14 = .ok (.invokestatic 199, 3) := by decide +kernel
theorem dX9_giveBack_17 : decode cX9_giveBack 17 = .ok (.invokestatic 203, 3) := by decide +kernel
theorem dX9_giveBack_20 : decode cX9_giveBack 20 = .ok (.aload_n 0, 1) := by decide +kernel
theorem dX9_giveBack_21 : decode cX9_giveBack 21 = .ok (.getfield 29, 3) := by decide +kernel
theorem dX9_giveBack_24 : decode cX9_giveBack 24 = .ok (.aload_n 0, 1) := by decide +kernel
theorem dX9_giveBack_25 : decode cX9_giveBack 25 = .ok (.getfield 12, 3) := by decide +kernel
theorem dX9_giveBack_28 : decode cX9_giveBack 28 = .ok (.invokevirtual 298, 3) := by decide +kernel
theorem dX9_giveBack_31 : decode cX9_giveBack 31 = .ok (.aload_n 0, 1) := by decide +kernel
theorem dX9_giveBack_32 : decode cX9_giveBack 32 = .ok (.getfield 12, 3) := by decide +kernel
theorem dX9_giveBack_35 : decode cX9_giveBack 35 = .ok (.getfield 116, 3) := by decide +kernel
theorem dX9_giveBack_38 : decode cX9_giveBack 38 = .ok (.iload_n 1, 1) := by decide +kernel
theorem dX9_giveBack_39 : decode cX9_giveBack 39 = .ok (.invokevirtual 319, 3) := by decide +kernel
theorem dX9_giveBack_42 : decode cX9_giveBack 42 = .ok (.aload_n 0, 1) := by decide +kernel
theorem dX9_giveBack_43 : decode cX9_giveBack 43 = .ok (.getfield 12, 3) := by decide +kernel
theorem dX9_giveBack_46 : decode cX9_giveBack 46 = .ok (.invokevirtual 307, 3) := by decide +kernel
theorem dX9_giveBack_49 : decode cX9_giveBack 49 = .ok (.ireturn, 1) := by decide +kernel
theorem dX9_buy_0 : decode cX9_buy 0 = .ok (.aload_n 0, 1) := by decide +kernel
theorem dX9_buy_1 : decode cX9_buy 1 = .ok (.iload_n 1, 1) := by decide +kernel
theorem dX9_buy_2 : decode cX9_buy 2 = .ok (.invokevirtual 322, 3) := by decide +kernel
theorem dX9_buy_5 : decode cX9_buy 5 = .ok (.iload_n 2, 1) := by decide +kernel
theorem dX9_buy_6 : decode cX9_buy 6 = .ok (.invokestatic 313, 3) := by decide +kernel
theorem dX9_buy_9 : decode cX9_buy 9 = .ok (.aload_n 0, 1) := by decide +kernel
theorem dX9_buy_10 : decode cX9_buy 10 = .ok (.getfield 12, 3) := by decide +kernel
theorem dX9_buy_13 : decode cX9_buy 13 = .ok (.getfield 116, 3) := by decide +kernel
theorem dX9_buy_16 : decode cX9_buy 16 = .ok (.getfield 179, 3) := by decide +kernel
theorem dX9_buy_19 : decode cX9_buy 19 = .ok (.iload_n 1, 1) := by decide +kernel
theorem dX9_buy_20 : decode cX9_buy 20 = .ok (.iaload, 1) := by decide +kernel
theorem dX9_buy_21 : decode cX9_buy 21 = .ok (.iload_n 2, 1) := by decide +kernel
theorem dX9_buy_22 : decode cX9_buy 22 = .ok (.iadd, 1) := by decide +kernel
theorem dX9_buy_23 : decode cX9_buy 23 = .ok (.bipush 60, 2) := by decide +kernel
theorem dX9_buy_25 : decode cX9_buy 25 = .ok (.if_icmp .le 6, 3) := by decide +kernel
theorem dX9_buy_28 : decode cX9_buy 28 = .ok (.bipush (-2), 2) := by decide +kernel
theorem dX9_buy_30 : decode cX9_buy 30 = .ok (.ireturn, 1) := by decide +kernel
theorem dX9_buy_31 : decode cX9_buy 31 = .ok (.aload_n 0, 1) := by decide +kernel
theorem dX9_buy_32 : decode cX9_buy 32 = .ok (.getfield 29, 3) := by decide +kernel
theorem dX9_buy_35 : decode cX9_buy 35 = .ok (.aload_n 0, 1) := by decide +kernel
theorem dX9_buy_36 : decode cX9_buy 36 = .ok (.getfield 12, 3) := by decide +kernel
theorem dX9_buy_39 : decode cX9_buy 39 = .ok (.invokevirtual 298, 3) := by decide +kernel
theorem dX9_buy_42 : decode cX9_buy 42 = .ok (.aload_n 0, 1) := by decide +kernel
theorem dX9_buy_43 : decode cX9_buy 43 = .ok (.getfield 12, 3) := by decide +kernel
theorem dX9_buy_46 : decode cX9_buy 46 = .ok (.getfield 116, 3) := by decide +kernel
theorem dX9_buy_49 : decode cX9_buy 49 = .ok (.getfield 179, 3) := by decide +kernel
theorem dX9_buy_52 : decode cX9_buy 52 = .ok (.iload_n 1, 1) := by decide +kernel
theorem dX9_buy_53 : decode cX9_buy 53 = .ok (.dup2, 1) := by decide +kernel
theorem dX9_buy_54 : decode cX9_buy 54 = .ok (.iaload, 1) := by decide +kernel
theorem dX9_buy_55 : decode cX9_buy 55 = .ok (.iload_n 2, 1) := by decide +kernel
theorem dX9_buy_56 : decode cX9_buy 56 = .ok (.iadd, 1) := by decide +kernel
theorem dX9_buy_57 : decode cX9_buy 57 = .ok (.iastore, 1) := by decide +kernel
theorem dX9_buy_58 : decode cX9_buy 58 = .ok (.aload_n 0, 1) := by decide +kernel
theorem dX9_buy_59 : decode cX9_buy 59 = .ok (.getfield 12, 3) := by decide +kernel
theorem dX9_buy_62 : decode cX9_buy 62 = .ok (.getfield 116, 3) := by decide +kernel
theorem dX9_buy_65 : decode cX9_buy 65 = .ok (.getfield 179, 3) := by decide +kernel
theorem dX9_buy_68 : decode cX9_buy 68 = .ok (.iload_n 1, 1) := by decide +kernel
theorem dX9_buy_69 : decode cX9_buy 69 = .ok (.iaload, 1) := by decide +kernel
theorem dX9_buy_70 : decode cX9_buy 70 = .ok (.ireturn, 1) := by decide +kernel
theorem dX9_lose_0 : decode cX9_lose 0 = .ok (.aload_n 0, 1) := by decide +kernel
theorem dX9_lose_1 : decode cX9_lose 1 = .ok (.iload_n 1, 1) := by decide +kernel
theorem dX9_lose_2 : decode cX9_lose 2 = .ok (.invokevirtual 322, 3) := by decide +kernel
theorem dX9_lose_5 : decode cX9_lose 5 = .ok (.iload_n 2, 1) := by decide +kernel
theorem dX9_lose_6 : decode cX9_lose 6 = .ok (.invokestatic 313, 3) := by decide +kernel
theorem dX9_lose_9 : decode cX9_lose 9 = .ok (.aload_n 0, 1) := by decide +kernel
theorem dX9_lose_10 : decode cX9_lose 10 = .ok (.getfield 12, 3) := by decide +kernel
theorem dX9_lose_13 : decode cX9_lose 13 = .ok (.getfield 116, 3) := by decide +kernel
theorem dX9_lose_16 : decode cX9_lose 16 = .ok (.getfield 179, 3) := by decide +kernel
theorem dX9_lose_19 : decode cX9_lose 19 = .ok (.iload_n 1, 1) := by decide +kernel
theorem dX9_lose_20 : decode cX9_lose 20 = .ok (.iaload, 1) := by decide +kernel
theorem dX9_lose_21 : decode cX9_lose 21 = .ok (.iload_n 2, 1) := by decide +kernel
theorem dX9_lose_22 : decode cX9_lose 22 = .ok (.if_icmp .ge 6, 3) := by decide +kernel
theorem dX9_lose_25 : decode cX9_lose 25 = .ok (.bipush (-3), 2) := by decide +kernel
theorem dX9_lose_27 : decode cX9_lose 27 = .ok (.ireturn, 1) := by decide +kernel
theorem dX9_lose_28 : decode cX9_lose 28 = .ok (.aload_n 0, 1) := by decide +kernel
theorem dX9_lose_29 : decode cX9_lose 29 = .ok (.getfield 29, 3) := by decide +kernel
theorem dX9_lose_32 : decode cX9_lose 32 = .ok (.aload_n 0, 1) := by decide +kernel
theorem dX9_lose_33 : decode cX9_lose 33 = .ok (.getfield 12, 3) := by decide +kernel
theorem dX9_lose_36 : decode cX9_lose 36 = .ok (.invokevirtual 298, 3) := by decide +kernel
theorem dX9_lose_39 : decode cX9_lose 39 = .ok (.aload_n 0, 1) := by decide +kernel
theorem dX9_lose_40 : decode cX9_lose 40 = .ok (.getfield 12, 3) := by decide +kernel
theorem dX9_lose_43 : decode cX9_lose 43 = .ok (.getfield 116, 3) := by decide +kernel
theorem dX9_lose_46 : decode cX9_lose 46 = .ok (.getfield 179, 3) := by decide +kernel
theorem dX9_lose_49 : decode cX9_lose 49 = .ok (.iload_n 1, 1) := by decide +kernel
theorem dX9_lose_50 : decode cX9_lose 50 = .ok (.dup2, 1) := by decide +kernel
theorem dX9_lose_51 : decode cX9_lose 51 = .ok (.iaload, 1) := by decide +kernel
theorem dX9_lose_52 : decode cX9_lose 52 = .ok (.iload_n 2, 1) := by decide +kernel
theorem dX9_lose_53 : decode cX9_lose 53 = .ok (.isub, 1) := by decide +kernel
theorem dX9_lose_54 : decode cX9_lose 54 = .ok (.iastore, 1) := by decide +kernel
theorem dX9_lose_55 : decode cX9_lose 55 = .ok (.aload_n 0, 1) := by decide +kernel
theorem dX9_lose_56 : decode cX9_lose 56 = .ok (.getfield 12, 3) := by decide +kernel
theorem dX9_lose_59 : decode cX9_lose 59 = .ok (.invokevirtual 307, 3) := by decide +kernel
theorem dX9_lose_62 : decode cX9_lose 62 = .ok (.ireturn, 1) := by decide +kernel
theorem dX9_addCard_0 : decode cX9_addCard 0 = .ok (.iload_n 1, 1) := by decide +kernel
theorem dX9_addCard_1 : decode cX9_addCard 1 = .ok (.invokestatic 185, 3) := by decide +kernel
theorem dX9_addCard_4 : decode cX9_addCard 4 = .ok (.iload_n 2, 1) := by decide +kernel
theorem dX9_addCard_5 : decode cX9_addCard 5 = .ok (.iconst (-1), 1) := by decide +kernel
theorem dX9_addCard_6 : decode cX9_addCard 6 = .ok (.bipush 9, 2) := by decide +kernel
theorem dX9_addCard_8 : decode cX9_addCard 8 = .ok (.invokestatic 199, 3) := by decide +kernel
theorem dX9_addCard_11 : decode cX9_addCard 11 = .ok (.invokestatic 228, 3) := by decide +kernel
theorem dX9_addCard_14 : decode cX9_addCard 14 = .ok (.iload_n 3, 1) := by decide +kernel
theorem dX9_addCard_15 : decode cX9_addCard 15 = .ok (.iconst 0, 1) := by decide +kernel
theorem dX9_addCard_16 : decode cX9_addCard 16 = .ok (.bipush 60, 2) := by decide +kernel
theorem dX9_addCard_18 : decode cX9_addCard 18 = .ok (.invokestatic 199, 3) := by decide +kernel
theorem dX9_addCard_21 : decode cX9_addCard 21 = .ok (.invokestatic 228, 3) := by decide +kernel
theorem dX9_addCard_24 : decode cX9_addCard 24 = .ok (.aload_n 0, 1) := by decide +kernel
theorem dX9_addCard_25 : decode cX9_addCard 25 = .ok (.getfield 12, 3) := by decide +kernel
theorem dX9_addCard_28 : decode cX9_addCard 28 = .ok (.getfield 116, 3) := by decide +kernel
theorem dX9_addCard_31 : decode cX9_addCard 31 = .ok (.getfield 129, 3) := by decide +kernel
theorem dX9_addCard_34 : decode cX9_addCard 34 = .ok (.bipush 12, 2) := by decide +kernel
theorem dX9_addCard_36 : decode cX9_addCard 36 = .ok (.if_icmp .ne 6, 3) := by decide +kernel
theorem dX9_addCard_39 : decode cX9_addCard 39 = .ok (.bipush (-2), 2) := by decide +kernel
theorem dX9_addCard_41 : decode cX9_addCard 41 = .ok (.ireturn, 1) := by decide +kernel
theorem dX9_addCard_42 : decode cX9_addCard 42 = .ok (.aload_n 0, 1) := by decide +kernel
theorem dX9_addCard_43 : decode cX9_addCard 43 = .ok (.getfield 29, 3) := by decide +kernel
theorem dX9_addCard_46 : decode cX9_addCard 46 = .ok (.aload_n 0, 1) := by decide +kernel
theorem dX9_addCard_47 : decode cX9_addCard 47 = .ok (.getfield 12, 3) := by decide +kernel
theorem dX9_addCard_50 : decode cX9_addCard 50 = .ok (.invokevirtual 298, 3) := by decide +kernel
theorem dX9_addCard_53 : decode cX9_addCard 53 = .ok (.aload_n 0, 1) := by decide +kernel
theorem dX9_addCard_54 : decode cX9_addCard 54 = .ok (.getfield 12, 3) := by decide +kernel
theorem dX9_addCard_57 : decode cX9_addCard 57 = .ok (.getfield 116, 3) := by decide +kernel
theorem dX9_addCard_60 : decode cX9_addCard 60 = .ok (.iload_n 1, 1) := by decide +kernel
theorem dX9_addCard_61 : decode cX9_addCard 61 = .ok (.iload_n 2, 1) := by decide +kernel
theorem dX9_addCard_62 : decode cX9_addCard 62 = .ok (.iload_n 3, 1) := by decide +kernel
theorem dX9_addCard_63 : decode cX9_addCard 63 = .ok (.invokevirtual 325, 3) := by decide +kernel
theorem dX9_addCard_66 : decode cX9_addCard 66 = .ok (.ireturn, 1) := by decide +kernel
theorem dX9_setTurn_0 : decode cX9_setTurn 0 = .ok (.aload_n 0, 1) := by decide +kernel
theorem dX9_setTurn_1 : decode cX9_setTurn 1 = .ok (.getfield 29, 3) := by decide +kernel
theorem dX9_setTurn_4 : decode cX9_setTurn 4 = .ok (.aload_n 0, 1) := by decide +kernel
theorem dX9_setTurn_5 : decode cX9_setTurn 5 = .ok (.getfield 12, 3) := by decide +kernel
theorem dX9_setTurn_8 : decode cX9_setTurn 8 = .ok (.invokevirtual 298, 3) := by decide +kernel
theorem dX9_setTurn_11 : decode cX9_setTurn 11 = .ok (.aload_n 0, 1) := by decide +kernel
theorem dX9_setTurn_12 : decode cX9_setTurn 12 = .ok (.getfield 12, 3) := by decide +kernel
theorem dX9_setTurn_15 : decode cX9_setTurn 15 = .ok (.getfield 116, 3) := by decide +kernel
theorem dX9_setTurn_18 : decode cX9_setTurn 18 = .ok (.getfield 120, 3) := by decide +kernel
theorem dX9_setTurn_21 : decode cX9_setTurn 21 = .ok (.istore_n 2, 1) := by decide +kernel
theorem dX9_setTurn_22 : decode cX9_setTurn 22 = .ok (.aload_n 0, 1) := by decide +kernel
theorem dX9_setTurn_23 : decode cX9_setTurn 23 = .ok (.getfield 12, 3) := by decide +kernel
theorem dX9_setTurn_26 : decode cX9_setTurn 26 = .ok (.getfield 116, 3) := by decide +kernel
theorem dX9_setTurn_29 : decode cX9_setTurn 29 = .ok (.iload_n 1, 1) := by decide +kernel
theorem dX9_setTurn_30 : decode cX9_setTurn 30 = .ok (.putfield 120, 3) := by decide +kernel
theorem dX9_setTurn_33 : decode cX9_setTurn 33 = .ok (.iload_n 2, 1) := by decide +kernel
theorem dX9_setTurn_34 : decode cX9_setTurn 34 = .ok (.ireturn, 1) := by decide +kernel
theorem dX9_setSplit_0 : decode cX9_setSplit 0 = .ok (.aload_n 0, 1) := by decide +kernel
theorem dX9_setSplit_1 : decode cX9_setSplit 1 = .ok (.getfield 29, 3) := by decide +kernel
theorem dX9_setSplit_4 : decode cX9_setSplit 4 = .ok (.aload_n 0, 1) := by decide +kernel
theorem dX9_setSplit_5 : decode cX9_setSplit 5 = .ok (.getfield 12, 3) := by decide +kernel
theorem dX9_setSplit_8 : decode cX9_setSplit 8 = .ok (.invokevirtual 298, 3) := by decide +kernel
theorem dX9_setSplit_11 : decode cX9_setSplit 11 = .ok (.aload_n 0, 1) := by decide +kernel
theorem dX9_setSplit_12 : decode cX9_setSplit 12 = .ok (.getfield 12, 3) := by decide +kernel
theorem dX9_setSplit_15 : decode cX9_setSplit 15 = .ok (.getfield 126, 3) := by decide +kernel
theorem dX9_setSplit_18 : decode cX9_setSplit 18 = .ok (.istore_n 2, 1) := by decide +kernel
theorem dX9_setSplit_19 : decode cX9_setSplit 19 = .ok (.aload_n 0, 1) := by decide +kernel
theorem dX9_setSplit_20 : decode cX9_setSplit 20 = .ok (.getfield 12, 3) := by decide +kernel
theorem dX9_setSplit_23 : decode cX9_setSplit 23 = .ok (.iload_n 1, 1) := by decide +kernel
theorem dX9_setSplit_24 : decode cX9_setSplit 24 = .ok (.putfield 126, 3) := by decide +kernel
theorem dX9_setSplit_27 : decode cX9_setSplit 27 = .ok (.iload_n 2, 1) := by decide +kernel
theorem dX9_setSplit_28 : decode cX9_setSplit 28 = .ok (.ireturn, 1) := by decide +kernel
theorem dX9_setHymn_0 : decode cX9_setHymn 0 = .ok (.aload_n 0, 1) := by decide +kernel
theorem dX9_setHymn_1 : decode cX9_setHymn 1 = .ok (.iload_n 1, 1) := by decide +kernel
theorem dX9_setHymn_2 : decode cX9_setHymn 2 = .ok (.invokevirtual 216, 3) := by decide +kernel
theorem dX9_setHymn_5 : decode cX9_setHymn 5 = .ok (.iload_n 3, 1) := by decide +kernel
theorem dX9_setHymn_6 : decode cX9_setHymn 6 = .ok (.invokestatic 253, 3) := by decide +kernel
theorem dX9_setHymn_9 : decode cX9_setHymn 9 = .ok (.aload_n 0, 1) := by decide +kernel
theorem dX9_setHymn_10 : decode cX9_setHymn 10 = .ok (.getfield 12, 3) := by decide +kernel
theorem dX9_setHymn_13 : decode cX9_setHymn 13 = .ok (.getfield 97, 3) := by decide +kernel
theorem dX9_setHymn_16 : decode cX9_setHymn 16 = .ok (.iload_n 1, 1) := by decide +kernel
theorem dX9_setHymn_17 : decode cX9_setHymn 17 = .ok (.iload_n 2, 1) := by decide +kernel
theorem dX9_setHymn_18 : decode cX9_setHymn 18 = .ok (.invokevirtual 221, 3) := by decide +kernel
theorem dX9_setHymn_21 : decode cX9_setHymn 21 = .ok (.istore 4, 2) := by decide +kernel
theorem dX9_setHymn_23 : decode cX9_setHymn 23 = .ok (.iload 4, 2) := by decide +kernel
theorem dX9_setHymn_25 : decode cX9_setHymn 25 = .ok (.iconst (-1), 1) := by decide +kernel
theorem dX9_setHymn_26 : decode cX9_setHymn 26 = .ok (.if_icmp .ne 6, 3) := by decide +kernel
theorem dX9_setHymn_29 : decode cX9_setHymn 29 = .ok (.bipush (-3), 2) := by decide +kernel
theorem dX9_setHymn_31 : decode cX9_setHymn 31 = .ok (.ireturn, 1) := by decide +kernel
theorem dX9_setHymn_32 : decode cX9_setHymn 32 = .ok (.aload_n 0, 1) := by decide +kernel
theorem dX9_setHymn_33 : decode cX9_setHymn 33 = .ok (.getfield 29, 3) := by decide +kernel
theorem dX9_setHymn_36 : decode cX9_setHymn 36 = .ok (.aload_n 0, 1) := by decide +kernel
theorem dX9_setHymn_37 : decode cX9_setHymn 37 = .ok (.getfield 12, 3) := by decide +kernel
theorem dX9_setHymn_40 : decode cX9_setHymn 40 = .ok (.invokevirtual 298, 3) := by decide +kernel
theorem dX9_setHymn_43 : decode cX9_setHymn 43 = .ok (.aload_n 0, 1) := by decide +kernel
theorem dX9_setHymn_44 : decode cX9_setHymn 44 = .ok (.getfield 12, 3) := by decide +kernel
theorem dX9_setHymn_47 : decode cX9_setHymn 47 = .ok (.getfield 97, 3) := by decide +kernel
theorem dX9_setHymn_50 : decode cX9_setHymn 50 = .ok (.getfield 329, 3) := by decide +kernel
theorem dX9_setHymn_53 : decode cX9_setHymn 53 = .ok (.iload_n 1, 1) := by decide +kernel
theorem dX9_setHymn_54 : decode cX9_setHymn 54 = .ok (.bipush 8, 2) := by decide +kernel
theorem dX9_setHymn_56 : decode cX9_setHymn 56 = .ok (.imul, 1) := by decide +kernel
theorem dX9_setHymn_57 : decode cX9_setHymn 57 = .ok (.iload_n 2, 1) := by decide +kernel
theorem dX9_setHymn_58 : decode cX9_setHymn 58 = .ok (.iadd, 1) := by decide +kernel
theorem dX9_setHymn_59 : decode cX9_setHymn 59 = .ok (.iload_n 3, 1) := by decide +kernel
theorem dX9_setHymn_60 : decode cX9_setHymn 60 = .ok (.iastore, 1) := by decide +kernel
theorem dX9_setHymn_61 : decode cX9_setHymn 61 = .ok (.iload 4, 2) := by decide +kernel
theorem dX9_setHymn_63 : decode cX9_setHymn 63 = .ok (.ireturn, 1) := by decide +kernel
theorem dX9_addHymn_0 : decode cX9_addHymn 0 = .ok (.aload_n 0, 1) := by decide +kernel
theorem dX9_addHymn_1 : decode cX9_addHymn 1 = .ok (.iload_n 1, 1) := by decide +kernel
theorem dX9_addHymn_2 : decode cX9_addHymn 2 = .ok (.invokevirtual 216, 3) := by decide +kernel
theorem dX9_addHymn_5 : decode cX9_addHymn 5 = .ok (.iload_n 2, 1) := by decide +kernel
theorem dX9_addHymn_6 : decode cX9_addHymn 6 = .ok (.invokestatic 253, 3) := by decide +kernel
theorem dX9_addHymn_9 : decode cX9_addHymn 9 = .ok (.aload_n 0, 1) := by decide +kernel
theorem dX9_addHymn_10 : decode cX9_addHymn 10 = .ok (.getfield 12, 3) := by decide +kernel
theorem dX9_addHymn_13 : decode cX9_addHymn 13 = .ok (.getfield 97, 3) := by decide +kernel
theorem dX9_addHymn_16 : decode cX9_addHymn 16 = .ok (.getfield 219, 3) := by decide +kernel
theorem dX9_addHymn_19 : decode cX9_addHymn 19 = .ok (.iload_n 1, 1) := by decide +kernel
theorem dX9_addHymn_20 : decode cX9_addHymn 20 = .ok (.iaload, 1) := by decide +kernel
theorem dX9_addHymn_21 : decode cX9_addHymn 21 = .ok (.bipush 8, 2) := by decide +kernel
theorem dX9_addHymn_23 : decode cX9_addHymn 23 = .ok (.if_icmp .ne 6, 3) := by decide +kernel
theorem dX9_addHymn_26 : decode cX9_addHymn 26 = .ok (.bipush (-2), 2) := by decide +kernel
theorem dX9_addHymn_28 : decode cX9_addHymn 28 = .ok (.ireturn, 1) := by decide +kernel
theorem dX9_addHymn_29 : decode cX9_addHymn 29 = .ok (.aload_n 0, 1) := by decide +kernel
theorem dX9_addHymn_30 : decode cX9_addHymn 30 = .ok (.getfield 29, 3) := by decide +kernel
theorem dX9_addHymn_33 : decode cX9_addHymn 33 = .ok (.aload_n 0, 1) := by decide +kernel
theorem dX9_addHymn_34 : decode cX9_addHymn 34 = .ok (.getfield 12, 3) := by decide +kernel
theorem dX9_addHymn_37 : decode cX9_addHymn 37 = .ok (.invokevirtual 298, 3) := by decide +kernel
theorem dX9_addHymn_40 : decode cX9_addHymn 40 = .ok (.aload_n 0, 1) := by decide +kernel
theorem dX9_addHymn_41 : decode cX9_addHymn 41 = .ok (.getfield 12, 3) := by decide +kernel
theorem dX9_addHymn_44 : decode cX9_addHymn 44 = .ok (.getfield 97, 3) := by decide +kernel
theorem dX9_addHymn_47 : decode cX9_addHymn 47 = .ok (.iload_n 1, 1) := by decide +kernel
theorem dX9_addHymn_48 : decode cX9_addHymn 48 = .ok (.iload_n 2, 1) := by decide +kernel
theorem dX9_addHymn_49 : decode cX9_addHymn 49 = .ok (.invokevirtual 330, 3) := by decide +kernel
theorem dX9_addHymn_52 : decode cX9_addHymn 52 = .ok (.ireturn, 1) := by decide +kernel
theorem dX9_turned_0 : decode cX9_turned 0 = .ok (.aload_n 0, 1) := by decide +kernel
theorem dX9_turned_1 : decode cX9_turned 1 = .ok (.getfield 12, 3) := by decide +kernel
theorem dX9_turned_4 : decode cX9_turned 4 = .ok (.getfield 138, 3) := by decide +kernel
theorem dX9_turned_7 : decode cX9_turned 7 = .ok (.invokevirtual 144, 3) := by decide +kernel
theorem dX9_turned_10 : decode cX9_turned 10 = .ok (.istore_n 1, 1) := by decide +kernel
theorem dX9_turned_11 : decode cX9_turned 11 = .ok (.iload_n 1, 1) := by decide +kernel
theorem dX9_turned_12 : decode cX9_turned 12 = .ok (.ifCond .ne 7, 3) := by decide +kernel
theorem dX9_turned_15 : decode cX9_turned 15 = .ok (.fconst 0, 1) := by decide +kernel
theorem dX9_turned_16 : decode cX9_turned 16 = .ok (.goto 17, 3) := by decide +kernel
theorem dX9_turned_19 : decode cX9_turned 19 = .ok (.aload_n 0, 1) := by decide +kernel
theorem dX9_turned_20 : decode cX9_turned 20 = .ok (.getfield 12, 3) := by decide +kernel
theorem dX9_turned_23 : decode cX9_turned 23 = .ok (.getfield 138, 3) := by decide +kernel
theorem dX9_turned_26 : decode cX9_turned 26 = .ok (.invokevirtual 274, 3) := by decide +kernel
theorem dX9_turned_29 : decode cX9_turned 29 = .ok (.i2f, 1) := by decide +kernel
theorem dX9_turned_30 : decode cX9_turned 30 = .ok (.iload_n 1, 1) := by decide +kernel
theorem dX9_turned_31 : decode cX9_turned 31 = .ok (.i2f, 1) := by decide +kernel
theorem dX9_turned_32 : decode cX9_turned 32 = .ok (.fdiv, 1) := by decide +kernel
theorem dX9_turned_33 : decode cX9_turned 33 = .ok (.freturn, 1) := by decide +kernel
theorem dX9_undo_0 : decode cX9_undo 0 = .ok (.aload_n 0, 1) := by decide +kernel
theorem dX9_undo_1 : decode cX9_undo 1 = .ok (.getfield 29, 3) := by decide +kernel
theorem dX9_undo_4 : decode cX9_undo 4 = .ok (.getfield 160, 3) := by decide +kernel
theorem dX9_undo_7 : decode cX9_undo 7 = .ok (.ifCond .ne 5, 3) := by decide +kernel
theorem dX9_undo_10 : decode cX9_undo 10 = .ok (.iconst (-1), 1) := by decide +kernel
theorem dX9_undo_11 : decode cX9_undo 11 = .ok (.ireturn, 1) := by decide +kernel
theorem dX9_undo_12 : decode cX9_undo 12 = .ok (.aload_n 0, 1) := by decide +kernel
theorem dX9_undo_13 : decode cX9_undo 13 = .ok (.getfield 29, 3) := by decide +kernel
theorem dX9_undo_16 : decode cX9_undo 16 = .ok (.aload_n 0, 1) := by decide +kernel
theorem dX9_undo_17 : decode cX9_undo 17 = .ok (.getfield 12, 3) := by decide +kernel
theorem dX9_undo_20 : decode cX9_undo 20 = .ok (.invokevirtual 350, 3) := by decide +kernel
theorem dX9_undo_23 : decode cX9_undo 23 = .ok (.aload_n 0, 1) := by decide +kernel
theorem dX9_undo_24 : decode cX9_undo 24 = .ok (.getfield 29, 3) := by decide +kernel
theorem dX9_undo_27 : decode cX9_undo 27 = .ok (.getfield 160, 3) := by decide +kernel
theorem dX9_undo_30 : decode cX9_undo 30 = .ok (.ireturn, 1) := by decide +kernel
theorem dX9_saveSnapshot_0 : decode cX9_saveSnapshot 0 = .ok (.iload_n 1, 1) := by decide +kernel
theorem dX9_saveSnapshot_1 : decode cX9_saveSnapshot 1 = .ok (.iconst 0, 1) := by decide +kernel
theorem dX9_saveSnapshot_2 : decode cX9_saveSnapshot 2 = .ok (.iconst 1, 1) := by decide +kernel
theorem dX9_saveSnapshot_3 : decode cX9_saveSnapshot 3 = .ok (.invokestatic 199, 3) := by decide +kernel
theorem dX9_saveSnapshot_6 : decode cX9_saveSnapshot 6 = .ok (.invokestatic 228, 3) := by decide +kernel
theorem dX9_saveSnapshot_9 : decode cX9_saveSnapshot 9 = .ok (.aload_n 0, 1) := by decide +kernel
theorem dX9_saveSnapshot_10 : decode cX9_saveSnapshot 10 = .ok (.getfield 33, 3) := by decide +kernel
theorem dX9_saveSnapshot_13 : decode cX9_saveSnapshot 13 = .ok (.iload_n 1, 1) := by decide +kernel
theorem dX9_saveSnapshot_14 : decode cX9_saveSnapshot 14 = .ok (.aaload, 1) := by decide +kernel
theorem dX9_saveSnapshot_15 : decode cX9_saveSnapshot 15 = .ok (.aload_n 0, 1) := by decide +kernel
theorem dX9_saveSnapshot_16 : decode cX9_saveSnapshot 16 = .ok (.getfield 12, 3) := by decide +kernel
theorem dX9_saveSnapshot_19 : decode cX9_saveSnapshot 19 = .ok (.invokevirtual 90, 3) := by decide +kernel
theorem dX9_saveSnapshot_22 : decode cX9_saveSnapshot 22 = .ok (.aload_n 0, 1) := by decide +kernel
theorem dX9_saveSnapshot_23 : decode cX9_saveSnapshot 23 = .ok (.getfield 37, 3) := by decide +kernel
theorem dX9_saveSnapshot_26 : decode cX9_saveSnapshot 26 = .ok (.iload_n 1, 1) := by decide +kernel
theorem dX9_saveSnapshot_27 : decode cX9_saveSnapshot 27 = .ok (.iconst 1, 1) := by decide +kernel
theorem dX9_saveSnapshot_28 : decode cX9_saveSnapshot 28 = .ok (.bastore, 1) := by decide +kernel
theorem dX9_saveSnapshot_29 : decode cX9_saveSnapshot 29 = .ok (.aload_n 0, 1) := by decide +kernel
theorem dX9_saveSnapshot_30 : decode cX9_saveSnapshot 30 = .ok (.getfield 12, 3) := by decide +kernel
theorem dX9_saveSnapshot_33 : decode cX9_saveSnapshot 33 = .ok (.getfield 148, 3) := by decide +kernel
theorem dX9_saveSnapshot_36 : decode cX9_saveSnapshot 36 = .ok (.ireturn, 1) := by decide +kernel
theorem dX9_restoreSnapshot_0 : decode cX9_restoreSnapshot 0 = .ok (.iload_n 1, 1) := by decide +kernel
theorem dX9_restoreSnapshot_1 : decode cX9_restoreSnapshot 1 = .ok (.iconst 0, 1) := by decide +kernel
theorem dX9_restoreSnapshot_2 : decode cX9_restoreSnapshot 2 = .ok (.iconst 1, 1) := by decide +kernel
theorem dX9_restoreSnapshot_3 : decode cX9_restoreSnapshot 3 = .ok (.invokestatic 199, 3) := by decide +kernel
theorem dX9_restoreSnapshot_6 : decode cX9_restoreSnapshot 6 = .ok (.invokestatic 228, 3) := by decide +kernel
theorem dX9_restoreSnapshot_9 : decode cX9_restoreSnapshot 9 = .ok (.aload_n 0, 1) := by decide +kernel
theorem dX9_restoreSnapshot_10 : decode cX9_restoreSnapshot 10 = .ok (.getfield 37, 3) := by decide +kernel
theorem dX9_restoreSnapshot_13 : decode cX9_restoreSnapshot 13 = .ok (.iload_n 1, 1) := by decide +kernel
theorem dX9_restoreSnapshot_14 : decode cX9_restoreSnapshot 14 = .ok (.baload, 1) := by decide +kernel
theorem dX9_restoreSnapshot_15 : decode cX9_restoreSnapshot 15 = .ok (.ifCond .ne 5, 3) := by decide +kernel
theorem dX9_restoreSnapshot_18 : decode cX9_restoreSnapshot 18 = .ok (.iconst (-1), 1) := by decide +kernel
theorem dX9_restoreSnapshot_19 : decode cX9_restoreSnapshot 19 = .ok (.ireturn, 1) := by decide +kernel
theorem dX9_restoreSnapshot_20 : decode cX9_restoreSnapshot 20 = .ok (.aload_n 0, 1) := by decide +kernel
theorem dX9_restoreSnapshot_21 : decode cX9_restoreSnapshot 21 = .ok (.getfield 12, 3) := by decide +kernel
theorem dX9_restoreSnapshot_24 : decode cX9_restoreSnapshot 24 = .ok (.aload_n 0, 1) := by decide +kernel
theorem dX9_restoreSnapshot_25 : decode cX9_restoreSnapshot 25 = .ok (.getfield 33, 3) := by decide +kernel
theorem dX9_restoreSnapshot_28 : decode cX9_restoreSnapshot 28 = .ok (.iload_n 1, 1) := by decide +kernel
theorem dX9_restoreSnapshot_29 : decode cX9_restoreSnapshot 29 = .ok (.aaload, 1) := by decide +kernel
theorem dX9_restoreSnapshot_30 : decode cX9_restoreSnapshot 30 = .ok (.invokevirtual 90, 3) := by decide +kernel
theorem dX9_restoreSnapshot_33 : decode cX9_restoreSnapshot 33 = .ok (.aload_n 0, 1) := by decide +kernel
theorem dX9_restoreSnapshot_34 : decode cX9_restoreSnapshot 34 = .ok (.getfield 29, 3) := by decide +kernel
theorem dX9_restoreSnapshot_37 : decode cX9_restoreSnapshot 37 = .ok (.invokevirtual 94, 3) := by decide +kernel
theorem dX9_restoreSnapshot_40 : decode cX9_restoreSnapshot 40 = .ok (.aload_n 0, 1) := by decide +kernel
theorem dX9_restoreSnapshot_41 : decode cX9_restoreSnapshot 41 = .ok (.getfield 12, 3) := by decide +kernel
theorem dX9_restoreSnapshot_44 : decode cX9_restoreSnapshot 44 = .ok (.getfield 148, 3) := by decide +kernel
theorem dX9_restoreSnapshot_47 : decode cX9_restoreSnapshot 47 = .ok (.ireturn, 1) := by decide +kernel
theorem dX9_within_0 : decode cX9_within 0 = .ok (.iload_n 0, 1) := by decide +kernel
theorem dX9_within_1 : decode cX9_within 1 = .ok (.iload_n 1, 1) := by decide +kernel
theorem dX9_within_2 : decode cX9_within 2 = .ok (.if_icmp .lt 12, 3) := by decide +kernel
theorem dX9_within_5 : decode cX9_within 5 = .ok (.iload_n 0, 1) := by decide +kernel
theorem dX9_within_6 : decode cX9_within 6 = .ok (.iload_n 2, 1) := by decide +kernel
theorem dX9_within_7 : decode cX9_within 7 = .ok (.if_icmp .gt 7, 3) := by decide +kernel
theorem dX9_within_10 : decode cX9_within 10 = .ok (.iconst 1, 1) := by decide +kernel
theorem dX9_within_11 : decode cX9_within 11 = .ok (.goto 4, 3) := by decide +kernel
theorem dX9_within_14 : decode cX9_within 14 = .ok (.iconst 0, 1) := by decide +kernel
theorem dX9_within_15 : decode cX9_within 15 = .ok (.ireturn, 1) := by decide +kernel
theorem dX9_needIndex_0 : decode cX9_needIndex 0 = .ok (.iload_n 0, 1) := by decide +kernel
theorem dX9_needIndex_1 : decode cX9_needIndex 1 = .ok (.ifCond .ne 14, 3) := by decide +kernel
theorem dX9_needIndex_4 : decode cX9_needIndex 4 = .ok (.new 353, 3) := by decide +kernel
theorem dX9_needIndex_7 : decode cX9_needIndex 7 = .ok (.dup, 1) := by decide +kernel
theorem dX9_needIndex_8 : decode cX9_needIndex 8 = .ok (.ldc_w 355, 3) := by decide +kernel
theorem dX9_needIndex_11 : decode cX9_needIndex 11 = .ok (.invokespecial 357, 3) := by decide +kernel
theorem dX9_needIndex_14 : decode cX9_needIndex 14 = .ok (.athrow, 1) := by decide +kernel
theorem dX9_needIndex_15 : decode cX9_needIndex 15 = .ok (.return_, 1) := by decide +kernel
theorem dX9_needArgument_0 : decode cX9_needArgument 0 = .ok (.iload_n 0, 1) := by decide +kernel
theorem dX9_needArgument_1 : decode cX9_needArgument 1 = .ok (.ifCond .ne 14, 3) := by decide +kernel
theorem dX9_needArgument_4 : decode cX9_needArgument 4 = .ok (.new 163, 3) := by decide +kernel
theorem dX9_needArgument_7 : decode cX9_needArgument 7 = .ok (.dup, 1) := by decide +kernel
theorem dX9_needArgument_8 : decode cX9_needArgument 8 = .ok (.ldc_w 358, 3) := by decide +kernel
theorem dX9_needArgument_11 : decode cX9_needArgument 11 = .ok (.invokespecial 167, 3) := by decide +kernel
theorem dX9_needArgument_14 : decode cX9_needArgument 14 = .ok (.athrow, 1) := by decide +kernel
theorem dX9_needArgument_15 : decode cX9_needArgument 15 = .ok (.return_, 1) := by decide +kernel
theorem dX9_needDigit_0 : decode cX9_needDigit 0 = .ok (.iload_n 0, 1) := by decide +kernel
theorem dX9_needDigit_1 : decode cX9_needDigit 1 = .ok (.iconst 0, 1) := by decide +kernel
theorem dX9_needDigit_2 : decode cX9_needDigit 2 = .ok (.bipush 9, 2) := by decide +kernel
theorem dX9_needDigit_4 : decode cX9_needDigit 4 = .ok (.invokestatic 199, 3) := by decide +kernel
theorem dX9_needDigit_7 : decode cX9_needDigit 7 = .ok (.invokestatic 228, 3) := by decide +kernel
theorem dX9_needDigit_10 : decode cX9_needDigit 10 = .ok (.return_, 1) := by decide +kernel
theorem dX9_needHymn_0 : decode cX9_needHymn 0 = .ok (.iload_n 0, 1) := by decide +kernel
theorem dX9_needHymn_1 : decode cX9_needHymn 1 = .ok (.iconst 1, 1) := by decide +kernel
theorem dX9_needHymn_2 : decode cX9_needHymn 2 = .ok (.sipush 999, 3) := by decide +kernel
theorem dX9_needHymn_5 : decode cX9_needHymn 5 = .ok (.invokestatic 199, 3) := by decide +kernel
theorem dX9_needHymn_8 : decode cX9_needHymn 8 = .ok (.invokestatic 228, 3) := by decide +kernel
theorem dX9_needHymn_11 : decode cX9_needHymn 11 = .ok (.return_, 1) := by decide +kernel
theorem dX9_needMany_0 : decode cX9_needMany 0 = .ok (.iload_n 0, 1) := by decide +kernel
theorem dX9_needMany_1 : decode cX9_needMany 1 = .ok (.iconst 1, 1) := by decide +kernel
theorem dX9_needMany_2 : decode cX9_needMany 2 = .ok (.bipush 60, 2) := by decide +kernel
theorem dX9_needMany_4 : decode cX9_needMany 4 = .ok (.invokestatic 199, 3) := by decide +kernel
theorem dX9_needMany_7 : decode cX9_needMany 7 = .ok (.invokestatic 228, 3) := by decide +kernel
theorem dX9_needMany_10 : decode cX9_needMany 10 = .ok (.return_, 1) := by decide +kernel
theorem dX9_needService_0 : decode cX9_needService 0 = .ok (.iload_n 1, 1) := by decide +kernel
theorem dX9_needService_1 : decode cX9_needService 1 = .ok (.iconst 0, 1) := by decide +kernel
theorem dX9_needService_2 : decode cX9_needService 2 = .ok (.aload_n 0, 1) := by decide +kernel
theorem dX9_needService_3 : decode cX9_needService 3 = .ok (.getfield 12, 3) := by decide +kernel
theorem dX9_needService_6 : decode cX9_needService 6 = .ok (.getfield 97, 3) := by decide +kernel
theorem dX9_needService_9 : decode cX9_needService 9 = .ok (.getfield 101, 3) := by decide +kernel
theorem dX9_needService_12 : decode cX9_needService 12 = .ok (.iconst 1, 1) := by decide +kernel
theorem dX9_needService_13 : decode cX9_needService 13 = .ok (.isub, 1) := by decide +kernel
theorem dX9_needService_14 : decode cX9_needService 14 = .ok (.invokestatic 199, 3) := by decide +kernel
theorem dX9_needService_17 : decode cX9_needService 17 = .ok (.invokestatic 203, 3) := by decide +kernel
theorem dX9_needService_20 : decode cX9_needService 20 = .ok (.return_, 1) := by decide +kernel
theorem dX9_needFriend_0 : decode cX9_needFriend 0 = .ok (.iload_n 1, 1) := by decide +kernel
theorem dX9_needFriend_1 : decode cX9_needFriend 1 = .ok (.iconst 0, 1) := by decide +kernel
theorem dX9_needFriend_2 : decode cX9_needFriend 2 = .ok (.aload_n 0, 1) := by decide +kernel
theorem dX9_needFriend_3 : decode cX9_needFriend 3 = .ok (.getfield 12, 3) := by decide +kernel
theorem dX9_needFriend_6 : decode cX9_needFriend 6 = .ok (.getfield 116, 3) := by decide +kernel
theorem dX9_needFriend_9 : decode cX9_needFriend 9 = .ok (.getfield 132, 3) := by decide +kernel
theorem dX9_needFriend_12 : decode cX9_needFriend 12 = .ok (.iconst 1, 1) := by decide +kernel
theorem dX9_needFriend_13 : decode cX9_needFriend 13 = .ok (.isub, 1) := by decide +kernel
theorem dX9_needFriend_14 : decode cX9_needFriend 14 = .ok (.invokestatic 199, 3) := by decide +kernel
theorem dX9_needFriend_17 : decode cX9_needFriend 17 = .ok (.invokestatic 203, 3) := by decide +kernel
theorem dX9_needFriend_20 : decode cX9_needFriend 20 = .ok (.return_, 1) := by decide +kernel
theorem dX9_needOwn_0 : decode cX9_needOwn 0 = .ok (.iload_n 1, 1) := by decide +kernel
theorem dX9_needOwn_1 : decode cX9_needOwn 1 = .ok (.iconst 0, 1) := by decide +kernel
theorem dX9_needOwn_2 : decode cX9_needOwn 2 = .ok (.aload_n 0, 1) := by decide +kernel
theorem dX9_needOwn_3 : decode cX9_needOwn 3 = .ok (.getfield 12, 3) := by decide +kernel
theorem dX9_needOwn_6 : decode cX9_needOwn 6 = .ok (.getfield 116, 3) := by decide +kernel
theorem dX9_needOwn_9 : decode cX9_needOwn 9 = .ok (.getfield 129, 3) := by decide +kernel
theorem dX9_needOwn_12 : decode cX9_needOwn 12 = .ok (.iconst 1, 1) := by decide +kernel
theorem dX9_needOwn_13 : decode cX9_needOwn 13 = .ok (.isub, 1) := by decide +kernel
theorem dX9_needOwn_14 : decode cX9_needOwn 14 = .ok (.invokestatic 199, 3) := by decide +kernel
theorem dX9_needOwn_17 : decode cX9_needOwn 17 = .ok (.invokestatic 203, 3) := by decide +kernel
theorem dX9_needOwn_20 : decode cX9_needOwn 20 = .ok (.return_, 1) := by decide +kernel
theorem dX9_needRow_0 : decode cX9_needRow 0 = .ok (.iload_n 1, 1) := by decide +kernel
theorem dX9_needRow_1 : decode cX9_needRow 1 = .ok (.iconst 0, 1) := by decide +kernel
theorem dX9_needRow_2 : decode cX9_needRow 2 = .ok (.aload_n 0, 1) := by decide +kernel
theorem dX9_needRow_3 : decode cX9_needRow 3 = .ok (.getfield 12, 3) := by decide +kernel
theorem dX9_needRow_6 : decode cX9_needRow 6 = .ok (.getfield 68, 3) := by decide +kernel
theorem dX9_needRow_9 : decode cX9_needRow 9 = .ok (.iconst 1, 1) := by decide +kernel
theorem dX9_needRow_10 : decode cX9_needRow 10 = .ok (.isub, 1) := by decide +kernel
theorem dX9_needRow_11 : decode cX9_needRow 11 = .ok (.invokestatic 199, 3) := by decide +kernel
theorem dX9_needRow_14 : decode cX9_needRow 14 = .ok (.invokestatic 203, 3) := by decide +kernel
theorem dX9_needRow_17 : decode cX9_needRow 17 = .ok (.iload_n 2, 1) := by decide +kernel
theorem dX9_needRow_18 : decode cX9_needRow 18 = .ok (.iconst 0, 1) := by decide +kernel
theorem dX9_needRow_19 : decode cX9_needRow 19 = .ok (.aload_n 0, 1) := by decide +kernel
theorem dX9_needRow_20 : decode cX9_needRow 20 = .ok (.getfield 12, 3) := by decide +kernel
theorem dX9_needRow_23 : decode cX9_needRow 23 = .ok (.getfield 72, 3) := by decide +kernel
theorem dX9_needRow_26 : decode cX9_needRow 26 = .ok (.iload_n 1, 1) := by decide +kernel
theorem dX9_needRow_27 : decode cX9_needRow 27 = .ok (.iaload, 1) := by decide +kernel
theorem dX9_needRow_28 : decode cX9_needRow 28 = .ok (.iconst 1, 1) := by decide +kernel
theorem dX9_needRow_29 : decode cX9_needRow 29 = .ok (.isub, 1) := by decide +kernel
theorem dX9_needRow_30 : decode cX9_needRow 30 = .ok (.invokestatic 199, 3) := by decide +kernel
theorem dX9_needRow_33 : decode cX9_needRow 33 = .ok (.invokestatic 203, 3) := by decide +kernel
theorem dX9_needRow_36 : decode cX9_needRow 36 = .ok (.return_, 1) := by decide +kernel
theorem dX9_sortOf_0 : decode cX9_sortOf 0 = .ok (.iload_n 1, 1) := by decide +kernel
theorem dX9_sortOf_1 : decode cX9_sortOf 1 = .ok (.bipush 100, 2) := by decide +kernel
theorem dX9_sortOf_3 : decode cX9_sortOf 3 = .ok (.if_icmp .ge 10, 3) := by decide +kernel
theorem dX9_sortOf_6 : decode cX9_sortOf 6 = .ok (.aload_n 0, 1) := by decide +kernel
theorem dX9_sortOf_7 : decode cX9_sortOf 7 = .ok (.iload_n 1, 1) := by decide +kernel
theorem dX9_sortOf_8 : decode cX9_sortOf 8 = .ok (.invokevirtual 322, 3) := by decide +kernel
theorem dX9_sortOf_11 : decode cX9_sortOf 11 = .ok (.iload_n 1, 1) := by decide +kernel
theorem dX9_sortOf_12 : decode cX9_sortOf 12 = .ok (.ireturn, 1) := by decide +kernel
theorem dX9_sortOf_13 : decode cX9_sortOf 13 = .ok (.iload_n 1, 1) := by decide +kernel
theorem dX9_sortOf_14 : decode cX9_sortOf 14 = .ok (.bipush 100, 2) := by decide +kernel
theorem dX9_sortOf_16 : decode cX9_sortOf 16 = .ok (.isub, 1) := by decide +kernel
theorem dX9_sortOf_17 : decode cX9_sortOf 17 = .ok (.istore_n 2, 1) := by decide +kernel
theorem dX9_sortOf_18 : decode cX9_sortOf 18 = .ok (.aload_n 0, 1) := by decide +kernel
theorem dX9_sortOf_19 : decode cX9_sortOf 19 = .ok (.iload_n 2, 1) := by decide +kernel
theorem dX9_sortOf_20 : decode cX9_sortOf 20 = .ok (.bipush 10, 2) := by decide +kernel
theorem dX9_sortOf_22 : decode cX9_sortOf 22 = .ok (.idiv, 1) := by decide +kernel
theorem dX9_sortOf_23 : decode cX9_sortOf 23 = .ok (.invokevirtual 193, 3) := by decide +kernel
theorem dX9_sortOf_26 : decode cX9_sortOf 26 = .ok (.bipush 12, 2) := by decide +kernel
theorem dX9_sortOf_28 : decode cX9_sortOf 28 = .ok (.iload_n 2, 1) := by decide +kernel
theorem dX9_sortOf_29 : decode cX9_sortOf 29 = .ok (.iadd, 1) := by decide +kernel
theorem dX9_sortOf_30 : decode cX9_sortOf 30 = .ok (.ireturn, 1) := by decide +kernel
theorem dX9_numberOf_0 : decode cX9_numberOf 0 = .ok (.iload_n 0, 1) := by decide +kernel
theorem dX9_numberOf_1 : decode cX9_numberOf 1 = .ok (.bipush 12, 2) := by decide +kernel
theorem dX9_numberOf_3 : decode cX9_numberOf 3 = .ok (.if_icmp .ge 7, 3) := by decide +kernel
theorem dX9_numberOf_6 : decode cX9_numberOf 6 = .ok (.iload_n 0, 1) := by decide +kernel
theorem dX9_numberOf_7 : decode cX9_numberOf 7 = .ok (.goto 10, 3) := by decide +kernel
theorem dX9_numberOf_10 : decode cX9_numberOf 10 = .ok (.bipush 100, 2) := by decide +kernel
theorem dX9_numberOf_12 : decode cX9_numberOf 12 = .ok (.iload_n 0, 1) := by decide +kernel
theorem dX9_numberOf_13 : decode cX9_numberOf 13 = .ok (.iadd, 1) := by decide +kernel
theorem dX9_numberOf_14 : decode cX9_numberOf 14 = .ok (.bipush 12, 2) := by decide +kernel
theorem dX9_numberOf_16 : decode cX9_numberOf 16 = .ok (.isub, 1) := by decide +kernel
theorem dX9_numberOf_17 : decode cX9_numberOf 17 = .ok (.ireturn, 1) := by decide +kernel
