theorem dX10_init_0 : decode cX10_init 0 = .ok (.aload_n 0, 1) := by decide +kernel
theorem dX10_init_1 : decode cX10_init 1 = .ok (.invokespecial 3, 3) := by decide +kernel
theorem dX10_init_4 : decode cX10_init 4 = .ok (.aload_n 0, 1) := by decide +kernel
theorem dX10_init_5 : decode cX10_init 5 = .ok (.sipush 456, 3) := by decide +kernel
theorem dX10_init_8 : decode cX10_init 8 = .ok (.newarray .int, 2) := by decide +kernel
theorem dX10_init_10 : decode cX10_init 10 = .ok (.putfield 9, 3) := by decide +kernel
theorem dX10_init_13 : decode cX10_init 13 = .ok (.aload_n 0, 1) := by decide +kernel
theorem dX10_init_14 : decode cX10_init 14 = .ok (.sipush 456, 3) := by decide +kernel
theorem dX10_init_17 : decode cX10_init 17 = .ok (.newarray .int, 2) := by decide +kernel
theorem dX10_init_19 : decode cX10_init 19 = .ok (.putfield 13, 3) := by decide +kernel
theorem dX10_init_22 : decode cX10_init 22 = .ok (.aload_n 0, 1) := by decide +kernel
theorem dX10_init_23 : decode cX10_init 23 = .ok (.sipush 912, 3) := by decide +kernel
theorem dX10_init_26 : decode cX10_init 26 = .ok (.newarray .int, 2) := by decide +kernel
theorem dX10_init_28 : decode cX10_init 28 = .ok (.putfield 16, 3) := by decide +kernel
theorem dX10_init_31 : decode cX10_init 31 = .ok (.aload_n 0, 1) := by decide +kernel
theorem dX10_init_32 : decode cX10_init 32 = .ok (.iconst 2, 1) := by decide +kernel
theorem dX10_init_33 : decode cX10_init 33 = .ok (.newarray .boolean, 2) := by decide +kernel
theorem dX10_init_35 : decode cX10_init 35 = .ok (.putfield 19, 3) := by decide +kernel
theorem dX10_init_38 : decode cX10_init 38 = .ok (.aload_n 0, 1) := by decide +kernel
theorem dX10_init_39 : decode cX10_init 39 = .ok (.sipush 3648, 3) := by decide +kernel
theorem dX10_init_42 : decode cX10_init 42 = .ok (.newarray .int, 2) := by decide +kernel
theorem dX10_init_44 : decode cX10_init 44 = .ok (.putfield 23, 3) := by decide +kernel
theorem dX10_init_47 : decode cX10_init 47 = .ok (.aload_n 0, 1) := by decide +kernel
theorem dX10_init_48 : decode cX10_init 48 = .ok (.sipush 500, 3) := by decide +kernel
theorem dX10_init_51 : decode cX10_init 51 = .ok (.newarray .byte, 2) := by decide +kernel
theorem dX10_init_53 : decode cX10_init 53 = .ok (.putfield 26, 3) := by decide +kernel
theorem dX10_init_56 : decode cX10_init 56 = .ok (.aload_n 0, 1) := by decide +kernel
theorem dX10_init_57 : decode cX10_init 57 = .ok (.iconst (-1), 1) := by decide +kernel
theorem dX10_init_58 : decode cX10_init 58 = .ok (.putfield 30, 3) := by decide +kernel
theorem dX10_init_61 : decode cX10_init 61 = .ok (.aload_n 0, 1) := by decide +kernel
theorem dX10_init_62 : decode cX10_init 62 = .ok (.iconst 3, 1) := by decide +kernel
theorem dX10_init_63 : decode cX10_init 63 = .ok (.newarray .int, 2) := by decide +kernel
theorem dX10_init_65 : decode cX10_init 65 = .ok (.putfield 34, 3) := by decide +kernel
theorem dX10_init_68 : decode cX10_init 68 = .ok (.aload_n 0, 1) := by decide +kernel
theorem dX10_init_69 : decode cX10_init 69 = .ok (.iconst (-1), 1) := by decide +kernel
theorem dX10_init_70 : decode cX10_init 70 = .ok (.putfield 37, 3) := by decide +kernel
theorem dX10_init_73 : decode cX10_init 73 = .ok (.aload_n 0, 1) := by decide +kernel
theorem dX10_init_74 : decode cX10_init 74 = .ok (.sipush 1024, 3) := by decide +kernel
theorem dX10_init_77 : decode cX10_init 77 = .ok (.newarray .int, 2) := by decide +kernel
theorem dX10_init_79 : decode cX10_init 79 = .ok (.putfield 40, 3) := by decide +kernel
theorem dX10_init_82 : decode cX10_init 82 = .ok (.aload_n 0, 1) := by decide +kernel
theorem dX10_init_83 : decode cX10_init 83 = .ok (.sipush 1024, 3) := by decide +kernel
theorem dX10_init_86 : decode cX10_init 86 = .ok (.newarray .int, 2) := by decide +kernel
theorem dX10_init_88 : decode cX10_init 88 = .ok (.putfield 43, 3) := by decide +kernel
theorem dX10_init_91 : decode cX10_init 91 = .ok (.aload_n 0, 1) := by decide +kernel
theorem dX10_init_92 : decode cX10_init 92 = .ok (.bipush 43, 2) := by decide +kernel
theorem dX10_init_94 : decode cX10_init 94 = .ok (.newarray .int, 2) := by decide +kernel
theorem dX10_init_96 : decode cX10_init 96 = .ok (.putfield 46, 3) := by decide +kernel
theorem dX10_init_99 : decode cX10_init 99 = .ok (.aload_n 0, 1) := by decide +kernel
theorem dX10_init_100 : decode cX10_init 100 = .ok (.bipush 54, 2) := by decide +kernel
theorem dX10_init_102 : decode cX10_init 102 = .ok (.newarray .int, 2) := by decide +kernel
theorem dX10_init_104 : decode cX10_init 104 = .ok (.putfield 49, 3) := by decide +kernel
theorem dX10_init_107 : decode cX10_init 107 = .ok (.aload_n 0, 1) := by decide +kernel
theorem dX10_init_108 : decode cX10_init 108 = .ok (.bipush 120, 2) := by decide +kernel
theorem dX10_init_110 : decode cX10_init 110 = .ok (.newarray .int, 2) := by decide +kernel
theorem dX10_init_112 : decode cX10_init 112 = .ok (.putfield 52, 3) := by decide +kernel
theorem dX10_init_115 : decode cX10_init 115 = .ok (.aload_n 0, 1) := by decide +kernel
theorem dX10_init_116 : decode cX10_init 116 = .ok (.invokevirtual 55, 3) := by decide +kernel
theorem dX10_init_119 : decode cX10_init 119 = .ok (.aload_n 0, 1) := by decide +kernel
theorem dX10_init_120 : decode cX10_init 120 = .ok (.getfield 9, 3) := by decide +kernel
theorem dX10_init_123 : decode cX10_init 123 = .ok (.iconst 0, 1) := by decide +kernel
theorem dX10_init_124 : decode cX10_init 124 = .ok (.iconst 1, 1) := by decide +kernel
theorem dX10_init_125 : decode cX10_init 125 = .ok (.iastore, 1) := by decide +kernel
theorem dX10_init_126 : decode cX10_init 126 = .ok (.aload_n 0, 1) := by decide +kernel
theorem dX10_init_127 : decode cX10_init 127 = .ok (.getfield 9, 3) := by decide +kernel
theorem dX10_init_130 : decode cX10_init 130 = .ok (.bipush 12, 2) := by decide +kernel
theorem dX10_init_132 : decode cX10_init 132 = .ok (.iconst 4, 1) := by decide +kernel
theorem dX10_init_133 : decode cX10_init 133 = .ok (.iastore, 1) := by decide +kernel
theorem dX10_init_134 : decode cX10_init 134 = .ok (.return_, 1) := by decide +kernel
theorem dX10_thrown_0 : decode cX10_thrown 0 = .ok (.aload_n 0, 1) := by decide +kernel
theorem dX10_thrown_1 : decode cX10_thrown 1 = .ok (.getfield 58, 3) := by decide +kernel
theorem dX10_thrown_4 : decode cX10_thrown 4 = .ok (.ireturn, 1) := by decide +kernel
theorem dX10_in_0 : decode cX10_in 0 = .ok (.lload_n 2, 1) := by decide +kernel
theorem dX10_in_1 : decode cX10_in 1 = .ok (.lload_n 0, 1) := by decide +kernel
theorem dX10_in_2 : decode cX10_in 2 = .ok (.lcmp, 1) := by decide +kernel
theorem dX10_in_3 : decode cX10_in 3 = .ok (.ifCond .gt 14, 3) := by decide +kernel
theorem dX10_in_6 : decode cX10_in 6 = .ok (.lload_n 0, 1) := by decide +kernel
theorem dX10_in_7 : decode cX10_in 7 = .ok (.lload 4, 2) := by decide +kernel
theorem dX10_in_9 : decode cX10_in 9 = .ok (.lcmp, 1) := by decide +kernel
theorem dX10_in_10 : decode cX10_in 10 = .ok (.ifCond .gt 7, 3) := by decide +kernel
theorem dX10_in_13 : decode cX10_in 13 = .ok (.iconst 1, 1) := by decide +kernel
theorem dX10_in_14 : decode cX10_in 14 = .ok (.goto 4, 3) := by decide +kernel
theorem dX10_in_17 : decode cX10_in 17 = .ok (.iconst 0, 1) := by decide +kernel
theorem dX10_in_18 : decode cX10_in 18 = .ok (.ireturn, 1) := by decide +kernel
theorem dX10_wrong_0 : decode cX10_wrong 0 = .ok (.aload_n 0, 1) := by decide +kernel
theorem dX10_wrong_1 : decode cX10_wrong 1 = .ok (.iload_n 1, 1) := by decide +kernel
theorem dX10_wrong_2 : decode cX10_wrong 2 = .ok (.ifCond .eq 7, 3) := by decide +kernel
theorem dX10_wrong_5 : decode cX10_wrong 5 = .ok (.iconst 1, 1) := by decide +kernel
theorem dX10_wrong_6 : decode cX10_wrong 6 = .ok (.goto 4, 3) := by decide +kernel
theorem dX10_wrong_9 : decode cX10_wrong 9 = .ok (.iconst 0, 1) := by decide +kernel
theorem dX10_wrong_10 : decode cX10_wrong 10 = .ok (.putfield 58, 3) := by decide +kernel
theorem dX10_wrong_13 : decode cX10_wrong 13 = .ok (.iload_n 1, 1) := by decide +kernel
theorem dX10_wrong_14 : decode cX10_wrong 14 = .ok (.ireturn, 1) := by decide +kernel
theorem dX10_throwsIf_0 : decode cX10_throwsIf 0 = .ok (.iload_n 1, 1) := by decide +kernel
theorem dX10_throwsIf_1 : decode cX10_throwsIf 1 = .ok (.ifCond .eq 8, 3) := by decide +kernel
theorem dX10_throwsIf_4 : decode cX10_throwsIf 4 = .ok (.aload_n 0, 1) := by decide +kernel
theorem dX10_throwsIf_5 : decode cX10_throwsIf 5 = .ok (.iload_n 2, 1) := by decide +kernel
theorem dX10_throwsIf_6 : decode cX10_throwsIf 6 = .ok (.putfield 58, 3) := by decide +kernel
theorem dX10_throwsIf_9 : decode cX10_throwsIf 9 = .ok (.iload_n 1, 1) := by decide +kernel
theorem dX10_throwsIf_10 : decode cX10_throwsIf 10 = .ok (.ireturn, 1) := by decide +kernel
theorem dX10_begins_0 : decode cX10_begins 0 = .ok (.iconst 0, 1) := by decide +kernel
theorem dX10_begins_1 : decode cX10_begins 1 = .ok (.istore_n 1, 1) := by decide +kernel
theorem dX10_begins_2 : decode cX10_begins 2 = .ok (.iload_n 1, 1) := by decide +kernel
theorem dX10_begins_3 : decode cX10_begins 3 = .ok (.sipush 456, 3) := by decide +kernel
theorem dX10_begins_6 : decode cX10_begins 6 = .ok (.if_icmp .ge 16, 3) := by decide +kernel
theorem dX10_begins_9 : decode cX10_begins 9 = .ok (.aload_n 0, 1) := by decide +kernel
theorem dX10_begins_10 : decode cX10_begins 10 = .ok (.getfield 9, 3) := by decide +kernel
theorem dX10_begins_13 : decode cX10_begins 13 = .ok (.iload_n 1, 1) := by decide +kernel
theorem dX10_begins_14 : decode cX10_begins 14 = .ok (.iconst 0, 1) := by decide +kernel
theorem dX10_begins_15 : decode cX10_begins 15 = .ok (.iastore, 1) := by decide +kernel
theorem dX10_begins_16 : decode cX10_begins 16 = .ok (.iinc 1 1, 3) := by decide +kernel
theorem dX10_begins_19 : decode cX10_begins 19 = .ok (.goto (-17), 3) := by decide +kernel
theorem dX10_begins_22 : decode cX10_begins 22 = .ok (.aload_n 0, 1) := by decide +kernel
theorem dX10_begins_23 : decode cX10_begins 23 = .ok (.invokevirtual 61, 3) := by decide +kernel
theorem dX10_begins_26 : decode cX10_begins 26 = .ok (.return_, 1) := by decide +kernel
theorem dX10_takesDown_0 : decode cX10_takesDown 0 = .ok (.sipush 276, 3) := by decide +kernel
theorem dX10_takesDown_3 : decode cX10_takesDown 3 = .ok (.istore_n 1, 1) := by decide +kernel
theorem dX10_takesDown_4 : decode cX10_takesDown 4 = .ok (.iload_n 1, 1) := by decide +kernel
theorem dX10_takesDown_5 : decode cX10_takesDown 5 = .ok (.sipush 456, 3) := by decide +kernel
theorem dX10_takesDown_8 : decode cX10_takesDown 8 = .ok (.if_icmp .ge 16, 3) := by decide +kernel
theorem dX10_takesDown_11 : decode cX10_takesDown 11 = .ok (.aload_n 0, 1) := by decide +kernel
theorem dX10_takesDown_12 : decode cX10_takesDown 12 = .ok (.getfield 9, 3) := by decide +kernel
theorem dX10_takesDown_15 : decode cX10_takesDown 15 = .ok (.iload_n 1, 1) := by decide +kernel
theorem dX10_takesDown_16 : decode cX10_takesDown 16 = .ok (.iconst (-1), 1) := by decide +kernel
theorem dX10_takesDown_17 : decode cX10_takesDown 17 = .ok (.iastore, 1) := by decide +kernel
theorem dX10_takesDown_18 : decode cX10_takesDown 18 = .ok (.iinc 1 1, 3) := by decide +kernel
theorem dX10_takesDown_21 : decode cX10_takesDown 21 = .ok (.goto (-17), 3) := by decide +kernel
theorem dX10_takesDown_24 : decode cX10_takesDown 24 = .ok (.aload_n 0, 1) := by decide +kernel
theorem dX10_takesDown_25 : decode cX10_takesDown 25 = .ok (.getfield 9, 3) := by decide +kernel
theorem dX10_takesDown_28 : decode cX10_takesDown 28 = .ok (.bipush 7, 2) := by decide +kernel
theorem dX10_takesDown_30 : decode cX10_takesDown 30 = .ok (.iconst (-1), 1) := by decide +kernel
theorem dX10_takesDown_31 : decode cX10_takesDown 31 = .ok (.iastore, 1) := by decide +kernel
theorem dX10_takesDown_32 : decode cX10_takesDown 32 = .ok (.return_, 1) := by decide +kernel
theorem dX10_goesAside_0 : decode cX10_goesAside 0 = .ok (.iconst 0, 1) := by decide +kernel
theorem dX10_goesAside_1 : decode cX10_goesAside 1 = .ok (.istore_n 1, 1) := by decide +kernel
theorem dX10_goesAside_2 : decode cX10_goesAside 2 = .ok (.iload_n 1, 1) := by decide +kernel
theorem dX10_goesAside_3 : decode cX10_goesAside 3 = .ok (.sipush 456, 3) := by decide +kernel
theorem dX10_goesAside_6 : decode cX10_goesAside 6 = .ok (.if_icmp .ge 21, 3) := by decide +kernel
theorem dX10_goesAside_9 : decode cX10_goesAside 9 = .ok (.aload_n 0, 1) := by decide +kernel
theorem dX10_goesAside_10 : decode cX10_goesAside 10 = .ok (.getfield 13, 3) := by decide +kernel
theorem dX10_goesAside_13 : decode cX10_goesAside 13 = .ok (.iload_n 1, 1) := by decide +kernel
theorem dX10_goesAside_14 : decode cX10_goesAside 14 = .ok (.aload_n 0, 1) := by decide +kernel
theorem dX10_goesAside_15 : decode cX10_goesAside 15 = .ok (.getfield 9, 3) := by decide +kernel
theorem dX10_goesAside_18 : decode cX10_goesAside 18 = .ok (.iload_n 1, 1) := by decide +kernel
theorem dX10_goesAside_19 : decode cX10_goesAside 19 = .ok (.iaload, 1) := by decide +kernel
theorem dX10_goesAside_20 : decode cX10_goesAside 20 = .ok (.iastore, 1) := by decide +kernel
theorem dX10_goesAside_21 : decode cX10_goesAside 21 = .ok (.iinc 1 1, 3) := by decide +kernel
theorem dX10_goesAside_24 : decode cX10_goesAside 24 = .ok (.goto (-22), 3) := by decide +kernel
theorem dX10_goesAside_27 : decode cX10_goesAside 27 = .ok (.return_, 1) := by decide +kernel
theorem dX10_comesBack_0 : decode cX10_comesBack 0 = .ok (.iconst 0, 1) := by decide +kernel
theorem dX10_comesBack_1 : decode cX10_comesBack 1 = .ok (.istore_n 2, 1) := by decide +kernel
theorem dX10_comesBack_2 : decode cX10_comesBack 2 = .ok (.iload_n 2, 1) := by decide +kernel
theorem dX10_comesBack_3 : decode cX10_comesBack 3 = .ok (.sipush 456, 3) := by decide +kernel
theorem dX10_comesBack_6 : decode cX10_comesBack 6 = .ok (.if_icmp .ge 21, 3) := by decide +kernel
theorem dX10_comesBack_9 : decode cX10_comesBack 9 = .ok (.aload_n 0, 1) := by decide +kernel
theorem dX10_comesBack_10 : decode cX10_comesBack 10 = .ok (.getfield 9, 3) := by decide +kernel
theorem dX10_comesBack_13 : decode cX10_comesBack 13 = .ok (.iload_n 2, 1) := by decide +kernel
theorem dX10_comesBack_14 : decode cX10_comesBack 14 = .ok (.aload_n 0, 1) := by decide +kernel
theorem dX10_comesBack_15 : decode cX10_comesBack 15 = .ok (.getfield 13, 3) := by decide +kernel
theorem dX10_comesBack_18 : decode cX10_comesBack 18 = .ok (.iload_n 2, 1) := by decide +kernel
theorem dX10_comesBack_19 : decode cX10_comesBack 19 = .ok (.iaload, 1) := by decide +kernel
theorem dX10_comesBack_20 : decode cX10_comesBack 20 = .ok (.iastore, 1) := by decide +kernel
theorem dX10_comesBack_21 : decode cX10_comesBack 21 = .ok (.iinc 2 1, 3) := by decide +kernel
theorem dX10_comesBack_24 : decode cX10_comesBack 24 = .ok (.goto (-22), 3) := by decide +kernel
theorem dX10_comesBack_27 : decode cX10_comesBack 27 = .ok (.iload_n 1, 1) := by decide +kernel
theorem dX10_comesBack_28 : decode cX10_comesBack 28 = .ok (.ireturn, 1) := by decide +kernel
theorem dX10_keeps_0 : decode cX10_keeps 0 = .ok (.aload_n 0, 1) := by decide +kernel
theorem dX10_keeps_1 : decode cX10_keeps 1 = .ok (.getfield 64, 3) := by decide +kernel
theorem dX10_keeps_4 : decode cX10_keeps 4 = .ok (.bipush 8, 2) := by decide +kernel
theorem dX10_keeps_6 : decode cX10_keeps 6 = .ok (.if_icmp .ne 49, 3) := by decide +kernel
theorem dX10_keeps_9 : decode cX10_keeps 9 = .ok (.aload_n 0, 1) := by decide +kernel
theorem dX10_keeps_10 : decode cX10_keeps 10 = .ok (.dup, 1) := by decide +kernel
theorem dX10_keeps_11 : decode cX10_keeps 11 = .ok (.getfield 64, 3) := by decide +kernel
theorem dX10_keeps_14 : decode cX10_keeps 14 = .ok (.iconst 1, 1) := by decide +kernel
theorem dX10_keeps_15 : decode cX10_keeps 15 = .ok (.isub, 1) := by decide +kernel
theorem dX10_keeps_16 : decode cX10_keeps 16 = .ok (.putfield 64, 3) := by decide +kernel
theorem dX10_keeps_19 : decode cX10_keeps 19 = .ok (.iconst 0, 1) := by decide +kernel
theorem dX10_keeps_20 : decode cX10_keeps 20 = .ok (.istore_n 1, 1) := by decide +kernel
theorem dX10_keeps_21 : decode cX10_keeps 21 = .ok (.iload_n 1, 1) := by decide +kernel
theorem dX10_keeps_22 : decode cX10_keeps 22 = .ok (.aload_n 0, 1) := by decide +kernel
theorem dX10_keeps_23 : decode cX10_keeps 23 = .ok (.getfield 64, 3) := by decide +kernel
theorem dX10_keeps_26 : decode cX10_keeps 26 = .ok (.sipush 456, 3) := by decide +kernel
theorem dX10_keeps_29 : decode cX10_keeps 29 = .ok (.imul, 1) := by decide +kernel
theorem dX10_keeps_30 : decode cX10_keeps 30 = .ok (.if_icmp .ge 25, 3) := by decide +kernel
theorem dX10_keeps_33 : decode cX10_keeps 33 = .ok (.aload_n 0, 1) := by decide +kernel
theorem dX10_keeps_34 : decode cX10_keeps 34 = .ok (.getfield 23, 3) := by decide +kernel
theorem dX10_keeps_37 : decode cX10_keeps 37 = .ok (.iload_n 1, 1) := by decide +kernel
theorem dX10_keeps_38 : decode cX10_keeps 38 = .ok (.aload_n 0, 1) := by decide +kernel
theorem dX10_keeps_39 : decode cX10_keeps 39 = .ok (.getfield 23, 3) := by decide +kernel
theorem dX10_keeps_42 : decode cX10_keeps 42 = .ok (.iload_n 1, 1) := by decide +kernel
theorem dX10_keeps_43 : decode cX10_keeps 43 = .ok (.sipush 456, 3) := by decide +kernel
theorem dX10_keeps_46 : decode cX10_keeps 46 = .ok (.iadd, 1) := by decide +kernel
theorem dX10_keeps_47 : decode cX10_keeps 47 = .ok (.iaload, 1) := by decide +kernel
theorem dX10_keeps_48 : decode cX10_keeps 48 = .ok (.iastore, 1) := by decide +kernel
theorem dX10_keeps_49 : decode cX10_keeps 49 = .ok (.iinc 1 1, 3) := by decide +kernel
theorem dX10_keeps_52 : decode cX10_keeps 52 = .ok (.goto (-31), 3) := by decide +kernel
theorem dX10_keeps_55 : decode cX10_keeps 55 = .ok (.iconst 0, 1) := by decide +kernel
theorem dX10_keeps_56 : decode cX10_keeps 56 = .ok (.istore_n 1, 1) := by decide +kernel
theorem dX10_keeps_57 : decode cX10_keeps 57 = .ok (.iload_n 1, 1) := by decide +kernel
theorem dX10_keeps_58 : decode cX10_keeps 58 = .ok (.sipush 456, 3) := by decide +kernel
theorem dX10_keeps_61 : decode cX10_keeps 61 = .ok (.if_icmp .ge 30, 3) := by decide +kernel
theorem dX10_keeps_64 : decode cX10_keeps 64 = .ok (.aload_n 0, 1) := by decide +kernel
theorem dX10_keeps_65 : decode cX10_keeps 65 = .ok (.getfield 23, 3) := by decide +kernel
theorem dX10_keeps_68 : decode cX10_keeps 68 = .ok (.sipush 456, 3) := by decide +kernel
theorem dX10_keeps_71 : decode cX10_keeps 71 = .ok (.aload_n 0, 1) := by decide +kernel
theorem dX10_keeps_72 : decode cX10_keeps 72 = .ok (.getfield 64, 3) := by decide +kernel
theorem dX10_keeps_75 : decode cX10_keeps 75 = .ok (.imul, 1) := by decide +kernel
theorem dX10_keeps_76 : decode cX10_keeps 76 = .ok (.iload_n 1, 1) := by decide +kernel
theorem dX10_keeps_77 : decode cX10_keeps 77 = .ok (.iadd, 1) := by decide +kernel
theorem dX10_keeps_78 : decode cX10_keeps 78 = .ok (.aload_n 0, 1) := by decide +kernel
theorem dX10_keeps_79 : decode cX10_keeps 79 = .ok (.getfield 9, 3) := by decide +kernel
theorem dX10_keeps_82 : decode cX10_keeps 82 = .ok (.iload_n 1, 1) := by decide +kernel
theorem dX10_keeps_83 : decode cX10_keeps 83 = .ok (.iaload, 1) := by decide +kernel
theorem dX10_keeps_84 : decode cX10_keeps 84 = .ok (.iastore, 1) := by decide +kernel
theorem dX10_keeps_85 : decode cX10_keeps 85 = .ok (.iinc 1 1, 3) := by decide +kernel
theorem dX10_keeps_88 : decode cX10_keeps 88 = .ok (.goto (-31), 3) := by decide +kernel
theorem dX10_keeps_91 : decode cX10_keeps 91 = .ok (.aload_n 0, 1) := by decide +kernel
theorem dX10_keeps_92 : decode cX10_keeps 92 = .ok (.dup, 1) := by decide +kernel
theorem dX10_keeps_93 : decode cX10_keeps 93 = .ok (.getfield 64, 3) := by decide +kernel
theorem dX10_keeps_96 : decode cX10_keeps 96 = .ok (.iconst 1, 1) := by decide +kernel
theorem dX10_keeps_97 : decode cX10_keeps 97 = .ok (.iadd, 1) := by decide +kernel
theorem dX10_keeps_98 : decode cX10_keeps 98 = .ok (.putfield 64, 3) := by decide +kernel
theorem dX10_keeps_101 : decode cX10_keeps 101 = .ok (.return_, 1) := by decide +kernel
theorem dX10_append_0 : decode cX10_append 0 = .ok (.aload_n 0, 1) := by decide +kernel
theorem dX10_append_1 : decode cX10_append 1 = .ok (.iconst 0, 1) := by decide +kernel
theorem dX10_append_2 : decode cX10_append 2 = .ok (.putfield 58, 3) := by decide +kernel
theorem dX10_append_5 : decode cX10_append 5 = .ok (.iconst 0, 1) := by decide +kernel
theorem dX10_append_6 : decode cX10_append 6 = .ok (.istore_n 3, 1) := by decide +kernel
theorem dX10_append_7 : decode cX10_append 7 = .ok (.iconst 0, 1) := by decide +kernel
theorem dX10_append_8 : decode cX10_append 8 = .ok (.istore 4, 2) := by decide +kernel
theorem dX10_append_10 : decode cX10_append 10 = .ok (.iload 4, 2) := by decide +kernel
theorem dX10_append_12 : decode cX10_append 12 = .ok (.bipush 8, 2) := by decide +kernel
theorem dX10_append_14 : decode cX10_append 14 = .ok (.if_icmp .ge 33, 3) := by decide +kernel
theorem dX10_append_17 : decode cX10_append 17 = .ok (.iload_n 3, 1) := by decide +kernel
theorem dX10_append_18 : decode cX10_append 18 = .ok (.lload_n 1, 1) := by decide +kernel
theorem dX10_append_19 : decode cX10_append 19 = .ok (.bipush 8, 2) := by decide +kernel
theorem dX10_append_21 : decode cX10_append 21 = .ok (.iload 4, 2) := by decide +kernel
theorem dX10_append_23 : decode cX10_append 23 = .ok (.imul, 1) := by decide +kernel
theorem dX10_append_24 : decode cX10_append 24 = .ok (.lshr, 1) := by decide +kernel
theorem dX10_append_25 : decode cX10_append 25 = .ok (.ldc2_w 67, 3) := by decide +kernel
theorem dX10_append_28 : decode cX10_append 28 = .ok (.land, 1) := by decide +kernel
theorem dX10_append_29 : decode cX10_append 29 = .ok (.lconst 0, 1) := by decide +kernel
theorem dX10_append_30 : decode cX10_append 30 = .ok (.lcmp, 1) := by decide +kernel
theorem dX10_append_31 : decode cX10_append 31 = .ok (.ifCond .ne 7, 3) := by decide +kernel
theorem dX10_append_34 : decode cX10_append 34 = .ok (.iconst 0, 1) := by decide +kernel
theorem dX10_append_35 : decode cX10_append 35 = .ok (.goto 4, 3) := by decide +kernel
theorem dX10_append_38 : decode cX10_append 38 = .ok (.iconst 1, 1) := by decide +kernel
theorem dX10_append_39 : decode cX10_append 39 = .ok (.iadd, 1) := by decide +kernel
theorem dX10_append_40 : decode cX10_append 40 = .ok (.istore_n 3, 1) := by decide +kernel
theorem dX10_append_41 : decode cX10_append 41 = .ok (.iinc 4 1, 3) := by decide +kernel
theorem dX10_append_44 : decode cX10_append 44 = .ok (.goto (-34), 3) := by decide +kernel
theorem dX10_append_47 : decode cX10_append 47 = .ok (.aload_n 0, 1) := by decide +kernel
theorem dX10_append_48 : decode cX10_append 48 = .ok (.getfield 69, 3) := by decide +kernel
theorem dX10_append_51 : decode cX10_append 51 = .ok (.iload_n 3, 1) := by decide +kernel
theorem dX10_append_52 : decode cX10_append 52 = .ok (.iadd, 1) := by decide +kernel
theorem dX10_append_53 : decode cX10_append 53 = .ok (.sipush 500, 3) := by decide +kernel
theorem dX10_append_56 : decode cX10_append 56 = .ok (.if_icmp .le 6, 3) := by decide +kernel
theorem dX10_append_59 : decode cX10_append 59 = .ok (.bipush (-2), 2) := by decide +kernel
theorem dX10_append_61 : decode cX10_append 61 = .ok (.ireturn, 1) := by decide +kernel
theorem dX10_append_62 : decode cX10_append 62 = .ok (.bipush 7, 2) := by decide +kernel
theorem dX10_append_64 : decode cX10_append 64 = .ok (.istore 4, 2) := by decide +kernel
theorem dX10_append_66 : decode cX10_append 66 = .ok (.iload 4, 2) := by decide +kernel
theorem dX10_append_68 : decode cX10_append 68 = .ok (.ifCond .lt 55, 3) := by decide +kernel
theorem dX10_append_71 : decode cX10_append 71 = .ok (.lload_n 1, 1) := by decide +kernel
theorem dX10_append_72 : decode cX10_append 72 = .ok (.bipush 8, 2) := by decide +kernel
theorem dX10_append_74 : decode cX10_append 74 = .ok (.iload 4, 2) := by decide +kernel
theorem dX10_append_76 : decode cX10_append 76 = .ok (.imul, 1) := by decide +kernel
theorem dX10_append_77 : decode cX10_append 77 = .ok (.lshr, 1) := by decide +kernel
theorem dX10_append_78 : decode cX10_append 78 = .ok (.ldc2_w 67, 3) := by decide +kernel
theorem dX10_append_81 : decode cX10_append 81 = .ok (.land, 1) := by decide +kernel
theorem dX10_append_82 : decode cX10_append 82 = .ok (.lstore 5, 2) := by decide +kernel
theorem dX10_append_84 : decode cX10_append 84 = .ok (.lload 5, 2) := by decide +kernel
theorem dX10_append_86 : decode cX10_append 86 = .ok (.lconst 0, 1) := by decide +kernel
theorem dX10_append_87 : decode cX10_append 87 = .ok (.lcmp, 1) := by decide +kernel
theorem dX10_append_88 : decode cX10_append 88 = .ok (.ifCond .ne 6, 3) := by decide +kernel
theorem dX10_append_91 : decode cX10_append 91 = .ok (.goto 26, 3) := by decide +kernel
theorem dX10_append_94 : decode cX10_append 94 = .ok (.aload_n 0, 1) := by decide +kernel
theorem dX10_append_95 : decode cX10_append 95 = .ok (.getfield 26, 3) := by decide +kernel
theorem dX10_append_98 : decode cX10_append 98 = .ok (.aload_n 0, 1) := by decide +kernel
theorem dX10_append_99 : decode cX10_append 99 = .ok (.getfield 69, 3) := by decide +kernel
theorem dX10_append_102 : decode cX10_append 102 = .ok (.lload 5, 2) := by decide +kernel
theorem dX10_append_104 : decode cX10_append 104 = .ok (.l2i, 1) := by decide +kernel
theorem dX10_append_105 : decode cX10_append 105 = .ok (.i2b, 1) := by decide +kernel
theorem dX10_append_106 : decode cX10_append 106 = .ok (.bastore, 1) := by decide +kernel
theorem dX10_append_107 : decode cX10_append 107 = .ok (.aload_n 0, 1) := by decide +kernel
theorem dX10_append_108 : decode cX10_append 108 = .ok (.dup, 1) := by decide +kernel
theorem dX10_append_109 : decode cX10_append 109 = .ok (.getfield 69, 3) := by decide +kernel
theorem dX10_append_112 : decode cX10_append 112 = .ok (.iconst 1, 1) := by decide +kernel
theorem dX10_append_113 : decode cX10_append 113 = .ok (.iadd, 1) := by decide +kernel
theorem dX10_append_114 : decode cX10_append 114 = .ok (.putfield 69, 3) := by decide +kernel
theorem dX10_append_117 : decode cX10_append 117 = .ok (.iinc 4 (-1), 3) := by decide +kernel
theorem dX10_append_120 : decode cX10_append 120 = .ok (.goto (-54), 3) := by decide +kernel
theorem dX10_append_123 : decode cX10_append 123 = .ok (.aload_n 0, 1) := by decide +kernel
theorem dX10_append_124 : decode cX10_append 124 = .ok (.getfield 69, 3) := by decide +kernel
theorem dX10_append_127 : decode cX10_append 127 = .ok (.ireturn, 1) := by decide +kernel
theorem dX10_fails_0 : decode cX10_fails 0 = .ok (.aload_n 0, 1) := by decide +kernel
theorem dX10_fails_1 : decode cX10_fails 1 = .ok (.iload_n 1, 1) := by decide +kernel
theorem dX10_fails_2 : decode cX10_fails 2 = .ok (.putfield 72, 3) := by decide +kernel
theorem dX10_fails_5 : decode cX10_fails 5 = .ok (.aload_n 0, 1) := by decide +kernel
theorem dX10_fails_6 : decode cX10_fails 6 = .ok (.iload_n 2, 1) := by decide +kernel
theorem dX10_fails_7 : decode cX10_fails 7 = .ok (.putfield 75, 3) := by decide +kernel
theorem dX10_fails_10 : decode cX10_fails 10 = .ok (.iconst 0, 1) := by decide +kernel
theorem dX10_fails_11 : decode cX10_fails 11 = .ok (.ireturn, 1) := by decide +kernel
theorem dX10_nextByte_0 : decode cX10_nextByte 0 = .ok (.aload_n 0, 1) := by decide +kernel
theorem dX10_nextByte_1 : decode cX10_nextByte 1 = .ok (.getfield 78, 3) := by decide +kernel
theorem dX10_nextByte_4 : decode cX10_nextByte 4 = .ok (.aload_n 0, 1) := by decide +kernel
theorem dX10_nextByte_5 : decode cX10_nextByte 5 = .ok (.getfield 69, 3) := by decide +kernel
theorem dX10_nextByte_8 : decode cX10_nextByte 8 = .ok (.if_icmp .ge 30, 3) := by decide +kernel
theorem dX10_nextByte_11 : decode cX10_nextByte 11 = .ok (.aload_n 0, 1) := by decide +kernel
theorem dX10_nextByte_12 : decode cX10_nextByte 12 = .ok (.getfield 26, 3) := by decide +kernel
theorem dX10_nextByte_15 : decode cX10_nextByte 15 = .ok (.aload_n 0, 1) := by decide +kernel
theorem dX10_nextByte_16 : decode cX10_nextByte 16 = .ok (.getfield 78, 3) := by decide +kernel
theorem dX10_nextByte_19 : decode cX10_nextByte 19 = .ok (.baload, 1) := by decide +kernel
theorem dX10_nextByte_20 : decode cX10_nextByte 20 = .ok (.bipush 32, 2) := by decide +kernel
theorem dX10_nextByte_22 : decode cX10_nextByte 22 = .ok (.if_icmp .ne 16, 3) := by decide +kernel
theorem dX10_nextByte_25 : decode cX10_nextByte 25 = .ok (.aload_n 0, 1) := by decide +kernel
theorem dX10_nextByte_26 : decode cX10_nextByte 26 = .ok (.dup, 1) := by decide +kernel
theorem dX10_nextByte_27 : decode cX10_nextByte 27 = .ok (.getfield 78, 3) := by decide +kernel
theorem dX10_nextByte_30 : decode cX10_nextByte 30 = .ok (.iconst 1, 1) := by decide +kernel
theorem dX10_nextByte_31 : decode cX10_nextByte 31 = .ok (.iadd, 1) := by decide +kernel
theorem dX10_nextByte_32 : decode cX10_nextByte 32 = .ok (.putfield 78, 3) := by decide +kernel
theorem dX10_nextByte_35 : decode cX10_nextByte 35 = .ok (.goto (-35), 3) := by decide +kernel
theorem dX10_nextByte_38 : decode cX10_nextByte 38 = .ok (.aload_n 0, 1) := by decide +kernel
theorem dX10_nextByte_39 : decode cX10_nextByte 39 = .ok (.aload_n 0, 1) := by decide +kernel
theorem dX10_nextByte_40 : decode cX10_nextByte 40 = .ok (.getfield 78, 3) := by decide +kernel
theorem dX10_nextByte_43 : decode cX10_nextByte 43 = .ok (.putfield 81, 3) := by decide +kernel
theorem dX10_nextByte_46 : decode cX10_nextByte 46 = .ok (.aload_n 0, 1) := by decide +kernel
theorem dX10_nextByte_47 : decode cX10_nextByte 47 = .ok (.getfield 78, 3) := by decide +kernel
theorem dX10_nextByte_50 : decode cX10_nextByte 50 = .ok (.aload_n 0, 1) := by decide +kernel
theorem dX10_nextByte_51 : decode cX10_nextByte 51 = .ok (.getfield 69, 3) := by decide +kernel
theorem dX10_nextByte_54 : decode cX10_nextByte 54 = .ok (.if_icmp .ge 19, 3) := by decide +kernel
theorem dX10_nextByte_57 : decode cX10_nextByte 57 = .ok (.aload_n 0, 1) := by decide +kernel
theorem dX10_nextByte_58 : decode cX10_nextByte 58 = .ok (.getfield 26, 3) := by decide +kernel
theorem dX10_nextByte_61 : decode cX10_nextByte 61 = .ok (.aload_n 0, 1) := by decide +kernel
theorem dX10_nextByte_62 : decode cX10_nextByte 62 = .ok (.getfield 78, 3) := by decide +kernel
theorem dX10_nextByte_65 : decode cX10_nextByte 65 = .ok (.baload, 1) := by decide +kernel
theorem dX10_nextByte_66 : decode cX10_nextByte 66 = .ok (.sipush 255, 3) := by decide +kernel
theorem dX10_nextByte_69 : decode cX10_nextByte 69 = .ok (.iand, 1) := by decide +kernel
theorem dX10_nextByte_70 : decode cX10_nextByte 70 = .ok (.goto 4, 3) := by decide +kernel
theorem dX10_nextByte_73 : decode cX10_nextByte 73 = .ok (.iconst (-1), 1) := by decide +kernel
theorem dX10_nextByte_74 : decode cX10_nextByte 74 = .ok (.ireturn, 1) := by decide +kernel
theorem dX10_isAt_0 : decode cX10_isAt 0 = .ok (.iload_n 1, 1) := by decide +kernel
theorem dX10_isAt_1 : decode cX10_isAt 1 = .ok (.aload_n 0, 1) := by decide +kernel
theorem dX10_isAt_2 : decode cX10_isAt 2 = .ok (.getfield 69, 3) := by decide +kernel
theorem dX10_isAt_5 : decode cX10_isAt 5 = .ok (.if_icmp .ge 27, 3) := by decide +kernel
theorem dX10_isAt_8 : decode cX10_isAt 8 = .ok (.aload_n 0, 1) := by decide +kernel
theorem dX10_isAt_9 : decode cX10_isAt 9 = .ok (.getfield 26, 3) := by decide +kernel
theorem dX10_isAt_12 : decode cX10_isAt 12 = .ok (.iload_n 1, 1) := by decide +kernel
theorem dX10_isAt_13 : decode cX10_isAt 13 = .ok (.baload, 1) := by decide +kernel
theorem dX10_isAt_14 : decode cX10_isAt 14 = .ok (.iload_n 2, 1) := by decide +kernel
theorem dX10_isAt_15 : decode cX10_isAt 15 = .ok (.if_icmp .lt 17, 3) := by decide +kernel
theorem dX10_isAt_18 : decode cX10_isAt 18 = .ok (.aload_n 0, 1) := by decide +kernel
theorem dX10_isAt_19 : decode cX10_isAt 19 = .ok (.getfield 26, 3) := by decide +kernel
theorem dX10_isAt_22 : decode cX10_isAt 22 = .ok (.iload_n 1, 1) := by decide +kernel
theorem dX10_isAt_23 : decode cX10_isAt 23 = .ok (.baload, 1) := by decide +kernel
theorem dX10_isAt_24 : decode cX10_isAt 24 = .ok (.iload_n 3, 1) := by decide +kernel
theorem dX10_isAt_25 : decode cX10_isAt 25 = .ok (.if_icmp .gt 7, 3) := by decide +kernel
theorem dX10_isAt_28 : decode cX10_isAt 28 = .ok (.iconst 1, 1) := by decide +kernel
theorem dX10_isAt_29 : decode cX10_isAt 29 = .ok (.goto 4, 3) := by decide +kernel
theorem dX10_isAt_32 : decode cX10_isAt 32 = .ok (.iconst 0, 1) := by decide +kernel
theorem dX10_isAt_33 : decode cX10_isAt 33 = .ok (.ireturn, 1) := by decide +kernel
theorem dX10_isDigitNext_0 : decode cX10_isDigitNext 0 = .ok (.aload_n 0, 1) := by decide +kernel
theorem dX10_isDigitNext_1 : decode cX10_isDigitNext 1 = .ok (.invokevirtual 84, 3) := by decide +kernel
theorem dX10_isDigitNext_4 : decode cX10_isDigitNext 4 = .ok (.i2l, 1) := by decide +kernel
theorem dX10_isDigitNext_5 : decode cX10_isDigitNext 5 = .ok (.ldc2_w 88, 3) := by decide +kernel
theorem dX10_isDigitNext_8 : decode cX10_isDigitNext 8 = .ok (.ldc2_w 90, 3) := by decide +kernel
theorem dX10_isDigitNext_11 : decode cX10_isDigitNext 11 = .ok (.invokestatic 92, 3) := by decide +kernel
theorem dX10_isDigitNext_14 : decode cX10_isDigitNext 14 = .ok (.ireturn, 1) := by decide +kernel
theorem dX10_reads_0 : decode cX10_reads 0 = .ok (.aload_n 0, 1) := by decide +kernel
theorem dX10_reads_1 : decode cX10_reads 1 = .ok (.invokevirtual 96, 3) := by decide +kernel
theorem dX10_reads_4 : decode cX10_reads 4 = .ok (.ifCond .ne 13, 3) := by decide +kernel
theorem dX10_reads_7 : decode cX10_reads 7 = .ok (.aload_n 0, 1) := by decide +kernel
theorem dX10_reads_8 : decode cX10_reads 8 = .ok (.iconst 1, 1) := by decide +kernel
theorem dX10_reads_9 : decode cX10_reads 9 = .ok (.aload_n 0, 1) := by decide +kernel
theorem dX10_reads_10 : decode cX10_reads 10 = .ok (.getfield 81, 3) := by decide +kernel
theorem dX10_reads_13 : decode cX10_reads 13 = .ok (.invokevirtual 100, 3) := by decide +kernel
theorem dX10_reads_16 : decode cX10_reads 16 = .ok (.ireturn, 1) := by decide +kernel
theorem dX10_reads_17 : decode cX10_reads 17 = .ok (.lconst 0, 1) := by decide +kernel
theorem dX10_reads_18 : decode cX10_reads 18 = .ok (.lstore_n 3, 1) := by decide +kernel
theorem dX10_reads_19 : decode cX10_reads 19 = .ok (.aload_n 0, 1) := by decide +kernel
theorem dX10_reads_20 : decode cX10_reads 20 = .ok (.aload_n 0, 1) := by decide +kernel
theorem dX10_reads_21 : decode cX10_reads 21 = .ok (.getfield 78, 3) := by decide +kernel
theorem dX10_reads_24 : decode cX10_reads 24 = .ok (.bipush 48, 2) := by decide +kernel
theorem dX10_reads_26 : decode cX10_reads 26 = .ok (.bipush 57, 2) := by decide +kernel
theorem dX10_reads_28 : decode cX10_reads 28 = .ok (.invokevirtual 104, 3) := by decide +kernel
theorem dX10_reads_31 : decode cX10_reads 31 = .ok (.ifCond .eq 49, 3) := by decide +kernel
theorem dX10_reads_34 : decode cX10_reads 34 = .ok (.lload_n 3, 1) := by decide +kernel
theorem dX10_reads_35 : decode cX10_reads 35 = .ok (.ldc2_w 108, 3) := by decide +kernel
theorem dX10_reads_38 : decode cX10_reads 38 = .ok (.lcmp, 1) := by decide +kernel
theorem dX10_reads_39 : decode cX10_reads 39 = .ok (.ifCond .le 7, 3) := by decide +kernel
theorem dX10_reads_42 : decode cX10_reads 42 = .ok (.lload_n 3, 1) := by decide +kernel
theorem dX10_reads_43 : decode cX10_reads 43 = .ok (.goto 23, 3) := by decide +kernel
theorem dX10_reads_46 : decode cX10_reads 46 = .ok (.ldc2_w 110, 3) := by decide +kernel
theorem dX10_reads_49 : decode cX10_reads 49 = .ok (.lload_n 3, 1) := by decide +kernel
theorem dX10_reads_50 : decode cX10_reads 50 = .ok (.lmul, 1) := by decide +kernel
theorem dX10_reads_51 : decode cX10_reads 51 = .ok (.aload_n 0, 1) := by decide +kernel
theorem dX10_reads_52 : decode cX10_reads 52 = .ok (.getfield 26, 3) := by decide +kernel
theorem dX10_reads_55 : decode cX10_reads 55 = .ok (.aload_n 0, 1) := by decide +kernel
theorem dX10_reads_56 : decode cX10_reads 56 = .ok (.getfield 78, 3) := by decide +kernel
theorem dX10_reads_59 : decode cX10_reads 59 = .ok (.baload, 1) := by decide +kernel
theorem dX10_reads_60 : decode cX10_reads 60 = .ok (.i2l, 1) := by decide +kernel
theorem dX10_reads_61 : decode cX10_reads 61 = .ok (.ladd, 1) := by decide +kernel
theorem dX10_reads_62 : decode cX10_reads 62 = .ok (.ldc2_w 88, 3) := by decide +kernel
theorem dX10_reads_65 : decode cX10_reads 65 = .ok (.lsub, 1) := by decide +kernel
theorem dX10_reads_66 : decode cX10_reads 66 = .ok (.lstore_n 3, 1) := by decide +kernel
theorem dX10_reads_67 : decode cX10_reads 67 = .ok (.aload_n 0, 1) := by decide +kernel
theorem dX10_reads_68 : decode cX10_reads 68 = .ok (.dup, 1) := by decide +kernel
theorem dX10_reads_69 : decode cX10_reads 69 = .ok (.getfield 78, 3) := by decide +kernel
theorem dX10_reads_72 : decode cX10_reads 72 = .ok (.iconst 1, 1) := by decide +kernel
theorem dX10_reads_73 : decode cX10_reads 73 = .ok (.iadd, 1) := by decide +kernel
theorem dX10_reads_74 : decode cX10_reads 74 = .ok (.putfield 78, 3) := by decide +kernel
theorem dX10_reads_77 : decode cX10_reads 77 = .ok (.goto (-58), 3) := by decide +kernel
theorem dX10_reads_80 : decode cX10_reads 80 = .ok (.lload_n 3, 1) := by decide +kernel
theorem dX10_reads_81 : decode cX10_reads 81 = .ok (.iload_n 1, 1) := by decide +kernel
theorem dX10_reads_82 : decode cX10_reads 82 = .ok (.i2l, 1) := by decide +kernel
theorem dX10_reads_83 : decode cX10_reads 83 = .ok (.iload_n 2, 1) := by decide +kernel
theorem dX10_reads_84 : decode cX10_reads 84 = .ok (.i2l, 1) := by decide +kernel
theorem dX10_reads_85 : decode cX10_reads 85 = .ok (.invokestatic 92, 3) := by decide +kernel
theorem dX10_reads_88 : decode cX10_reads 88 = .ok (.ifCond .ne 13, 3) := by decide +kernel
theorem dX10_reads_91 : decode cX10_reads 91 = .ok (.aload_n 0, 1) := by decide +kernel
theorem dX10_reads_92 : decode cX10_reads 92 = .ok (.iconst 2, 1) := by decide +kernel
theorem dX10_reads_93 : decode cX10_reads 93 = .ok (.aload_n 0, 1) := by decide +kernel
theorem dX10_reads_94 : decode cX10_reads 94 = .ok (.getfield 81, 3) := by decide +kernel
theorem dX10_reads_97 : decode cX10_reads 97 = .ok (.invokevirtual 100, 3) := by decide +kernel
theorem dX10_reads_100 : decode cX10_reads 100 = .ok (.ireturn, 1) := by decide +kernel
theorem dX10_reads_101 : decode cX10_reads 101 = .ok (.aload_n 0, 1) := by decide +kernel
theorem dX10_reads_102 : decode cX10_reads 102 = .ok (.lload_n 3, 1) := by decide +kernel
theorem dX10_reads_103 : decode cX10_reads 103 = .ok (.l2i, 1) := by decide +kernel
theorem dX10_reads_104 : decode cX10_reads 104 = .ok (.putfield 112, 3) := by decide +kernel
theorem dX10_reads_107 : decode cX10_reads 107 = .ok (.iconst 1, 1) := by decide +kernel
theorem dX10_reads_108 : decode cX10_reads 108 = .ok (.ireturn, 1) := by decide +kernel
theorem dX10_takes_0 : decode cX10_takes 0 = .ok (.aload_n 0, 1) := by decide +kernel
theorem dX10_takes_1 : decode cX10_takes 1 = .ok (.invokevirtual 84, 3) := by decide +kernel
theorem dX10_takes_4 : decode cX10_takes 4 = .ok (.i2l, 1) := by decide +kernel
theorem dX10_takes_5 : decode cX10_takes 5 = .ok (.ldc2_w 115, 3) := by decide +kernel
theorem dX10_takes_8 : decode cX10_takes 8 = .ok (.ldc2_w 117, 3) := by decide +kernel
theorem dX10_takes_11 : decode cX10_takes 11 = .ok (.invokestatic 92, 3) := by decide +kernel
theorem dX10_takes_14 : decode cX10_takes 14 = .ok (.ifCond .ne 5, 3) := by decide +kernel
theorem dX10_takes_17 : decode cX10_takes 17 = .ok (.iconst 0, 1) := by decide +kernel
theorem dX10_takes_18 : decode cX10_takes 18 = .ok (.ireturn, 1) := by decide +kernel
theorem dX10_takes_19 : decode cX10_takes 19 = .ok (.aload_n 0, 1) := by decide +kernel
theorem dX10_takes_20 : decode cX10_takes 20 = .ok (.getfield 81, 3) := by decide +kernel
theorem dX10_takes_23 : decode cX10_takes 23 = .ok (.istore_n 2, 1) := by decide +kernel
theorem dX10_takes_24 : decode cX10_takes 24 = .ok (.aload_n 0, 1) := by decide +kernel
theorem dX10_takes_25 : decode cX10_takes 25 = .ok (.iload_n 2, 1) := by decide +kernel
theorem dX10_takes_26 : decode cX10_takes 26 = .ok (.bipush 97, 2) := by decide +kernel
theorem dX10_takes_28 : decode cX10_takes 28 = .ok (.bipush 122, 2) := by decide +kernel
theorem dX10_takes_30 : decode cX10_takes 30 = .ok (.invokevirtual 104, 3) := by decide +kernel
theorem dX10_takes_33 : decode cX10_takes 33 = .ok (.ifCond .eq 9, 3) := by decide +kernel
theorem dX10_takes_36 : decode cX10_takes 36 = .ok (.iinc 2 1, 3) := by decide +kernel
theorem dX10_takes_39 : decode cX10_takes 39 = .ok (.goto (-15), 3) := by decide +kernel
theorem dX10_takes_42 : decode cX10_takes 42 = .ok (.iload_n 2, 1) := by decide +kernel
theorem dX10_takes_43 : decode cX10_takes 43 = .ok (.aload_n 0, 1) := by decide +kernel
theorem dX10_takes_44 : decode cX10_takes 44 = .ok (.getfield 81, 3) := by decide +kernel
theorem dX10_takes_47 : decode cX10_takes 47 = .ok (.isub, 1) := by decide +kernel
theorem dX10_takes_48 : decode cX10_takes 48 = .ok (.aload_n 1, 1) := by decide +kernel
theorem dX10_takes_49 : decode cX10_takes 49 = .ok (.invokevirtual 119, 3) := by decide +kernel
theorem dX10_takes_52 : decode cX10_takes 52 = .ok (.if_icmp .eq 5, 3) := by decide +kernel
theorem dX10_takes_55 : decode cX10_takes 55 = .ok (.iconst 0, 1) := by decide +kernel
theorem dX10_takes_56 : decode cX10_takes 56 = .ok (.ireturn, 1) := by decide +kernel
theorem dX10_takes_57 : decode cX10_takes 57 = .ok (.iconst 0, 1) := by decide +kernel
theorem dX10_takes_58 : decode cX10_takes 58 = .ok (.istore_n 3, 1) := by decide +kernel
theorem dX10_takes_59 : decode cX10_takes 59 = .ok (.iload_n 3, 1) := by decide +kernel
theorem dX10_takes_60 : decode cX10_takes 60 = .ok (.aload_n 1, 1) := by decide +kernel
theorem dX10_takes_61 : decode cX10_takes 61 = .ok (.invokevirtual 119, 3) := by decide +kernel
theorem dX10_takes_64 : decode cX10_takes 64 = .ok (.if_icmp .ge 30, 3) := by decide +kernel
theorem dX10_takes_67 : decode cX10_takes 67 = .ok (.aload_n 0, 1) := by decide +kernel
theorem dX10_takes_68 : decode cX10_takes 68 = .ok (.getfield 26, 3) := by decide +kernel
theorem dX10_takes_71 : decode cX10_takes 71 = .ok (.aload_n 0, 1) := by decide +kernel
theorem dX10_takes_72 : decode cX10_takes 72 = .ok (.getfield 81, 3) := by decide +kernel
theorem dX10_takes_75 : decode cX10_takes 75 = .ok (.iload_n 3, 1) := by decide +kernel
theorem dX10_takes_76 : decode cX10_takes 76 = .ok (.iadd, 1) := by decide +kernel
theorem dX10_takes_77 : decode cX10_takes 77 = .ok (.baload, 1) := by decide +kernel
theorem dX10_takes_78 : decode cX10_takes 78 = .ok (.aload_n 1, 1) := by decide +kernel
theorem dX10_takes_79 : decode cX10_takes 79 = .ok (.iload_n 3, 1) := by decide +kernel
theorem dX10_takes_80 : decode cX10_takes 80 = .ok (.invokevirtual 123, 3) := by decide +kernel
theorem dX10_takes_83 : decode cX10_takes 83 = .ok (.if_icmp .eq 5, 3) := by decide +kernel
theorem dX10_takes_86 : decode cX10_takes 86 = .ok (.iconst 0, 1) := by decide +kernel
theorem dX10_takes_87 : decode cX10_takes 87 = .ok (.ireturn, 1) := by decide +kernel
theorem dX10_takes_88 : decode cX10_takes 88 = .ok (.iinc 3 1, 3) := by decide +kernel
theorem dX10_takes_91 : decode cX10_takes 91 = .ok (.goto (-32), 3) := by decide +kernel
theorem dX10_takes_94 : decode cX10_takes 94 = .ok (.aload_n 0, 1) := by decide +kernel
theorem dX10_takes_95 : decode cX10_takes 95 = .ok (.iload_n 2, 1) := by decide +kernel
theorem dX10_takes_96 : decode cX10_takes 96 = .ok (.putfield 78, 3) := by decide +kernel
theorem dX10_takes_99 : decode cX10_takes 99 = .ok (.iconst 1, 1) := by decide +kernel
theorem dX10_takes_100 : decode cX10_takes 100 = .ok (.ireturn, 1) := by decide +kernel
theorem dX10_readBoard_0 : decode cX10_readBoard 0 = .ok (.aload_n 0, 1) := by decide +kernel
theorem dX10_readBoard_1 : decode cX10_readBoard 1 = .ok (.invokevirtual 55, 3) := by decide +kernel
theorem dX10_readBoard_4 : decode cX10_readBoard 4 = .ok (.aload_n 0, 1) := by decide +kernel
theorem dX10_readBoard_5 : decode cX10_readBoard 5 = .ok (.iconst 1, 1) := by decide +kernel
theorem dX10_readBoard_6 : decode cX10_readBoard 6 = .ok (.bipush 6, 2) := by decide +kernel
theorem dX10_readBoard_8 : decode cX10_readBoard 8 = .ok (.invokevirtual 127, 3) := by decide +kernel
theorem dX10_readBoard_11 : decode cX10_readBoard 11 = .ok (.ifCond .ne 5, 3) := by decide +kernel
theorem dX10_readBoard_14 : decode cX10_readBoard 14 = .ok (.iconst 0, 1) := by decide +kernel
theorem dX10_readBoard_15 : decode cX10_readBoard 15 = .ok (.ireturn, 1) := by decide +kernel
theorem dX10_readBoard_16 : decode cX10_readBoard 16 = .ok (.aload_n 0, 1) := by decide +kernel
theorem dX10_readBoard_17 : decode cX10_readBoard 17 = .ok (.getfield 9, 3) := by decide +kernel
theorem dX10_readBoard_20 : decode cX10_readBoard 20 = .ok (.iconst 0, 1) := by decide +kernel
theorem dX10_readBoard_21 : decode cX10_readBoard 21 = .ok (.iaload, 1) := by decide +kernel
theorem dX10_readBoard_22 : decode cX10_readBoard 22 = .ok (.iconst 3, 1) := by decide +kernel
theorem dX10_readBoard_23 : decode cX10_readBoard 23 = .ok (.if_icmp .ne 13, 3) := by decide +kernel
theorem dX10_readBoard_26 : decode cX10_readBoard 26 = .ok (.aload_n 0, 1) := by decide +kernel
theorem dX10_readBoard_27 : decode cX10_readBoard 27 = .ok (.iconst 3, 1) := by decide +kernel
theorem dX10_readBoard_28 : decode cX10_readBoard 28 = .ok (.aload_n 0, 1) := by decide +kernel
theorem dX10_readBoard_29 : decode cX10_readBoard 29 = .ok (.getfield 81, 3) := by decide +kernel
theorem dX10_readBoard_32 : decode cX10_readBoard 32 = .ok (.invokevirtual 100, 3) := by decide +kernel
theorem dX10_readBoard_35 : decode cX10_readBoard 35 = .ok (.ireturn, 1) := by decide +kernel
theorem dX10_readBoard_36 : decode cX10_readBoard 36 = .ok (.aload_n 0, 1) := by decide +kernel
theorem dX10_readBoard_37 : decode cX10_readBoard 37 = .ok (.getfield 9, 3) := by decide +kernel
theorem dX10_readBoard_40 : decode cX10_readBoard 40 = .ok (.bipush 12, 2) := by decide +kernel
theorem dX10_readBoard_42 : decode cX10_readBoard 42 = .ok (.aload_n 0, 1) := by decide +kernel
theorem dX10_readBoard_43 : decode cX10_readBoard 43 = .ok (.getfield 9, 3) := by decide +kernel
theorem dX10_readBoard_46 : decode cX10_readBoard 46 = .ok (.iconst 0, 1) := by decide +kernel
theorem dX10_readBoard_47 : decode cX10_readBoard 47 = .ok (.iaload, 1) := by decide +kernel
theorem dX10_readBoard_48 : decode cX10_readBoard 48 = .ok (.iadd, 1) := by decide +kernel
theorem dX10_readBoard_49 : decode cX10_readBoard 49 = .ok (.aload_n 0, 1) := by decide +kernel
theorem dX10_readBoard_50 : decode cX10_readBoard 50 = .ok (.getfield 112, 3) := by decide +kernel
theorem dX10_readBoard_53 : decode cX10_readBoard 53 = .ok (.iastore, 1) := by decide +kernel
theorem dX10_readBoard_54 : decode cX10_readBoard 54 = .ok (.aload_n 0, 1) := by decide +kernel
theorem dX10_readBoard_55 : decode cX10_readBoard 55 = .ok (.getfield 9, 3) := by decide +kernel
theorem dX10_readBoard_58 : decode cX10_readBoard 58 = .ok (.iconst 0, 1) := by decide +kernel
theorem dX10_readBoard_59 : decode cX10_readBoard 59 = .ok (.dup2, 1) := by decide +kernel
theorem dX10_readBoard_60 : decode cX10_readBoard 60 = .ok (.iaload, 1) := by decide +kernel
theorem dX10_readBoard_61 : decode cX10_readBoard 61 = .ok (.iconst 1, 1) := by decide +kernel
theorem dX10_readBoard_62 : decode cX10_readBoard 62 = .ok (.iadd, 1) := by decide +kernel
theorem dX10_readBoard_63 : decode cX10_readBoard 63 = .ok (.iastore, 1) := by decide +kernel
theorem dX10_readBoard_64 : decode cX10_readBoard 64 = .ok (.aload_n 0, 1) := by decide +kernel
theorem dX10_readBoard_65 : decode cX10_readBoard 65 = .ok (.invokevirtual 96, 3) := by decide +kernel
theorem dX10_readBoard_68 : decode cX10_readBoard 68 = .ok (.ifCond .ne (-64), 3) := by decide +kernel
theorem dX10_readBoard_71 : decode cX10_readBoard 71 = .ok (.aload_n 0, 1) := by decide +kernel
theorem dX10_readBoard_72 : decode cX10_readBoard 72 = .ok (.getfield 9, 3) := by decide +kernel
theorem dX10_readBoard_75 : decode cX10_readBoard 75 = .ok (.iconst 1, 1) := by decide +kernel
theorem dX10_readBoard_76 : decode cX10_readBoard 76 = .ok (.aload_n 0, 1) := by decide +kernel
theorem dX10_readBoard_77 : decode cX10_readBoard 77 = .ok (.ldc 130, 2) := by decide +kernel
theorem dX10_readBoard_79 : decode cX10_readBoard 79 = .ok (.invokevirtual 132, 3) := by decide +kernel
theorem dX10_readBoard_82 : decode cX10_readBoard 82 = .ok (.ifCond .eq 7, 3) := by decide +kernel
theorem dX10_readBoard_85 : decode cX10_readBoard 85 = .ok (.iconst 1, 1) := by decide +kernel
theorem dX10_readBoard_86 : decode cX10_readBoard 86 = .ok (.goto 4, 3) := by decide +kernel
theorem dX10_readBoard_89 : decode cX10_readBoard 89 = .ok (.iconst 0, 1) := by decide +kernel
theorem dX10_readBoard_90 : decode cX10_readBoard 90 = .ok (.iastore, 1) := by decide +kernel
theorem dX10_readBoard_91 : decode cX10_readBoard 91 = .ok (.aload_n 0, 1) := by decide +kernel
theorem dX10_readBoard_92 : decode cX10_readBoard 92 = .ok (.getfield 9, 3) := by decide +kernel
theorem dX10_readBoard_95 : decode cX10_readBoard 95 = .ok (.iconst 2, 1) := by decide +kernel
theorem dX10_readBoard_96 : decode cX10_readBoard 96 = .ok (.aload_n 0, 1) := by decide +kernel
theorem dX10_readBoard_97 : decode cX10_readBoard 97 = .ok (.ldc 136, 2) := by decide +kernel
theorem dX10_readBoard_99 : decode cX10_readBoard 99 = .ok (.invokevirtual 132, 3) := by decide +kernel
theorem dX10_readBoard_102 : decode cX10_readBoard 102 = .ok (.ifCond .eq 7, 3) := by decide +kernel
theorem dX10_readBoard_105 : decode cX10_readBoard 105 = .ok (.iconst 1, 1) := by decide +kernel
theorem dX10_readBoard_106 : decode cX10_readBoard 106 = .ok (.goto 4, 3) := by decide +kernel
theorem dX10_readBoard_109 : decode cX10_readBoard 109 = .ok (.iconst 0, 1) := by decide +kernel
theorem dX10_readBoard_110 : decode cX10_readBoard 110 = .ok (.iastore, 1) := by decide +kernel
theorem dX10_readBoard_111 : decode cX10_readBoard 111 = .ok (.iconst 1, 1) := by decide +kernel
theorem dX10_readBoard_112 : decode cX10_readBoard 112 = .ok (.ireturn, 1) := by decide +kernel
theorem dX10_readCard_0 : decode cX10_readCard 0 = .ok (.aload_n 0, 1) := by decide +kernel
theorem dX10_readCard_1 : decode cX10_readCard 1 = .ok (.getfield 9, 3) := by decide +kernel
theorem dX10_readCard_4 : decode cX10_readCard 4 = .ok (.iconst 3, 1) := by decide +kernel
theorem dX10_readCard_5 : decode cX10_readCard 5 = .ok (.iaload, 1) := by decide +kernel
theorem dX10_readCard_6 : decode cX10_readCard 6 = .ok (.bipush 12, 2) := by decide +kernel
theorem dX10_readCard_8 : decode cX10_readCard 8 = .ok (.if_icmp .ne 10, 3) := by decide +kernel
theorem dX10_readCard_11 : decode cX10_readCard 11 = .ok (.aload_n 0, 1) := by decide +kernel
theorem dX10_readCard_12 : decode cX10_readCard 12 = .ok (.iconst 3, 1) := by decide +kernel
theorem dX10_readCard_13 : decode cX10_readCard 13 = .ok (.iload_n 1, 1) := by decide +kernel
theorem dX10_readCard_14 : decode cX10_readCard 14 = .ok (.invokevirtual 100, 3) := by decide +kernel
theorem dX10_readCard_17 : decode cX10_readCard 17 = .ok (.ireturn, 1) := by decide +kernel
theorem dX10_readCard_18 : decode cX10_readCard 18 = .ok (.aload_n 0, 1) := by decide +kernel
theorem dX10_readCard_19 : decode cX10_readCard 19 = .ok (.iconst 0, 1) := by decide +kernel
theorem dX10_readCard_20 : decode cX10_readCard 20 = .ok (.bipush 9, 2) := by decide +kernel
theorem dX10_readCard_22 : decode cX10_readCard 22 = .ok (.invokevirtual 127, 3) := by decide +kernel
theorem dX10_readCard_25 : decode cX10_readCard 25 = .ok (.ifCond .ne 5, 3) := by decide +kernel
theorem dX10_readCard_28 : decode cX10_readCard 28 = .ok (.iconst 0, 1) := by decide +kernel
theorem dX10_readCard_29 : decode cX10_readCard 29 = .ok (.ireturn, 1) := by decide +kernel
theorem dX10_readCard_30 : decode cX10_readCard 30 = .ok (.aload_n 0, 1) := by decide +kernel
theorem dX10_readCard_31 : decode cX10_readCard 31 = .ok (.getfield 112, 3) := by decide +kernel
theorem dX10_readCard_34 : decode cX10_readCard 34 = .ok (.istore_n 2, 1) := by decide +kernel
theorem dX10_readCard_35 : decode cX10_readCard 35 = .ok (.iconst (-1), 1) := by decide +kernel
theorem dX10_readCard_36 : decode cX10_readCard 36 = .ok (.istore_n 3, 1) := by decide +kernel
theorem dX10_readCard_37 : decode cX10_readCard 37 = .ok (.aload_n 0, 1) := by decide +kernel
theorem dX10_readCard_38 : decode cX10_readCard 38 = .ok (.ldc 138, 2) := by decide +kernel
theorem dX10_readCard_40 : decode cX10_readCard 40 = .ok (.invokevirtual 132, 3) := by decide +kernel
theorem dX10_readCard_43 : decode cX10_readCard 43 = .ok (.ifCond .eq 20, 3) := by decide +kernel
theorem dX10_readCard_46 : decode cX10_readCard 46 = .ok (.aload_n 0, 1) := by decide +kernel
theorem dX10_readCard_47 : decode cX10_readCard 47 = .ok (.iconst 0, 1) := by decide +kernel
theorem dX10_readCard_48 : decode cX10_readCard 48 = .ok (.bipush 9, 2) := by decide +kernel
theorem dX10_readCard_50 : decode cX10_readCard 50 = .ok (.invokevirtual 127, 3) := by decide +kernel
theorem dX10_readCard_53 : decode cX10_readCard 53 = .ok (.ifCond .ne 5, 3) := by decide +kernel
theorem dX10_readCard_56 : decode cX10_readCard 56 = .ok (.iconst 0, 1) := by decide +kernel
theorem dX10_readCard_57 : decode cX10_readCard 57 = .ok (.ireturn, 1) := by decide +kernel
theorem dX10_readCard_58 : decode cX10_readCard 58 = .ok (.aload_n 0, 1) := by decide +kernel
theorem dX10_readCard_59 : decode cX10_readCard 59 = .ok (.getfield 112, 3) := by decide +kernel
theorem dX10_readCard_62 : decode cX10_readCard 62 = .ok (.istore_n 3, 1) := by decide +kernel
theorem dX10_readCard_63 : decode cX10_readCard 63 = .ok (.aload_n 0, 1) := by decide +kernel
theorem dX10_readCard_64 : decode cX10_readCard 64 = .ok (.iconst 0, 1) := by decide +kernel
theorem dX10_readCard_65 : decode cX10_readCard 65 = .ok (.bipush 60, 2) := by decide +kernel
theorem dX10_readCard_67 : decode cX10_readCard 67 = .ok (.invokevirtual 127, 3) := by decide +kernel
theorem dX10_readCard_70 : decode cX10_readCard 70 = .ok (.ifCond .ne 5, 3) := by decide +kernel
theorem dX10_readCard_73 : decode cX10_readCard 73 = .ok (.iconst 0, 1) := by decide +kernel
theorem dX10_readCard_74 : decode cX10_readCard 74 = .ok (.ireturn, 1) := by decide +kernel
theorem dX10_readCard_75 : decode cX10_readCard 75 = .ok (.aload_n 0, 1) := by decide +kernel
theorem dX10_readCard_76 : decode cX10_readCard 76 = .ok (.iload_n 2, 1) := by decide +kernel
theorem dX10_readCard_77 : decode cX10_readCard 77 = .ok (.iload_n 3, 1) := by decide +kernel
theorem dX10_readCard_78 : decode cX10_readCard 78 = .ok (.aload_n 0, 1) := by decide +kernel
theorem dX10_readCard_79 : decode cX10_readCard 79 = .ok (.getfield 112, 3) := by decide +kernel
theorem dX10_readCard_82 : decode cX10_readCard 82 = .ok (.invokevirtual 140, 3) := by decide +kernel
theorem dX10_readCard_85 : decode cX10_readCard 85 = .ok (.pop, 1) := by decide +kernel
theorem dX10_readCard_86 : decode cX10_readCard 86 = .ok (.iconst 1, 1) := by decide +kernel
theorem dX10_readCard_87 : decode cX10_readCard 87 = .ok (.ireturn, 1) := by decide +kernel
theorem dX10_readFriend_0 : decode cX10_readFriend 0 = .ok (.aload_n 0, 1) := by decide +kernel
theorem dX10_readFriend_1 : decode cX10_readFriend 1 = .ok (.getfield 9, 3) := by decide +kernel
theorem dX10_readFriend_4 : decode cX10_readFriend 4 = .ok (.iconst 4, 1) := by decide +kernel
theorem dX10_readFriend_5 : decode cX10_readFriend 5 = .ok (.iaload, 1) := by decide +kernel
theorem dX10_readFriend_6 : decode cX10_readFriend 6 = .ok (.istore_n 2, 1) := by decide +kernel
theorem dX10_readFriend_7 : decode cX10_readFriend 7 = .ok (.iload_n 2, 1) := by decide +kernel
theorem dX10_readFriend_8 : decode cX10_readFriend 8 = .ok (.iconst 3, 1) := by decide +kernel
theorem dX10_readFriend_9 : decode cX10_readFriend 9 = .ok (.if_icmp .ne 10, 3) := by decide +kernel
theorem dX10_readFriend_12 : decode cX10_readFriend 12 = .ok (.aload_n 0, 1) := by decide +kernel
theorem dX10_readFriend_13 : decode cX10_readFriend 13 = .ok (.iconst 3, 1) := by decide +kernel
theorem dX10_readFriend_14 : decode cX10_readFriend 14 = .ok (.iload_n 1, 1) := by decide +kernel
theorem dX10_readFriend_15 : decode cX10_readFriend 15 = .ok (.invokevirtual 100, 3) := by decide +kernel
theorem dX10_readFriend_18 : decode cX10_readFriend 18 = .ok (.ireturn, 1) := by decide +kernel
theorem dX10_readFriend_19 : decode cX10_readFriend 19 = .ok (.aload_n 0, 1) := by decide +kernel
theorem dX10_readFriend_20 : decode cX10_readFriend 20 = .ok (.iconst 1, 1) := by decide +kernel
theorem dX10_readFriend_21 : decode cX10_readFriend 21 = .ok (.bipush 9, 2) := by decide +kernel
theorem dX10_readFriend_23 : decode cX10_readFriend 23 = .ok (.invokevirtual 127, 3) := by decide +kernel
theorem dX10_readFriend_26 : decode cX10_readFriend 26 = .ok (.ifCond .ne 5, 3) := by decide +kernel
theorem dX10_readFriend_29 : decode cX10_readFriend 29 = .ok (.iconst 0, 1) := by decide +kernel
theorem dX10_readFriend_30 : decode cX10_readFriend 30 = .ok (.ireturn, 1) := by decide +kernel
theorem dX10_readFriend_31 : decode cX10_readFriend 31 = .ok (.aload_n 0, 1) := by decide +kernel
theorem dX10_readFriend_32 : decode cX10_readFriend 32 = .ok (.iload_n 2, 1) := by decide +kernel
theorem dX10_readFriend_33 : decode cX10_readFriend 33 = .ok (.iconst 0, 1) := by decide +kernel
theorem dX10_readFriend_34 : decode cX10_readFriend 34 = .ok (.aload_n 0, 1) := by decide +kernel
theorem dX10_readFriend_35 : decode cX10_readFriend 35 = .ok (.getfield 112, 3) := by decide +kernel
theorem dX10_readFriend_38 : decode cX10_readFriend 38 = .ok (.invokevirtual 144, 3) := by decide +kernel
theorem dX10_readFriend_41 : decode cX10_readFriend 41 = .ok (.iconst 0, 1) := by decide +kernel
theorem dX10_readFriend_42 : decode cX10_readFriend 42 = .ok (.istore_n 3, 1) := by decide +kernel
theorem dX10_readFriend_43 : decode cX10_readFriend 43 = .ok (.iload_n 3, 1) := by decide +kernel
theorem dX10_readFriend_44 : decode cX10_readFriend 44 = .ok (.bipush 10, 2) := by decide +kernel
theorem dX10_readFriend_46 : decode cX10_readFriend 46 = .ok (.if_icmp .ge 33, 3) := by decide +kernel
theorem dX10_readFriend_49 : decode cX10_readFriend 49 = .ok (.aload_n 0, 1) := by decide +kernel
theorem dX10_readFriend_50 : decode cX10_readFriend 50 = .ok (.iconst 0, 1) := by decide +kernel
theorem dX10_readFriend_51 : decode cX10_readFriend 51 = .ok (.bipush 20, 2) := by decide +kernel
theorem dX10_readFriend_53 : decode cX10_readFriend 53 = .ok (.invokevirtual 127, 3) := by decide +kernel
theorem dX10_readFriend_56 : decode cX10_readFriend 56 = .ok (.ifCond .ne 5, 3) := by decide +kernel
theorem dX10_readFriend_59 : decode cX10_readFriend 59 = .ok (.iconst 0, 1) := by decide +kernel
theorem dX10_readFriend_60 : decode cX10_readFriend 60 = .ok (.ireturn, 1) := by decide +kernel
theorem dX10_readFriend_61 : decode cX10_readFriend 61 = .ok (.aload_n 0, 1) := by decide +kernel
theorem dX10_readFriend_62 : decode cX10_readFriend 62 = .ok (.iload_n 2, 1) := by decide +kernel
theorem dX10_readFriend_63 : decode cX10_readFriend 63 = .ok (.iconst 1, 1) := by decide +kernel
theorem dX10_readFriend_64 : decode cX10_readFriend 64 = .ok (.iload_n 3, 1) := by decide +kernel
theorem dX10_readFriend_65 : decode cX10_readFriend 65 = .ok (.iadd, 1) := by decide +kernel
theorem dX10_readFriend_66 : decode cX10_readFriend 66 = .ok (.aload_n 0, 1) := by decide +kernel
theorem dX10_readFriend_67 : decode cX10_readFriend 67 = .ok (.getfield 112, 3) := by decide +kernel
theorem dX10_readFriend_70 : decode cX10_readFriend 70 = .ok (.invokevirtual 144, 3) := by decide +kernel
theorem dX10_readFriend_73 : decode cX10_readFriend 73 = .ok (.iinc 3 1, 3) := by decide +kernel
theorem dX10_readFriend_76 : decode cX10_readFriend 76 = .ok (.goto (-33), 3) := by decide +kernel
theorem dX10_readFriend_79 : decode cX10_readFriend 79 = .ok (.aload_n 0, 1) := by decide +kernel
theorem dX10_readFriend_80 : decode cX10_readFriend 80 = .ok (.getfield 9, 3) := by decide +kernel
theorem dX10_readFriend_83 : decode cX10_readFriend 83 = .ok (.iconst 4, 1) := by decide +kernel
theorem dX10_readFriend_84 : decode cX10_readFriend 84 = .ok (.dup2, 1) := by decide +kernel
theorem dX10_readFriend_85 : decode cX10_readFriend 85 = .ok (.iaload, 1) := by decide +kernel
theorem dX10_readFriend_86 : decode cX10_readFriend 86 = .ok (.iconst 1, 1) := by decide +kernel
theorem dX10_readFriend_87 : decode cX10_readFriend 87 = .ok (.iadd, 1) := by decide +kernel
theorem dX10_readFriend_88 : decode cX10_readFriend 88 = .ok (.iastore, 1) := by decide +kernel
theorem dX10_readFriend_89 : decode cX10_readFriend 89 = .ok (.iconst 1, 1) := by decide +kernel
theorem dX10_readFriend_90 : decode cX10_readFriend 90 = .ok (.ireturn, 1) := by decide +kernel
theorem dX10_repeats_0 : decode cX10_repeats 0 = .ok (.aload_n 0, 1) := by decide +kernel
theorem dX10_repeats_1 : decode cX10_repeats 1 = .ok (.iconst 1, 1) := by decide +kernel
theorem dX10_repeats_2 : decode cX10_repeats 2 = .ok (.bipush 8, 2) := by decide +kernel
theorem dX10_repeats_4 : decode cX10_repeats 4 = .ok (.invokevirtual 127, 3) := by decide +kernel
theorem dX10_repeats_7 : decode cX10_repeats 7 = .ok (.ifCond .ne 5, 3) := by decide +kernel
theorem dX10_repeats_10 : decode cX10_repeats 10 = .ok (.iconst 0, 1) := by decide +kernel
theorem dX10_repeats_11 : decode cX10_repeats 11 = .ok (.ireturn, 1) := by decide +kernel
theorem dX10_repeats_12 : decode cX10_repeats 12 = .ok (.aload_n 0, 1) := by decide +kernel
theorem dX10_repeats_13 : decode cX10_repeats 13 = .ok (.iload_n 1, 1) := by decide +kernel
theorem dX10_repeats_14 : decode cX10_repeats 14 = .ok (.invokevirtual 148, 3) := by decide +kernel
theorem dX10_repeats_17 : decode cX10_repeats 17 = .ok (.iload_n 2, 1) := by decide +kernel
theorem dX10_repeats_18 : decode cX10_repeats 18 = .ok (.isub, 1) := by decide +kernel
theorem dX10_repeats_19 : decode cX10_repeats 19 = .ok (.istore_n 3, 1) := by decide +kernel
theorem dX10_repeats_20 : decode cX10_repeats 20 = .ok (.iload_n 2, 1) := by decide +kernel
theorem dX10_repeats_21 : decode cX10_repeats 21 = .ok (.iload_n 3, 1) := by decide +kernel
theorem dX10_repeats_22 : decode cX10_repeats 22 = .ok (.aload_n 0, 1) := by decide +kernel
theorem dX10_repeats_23 : decode cX10_repeats 23 = .ok (.getfield 112, 3) := by decide +kernel
theorem dX10_repeats_26 : decode cX10_repeats 26 = .ok (.imul, 1) := by decide +kernel
theorem dX10_repeats_27 : decode cX10_repeats 27 = .ok (.iadd, 1) := by decide +kernel
theorem dX10_repeats_28 : decode cX10_repeats 28 = .ok (.bipush 8, 2) := by decide +kernel
theorem dX10_repeats_30 : decode cX10_repeats 30 = .ok (.if_icmp .le 13, 3) := by decide +kernel
theorem dX10_repeats_33 : decode cX10_repeats 33 = .ok (.aload_n 0, 1) := by decide +kernel
theorem dX10_repeats_34 : decode cX10_repeats 34 = .ok (.iconst 4, 1) := by decide +kernel
theorem dX10_repeats_35 : decode cX10_repeats 35 = .ok (.aload_n 0, 1) := by decide +kernel
theorem dX10_repeats_36 : decode cX10_repeats 36 = .ok (.getfield 81, 3) := by decide +kernel
theorem dX10_repeats_39 : decode cX10_repeats 39 = .ok (.invokevirtual 100, 3) := by decide +kernel
theorem dX10_repeats_42 : decode cX10_repeats 42 = .ok (.ireturn, 1) := by decide +kernel
theorem dX10_repeats_43 : decode cX10_repeats 43 = .ok (.iload_n 3, 1) := by decide +kernel
theorem dX10_repeats_44 : decode cX10_repeats 44 = .ok (.istore 4, 2) := by decide +kernel
theorem dX10_repeats_46 : decode cX10_repeats 46 = .ok (.iload 4, 2) := by decide +kernel
theorem dX10_repeats_48 : decode cX10_repeats 48 = .ok (.iload_n 3, 1) := by decide +kernel
theorem dX10_repeats_49 : decode cX10_repeats 49 = .ok (.aload_n 0, 1) := by decide +kernel
theorem dX10_repeats_50 : decode cX10_repeats 50 = .ok (.getfield 112, 3) := by decide +kernel
theorem dX10_repeats_53 : decode cX10_repeats 53 = .ok (.imul, 1) := by decide +kernel
theorem dX10_repeats_54 : decode cX10_repeats 54 = .ok (.if_icmp .ge 29, 3) := by decide +kernel
theorem dX10_repeats_57 : decode cX10_repeats 57 = .ok (.aload_n 0, 1) := by decide +kernel
theorem dX10_repeats_58 : decode cX10_repeats 58 = .ok (.iload_n 1, 1) := by decide +kernel
theorem dX10_repeats_59 : decode cX10_repeats 59 = .ok (.iload_n 2, 1) := by decide +kernel
theorem dX10_repeats_60 : decode cX10_repeats 60 = .ok (.iload 4, 2) := by decide +kernel
theorem dX10_repeats_62 : decode cX10_repeats 62 = .ok (.iadd, 1) := by decide +kernel
theorem dX10_repeats_63 : decode cX10_repeats 63 = .ok (.aload_n 0, 1) := by decide +kernel
theorem dX10_repeats_64 : decode cX10_repeats 64 = .ok (.iload_n 1, 1) := by decide +kernel
theorem dX10_repeats_65 : decode cX10_repeats 65 = .ok (.iload_n 2, 1) := by decide +kernel
theorem dX10_repeats_66 : decode cX10_repeats 66 = .ok (.iload 4, 2) := by decide +kernel
theorem dX10_repeats_68 : decode cX10_repeats 68 = .ok (.iadd, 1) := by decide +kernel
theorem dX10_repeats_69 : decode cX10_repeats 69 = .ok (.iload_n 3, 1) := by decide +kernel
theorem dX10_repeats_70 : decode cX10_repeats 70 = .ok (.isub, 1) := by decide +kernel
theorem dX10_repeats_71 : decode cX10_repeats 71 = .ok (.invokevirtual 152, 3) := by decide +kernel
theorem dX10_repeats_74 : decode cX10_repeats 74 = .ok (.invokevirtual 156, 3) := by decide +kernel
theorem dX10_repeats_77 : decode cX10_repeats 77 = .ok (.iinc 4 1, 3) := by decide +kernel
theorem dX10_repeats_80 : decode cX10_repeats 80 = .ok (.goto (-34), 3) := by decide +kernel
theorem dX10_repeats_83 : decode cX10_repeats 83 = .ok (.aload_n 0, 1) := by decide +kernel
theorem dX10_repeats_84 : decode cX10_repeats 84 = .ok (.getfield 9, 3) := by decide +kernel
theorem dX10_repeats_87 : decode cX10_repeats 87 = .ok (.iload_n 1, 1) := by decide +kernel
theorem dX10_repeats_88 : decode cX10_repeats 88 = .ok (.iconst 0, 1) := by decide +kernel
theorem dX10_repeats_89 : decode cX10_repeats 89 = .ok (.invokestatic 159, 3) := by decide +kernel
theorem dX10_repeats_92 : decode cX10_repeats 92 = .ok (.iload_n 2, 1) := by decide +kernel
theorem dX10_repeats_93 : decode cX10_repeats 93 = .ok (.iload_n 3, 1) := by decide +kernel
theorem dX10_repeats_94 : decode cX10_repeats 94 = .ok (.aload_n 0, 1) := by decide +kernel
theorem dX10_repeats_95 : decode cX10_repeats 95 = .ok (.getfield 112, 3) := by decide +kernel
theorem dX10_repeats_98 : decode cX10_repeats 98 = .ok (.imul, 1) := by decide +kernel
theorem dX10_repeats_99 : decode cX10_repeats 99 = .ok (.iadd, 1) := by decide +kernel
theorem dX10_repeats_100 : decode cX10_repeats 100 = .ok (.iastore, 1) := by decide +kernel
theorem dX10_repeats_101 : decode cX10_repeats 101 = .ok (.iconst 1, 1) := by decide +kernel
theorem dX10_repeats_102 : decode cX10_repeats 102 = .ok (.ireturn, 1) := by decide +kernel
theorem dX10_readService_0 : decode cX10_readService 0 = .ok (.aload_n 0, 1) := by decide +kernel
theorem dX10_readService_1 : decode cX10_readService 1 = .ok (.getfield 9, 3) := by decide +kernel
theorem dX10_readService_4 : decode cX10_readService 4 = .ok (.iconst 5, 1) := by decide +kernel
theorem dX10_readService_5 : decode cX10_readService 5 = .ok (.iaload, 1) := by decide +kernel
theorem dX10_readService_6 : decode cX10_readService 6 = .ok (.istore_n 2, 1) := by decide +kernel
theorem dX10_readService_7 : decode cX10_readService 7 = .ok (.iload_n 2, 1) := by decide +kernel
theorem dX10_readService_8 : decode cX10_readService 8 = .ok (.bipush 16, 2) := by decide +kernel
theorem dX10_readService_10 : decode cX10_readService 10 = .ok (.if_icmp .ne 10, 3) := by decide +kernel
theorem dX10_readService_13 : decode cX10_readService 13 = .ok (.aload_n 0, 1) := by decide +kernel
theorem dX10_readService_14 : decode cX10_readService 14 = .ok (.iconst 3, 1) := by decide +kernel
theorem dX10_readService_15 : decode cX10_readService 15 = .ok (.iload_n 1, 1) := by decide +kernel
theorem dX10_readService_16 : decode cX10_readService 16 = .ok (.invokevirtual 100, 3) := by decide +kernel
theorem dX10_readService_19 : decode cX10_readService 19 = .ok (.ireturn, 1) := by decide +kernel
theorem dX10_readService_20 : decode cX10_readService 20 = .ok (.aload_n 0, 1) := by decide +kernel
theorem dX10_readService_21 : decode cX10_readService 21 = .ok (.getfield 9, 3) := by decide +kernel
theorem dX10_readService_24 : decode cX10_readService 24 = .ok (.iload_n 2, 1) := by decide +kernel
theorem dX10_readService_25 : decode cX10_readService 25 = .ok (.iconst 0, 1) := by decide +kernel
theorem dX10_readService_26 : decode cX10_readService 26 = .ok (.invokestatic 159, 3) := by decide +kernel
theorem dX10_readService_29 : decode cX10_readService 29 = .ok (.iconst 0, 1) := by decide +kernel
theorem dX10_readService_30 : decode cX10_readService 30 = .ok (.iastore, 1) := by decide +kernel
theorem dX10_readService_31 : decode cX10_readService 31 = .ok (.iconst 0, 1) := by decide +kernel
theorem dX10_readService_32 : decode cX10_readService 32 = .ok (.istore_n 3, 1) := by decide +kernel
theorem dX10_readService_33 : decode cX10_readService 33 = .ok (.iconst 0, 1) := by decide +kernel
theorem dX10_readService_34 : decode cX10_readService 34 = .ok (.istore 4, 2) := by decide +kernel
theorem dX10_readService_36 : decode cX10_readService 36 = .ok (.aload_n 0, 1) := by decide +kernel
theorem dX10_readService_37 : decode cX10_readService 37 = .ok (.invokevirtual 84, 3) := by decide +kernel
theorem dX10_readService_40 : decode cX10_readService 40 = .ok (.istore 5, 2) := by decide +kernel
theorem dX10_readService_42 : decode cX10_readService 42 = .ok (.iload 5, 2) := by decide +kernel
theorem dX10_readService_44 : decode cX10_readService 44 = .ok (.bipush 40, 2) := by decide +kernel
theorem dX10_readService_46 : decode cX10_readService 46 = .ok (.if_icmp .ne 48, 3) := by decide +kernel
theorem dX10_readService_49 : decode cX10_readService 49 = .ok (.iload_n 3, 1) := by decide +kernel
theorem dX10_readService_50 : decode cX10_readService 50 = .ok (.iconst 3, 1) := by decide +kernel
theorem dX10_readService_51 : decode cX10_readService 51 = .ok (.if_icmp .ne 13, 3) := by decide +kernel
theorem dX10_readService_54 : decode cX10_readService 54 = .ok (.aload_n 0, 1) := by decide +kernel
theorem dX10_readService_55 : decode cX10_readService 55 = .ok (.iconst 3, 1) := by decide +kernel
theorem dX10_readService_56 : decode cX10_readService 56 = .ok (.aload_n 0, 1) := by decide +kernel
theorem dX10_readService_57 : decode cX10_readService 57 = .ok (.getfield 81, 3) := by decide +kernel
theorem dX10_readService_60 : decode cX10_readService 60 = .ok (.invokevirtual 100, 3) := by decide +kernel
theorem dX10_readService_63 : decode cX10_readService 63 = .ok (.ireturn, 1) := by decide +kernel
theorem dX10_readService_64 : decode cX10_readService 64 = .ok (.aload_n 0, 1) := by decide +kernel
theorem dX10_readService_65 : decode cX10_readService 65 = .ok (.getfield 34, 3) := by decide +kernel
theorem dX10_readService_68 : decode cX10_readService 68 = .ok (.iload_n 3, 1) := by decide +kernel
theorem dX10_readService_69 : decode cX10_readService 69 = .ok (.aload_n 0, 1) := by decide +kernel
theorem dX10_readService_70 : decode cX10_readService 70 = .ok (.iload_n 2, 1) := by decide +kernel
theorem dX10_readService_71 : decode cX10_readService 71 = .ok (.invokevirtual 148, 3) := by decide +kernel
theorem dX10_readService_74 : decode cX10_readService 74 = .ok (.iastore, 1) := by decide +kernel
theorem dX10_readService_75 : decode cX10_readService 75 = .ok (.iinc 3 1, 3) := by decide +kernel
theorem dX10_readService_78 : decode cX10_readService 78 = .ok (.aload_n 0, 1) := by decide +kernel
theorem dX10_readService_79 : decode cX10_readService 79 = .ok (.dup, 1) := by decide +kernel
theorem dX10_readService_80 : decode cX10_readService 80 = .ok (.getfield 78, 3) := by decide +kernel
theorem dX10_readService_83 : decode cX10_readService 83 = .ok (.iconst 1, 1) := by decide +kernel
theorem dX10_readService_84 : decode cX10_readService 84 = .ok (.iadd, 1) := by decide +kernel
theorem dX10_readService_85 : decode cX10_readService 85 = .ok (.putfield 78, 3) := by decide +kernel
theorem dX10_readService_88 : decode cX10_readService 88 = .ok (.iconst 0, 1) := by decide +kernel
theorem dX10_readService_89 : decode cX10_readService 89 = .ok (.istore 4, 2) := by decide +kernel
theorem dX10_readService_91 : decode cX10_readService 91 = .ok (.goto 142, 3) := by decide +kernel
theorem dX10_readService_94 : decode cX10_readService 94 = .ok (.iload 5, 2) := by decide +kernel
theorem dX10_readService_96 : decode cX10_readService 96 = .ok (.i2l, 1) := by decide +kernel
theorem dX10_readService_97 : decode cX10_readService 97 = .ok (.ldc2_w 88, 3) := by decide +kernel
theorem dX10_readService_100 : decode cX10_readService 100 = .ok (.ldc2_w 90, 3) := by decide +kernel
theorem dX10_readService_103 : decode cX10_readService 103 = .ok (.invokestatic 92, 3) := by decide +kernel
theorem dX10_readService_106 : decode cX10_readService 106 = .ok (.ifCond .eq 51, 3) := by decide +kernel
theorem dX10_readService_109 : decode cX10_readService 109 = .ok (.aload_n 0, 1) := by decide +kernel
theorem dX10_readService_110 : decode cX10_readService 110 = .ok (.iconst 1, 1) := by decide +kernel
theorem dX10_readService_111 : decode cX10_readService 111 = .ok (.sipush 999, 3) := by decide +kernel
theorem dX10_readService_114 : decode cX10_readService 114 = .ok (.invokevirtual 127, 3) := by decide +kernel
theorem dX10_readService_117 : decode cX10_readService 117 = .ok (.ifCond .ne 5, 3) := by decide +kernel
theorem dX10_readService_120 : decode cX10_readService 120 = .ok (.iconst 0, 1) := by decide +kernel
theorem dX10_readService_121 : decode cX10_readService 121 = .ok (.ireturn, 1) := by decide +kernel
theorem dX10_readService_122 : decode cX10_readService 122 = .ok (.aload_n 0, 1) := by decide +kernel
theorem dX10_readService_123 : decode cX10_readService 123 = .ok (.iload_n 2, 1) := by decide +kernel
theorem dX10_readService_124 : decode cX10_readService 124 = .ok (.invokevirtual 148, 3) := by decide +kernel
theorem dX10_readService_127 : decode cX10_readService 127 = .ok (.bipush 8, 2) := by decide +kernel
theorem dX10_readService_129 : decode cX10_readService 129 = .ok (.if_icmp .ne 13, 3) := by decide +kernel
theorem dX10_readService_132 : decode cX10_readService 132 = .ok (.aload_n 0, 1) := by decide +kernel
theorem dX10_readService_133 : decode cX10_readService 133 = .ok (.iconst 4, 1) := by decide +kernel
theorem dX10_readService_134 : decode cX10_readService 134 = .ok (.aload_n 0, 1) := by decide +kernel
theorem dX10_readService_135 : decode cX10_readService 135 = .ok (.getfield 81, 3) := by decide +kernel
theorem dX10_readService_138 : decode cX10_readService 138 = .ok (.invokevirtual 100, 3) := by decide +kernel
theorem dX10_readService_141 : decode cX10_readService 141 = .ok (.ireturn, 1) := by decide +kernel
theorem dX10_readService_142 : decode cX10_readService 142 = .ok (.aload_n 0, 1) := by decide +kernel
theorem dX10_readService_143 : decode cX10_readService 143 = .ok (.iload_n 2, 1) := by decide +kernel
theorem dX10_readService_144 : decode cX10_readService 144 = .ok (.aload_n 0, 1) := by decide +kernel
theorem dX10_readService_145 : decode cX10_readService 145 = .ok (.getfield 112, 3) := by decide +kernel
theorem dX10_readService_148 : decode cX10_readService 148 = .ok (.invokevirtual 162, 3) := by decide +kernel
theorem dX10_readService_151 : decode cX10_readService 151 = .ok (.iconst 1, 1) := by decide +kernel
theorem dX10_readService_152 : decode cX10_readService 152 = .ok (.istore 4, 2) := by decide +kernel
theorem dX10_readService_154 : decode cX10_readService 154 = .ok (.goto 79, 3) := by decide +kernel
theorem dX10_readService_157 : decode cX10_readService 157 = .ok (.iload 5, 2) := by decide +kernel
theorem dX10_readService_159 : decode cX10_readService 159 = .ok (.bipush 41, 2) := by decide +kernel
theorem dX10_readService_161 : decode cX10_readService 161 = .ok (.if_icmp .ne 41, 3) := by decide +kernel
theorem dX10_readService_164 : decode cX10_readService 164 = .ok (.iload 4, 2) := by decide +kernel
theorem dX10_readService_166 : decode cX10_readService 166 = .ok (.ifCond .eq 36, 3) := by decide +kernel
theorem dX10_readService_169 : decode cX10_readService 169 = .ok (.iload_n 3, 1) := by decide +kernel
theorem dX10_readService_170 : decode cX10_readService 170 = .ok (.ifCond .le 32, 3) := by decide +kernel
theorem dX10_readService_173 : decode cX10_readService 173 = .ok (.iinc 3 (-1), 3) := by decide +kernel
theorem dX10_readService_176 : decode cX10_readService 176 = .ok (.aload_n 0, 1) := by decide +kernel
theorem dX10_readService_177 : decode cX10_readService 177 = .ok (.dup, 1) := by decide +kernel
theorem dX10_readService_178 : decode cX10_readService 178 = .ok (.getfield 78, 3) := by decide +kernel
theorem dX10_readService_181 : decode cX10_readService 181 = .ok (.iconst 1, 1) := by decide +kernel
theorem dX10_readService_182 : decode cX10_readService 182 = .ok (.iadd, 1) := by decide +kernel
theorem dX10_readService_183 : decode cX10_readService 183 = .ok (.putfield 78, 3) := by decide +kernel
theorem dX10_readService_186 : decode cX10_readService 186 = .ok (.aload_n 0, 1) := by decide +kernel
theorem dX10_readService_187 : decode cX10_readService 187 = .ok (.iload_n 2, 1) := by decide +kernel
theorem dX10_readService_188 : decode cX10_readService 188 = .ok (.aload_n 0, 1) := by decide +kernel
theorem dX10_readService_189 : decode cX10_readService 189 = .ok (.getfield 34, 3) := by decide +kernel
theorem dX10_readService_192 : decode cX10_readService 192 = .ok (.iload_n 3, 1) := by decide +kernel
theorem dX10_readService_193 : decode cX10_readService 193 = .ok (.iaload, 1) := by decide +kernel
theorem dX10_readService_194 : decode cX10_readService 194 = .ok (.invokevirtual 166, 3) := by decide +kernel
theorem dX10_readService_197 : decode cX10_readService 197 = .ok (.ifCond .ne 36, 3) := by decide +kernel
theorem dX10_readService_200 : decode cX10_readService 200 = .ok (.iconst 0, 1) := by decide +kernel
theorem dX10_readService_201 : decode cX10_readService 201 = .ok (.ireturn, 1) := by decide +kernel
theorem dX10_readService_202 : decode cX10_readService 202 = .ok (.iload 4, 2) := by decide +kernel
theorem dX10_readService_204 : decode cX10_readService 204 = .ok (.ifCond .eq 7, 3) := by decide +kernel
theorem dX10_readService_207 : decode cX10_readService 207 = .ok (.iload_n 3, 1) := by decide +kernel
theorem dX10_readService_208 : decode cX10_readService 208 = .ok (.ifCond .le 13, 3) := by decide +kernel
theorem dX10_readService_211 : decode cX10_readService 211 = .ok (.aload_n 0, 1) := by decide +kernel
theorem dX10_readService_212 : decode cX10_readService 212 = .ok (.iconst 1, 1) := by decide +kernel
theorem dX10_readService_213 : decode cX10_readService 213 = .ok (.aload_n 0, 1) := by decide +kernel
theorem dX10_readService_214 : decode cX10_readService 214 = .ok (.getfield 81, 3) := by decide +kernel
theorem dX10_readService_217 : decode cX10_readService 217 = .ok (.invokevirtual 100, 3) := by decide +kernel
theorem dX10_readService_220 : decode cX10_readService 220 = .ok (.ireturn, 1) := by decide +kernel
theorem dX10_readService_221 : decode cX10_readService 221 = .ok (.aload_n 0, 1) := by decide +kernel
theorem dX10_readService_222 : decode cX10_readService 222 = .ok (.getfield 9, 3) := by decide +kernel
theorem dX10_readService_225 : decode cX10_readService 225 = .ok (.iconst 5, 1) := by decide +kernel
theorem dX10_readService_226 : decode cX10_readService 226 = .ok (.dup2, 1) := by decide +kernel
theorem dX10_readService_227 : decode cX10_readService 227 = .ok (.iaload, 1) := by decide +kernel
theorem dX10_readService_228 : decode cX10_readService 228 = .ok (.iconst 1, 1) := by decide +kernel
theorem dX10_readService_229 : decode cX10_readService 229 = .ok (.iadd, 1) := by decide +kernel
theorem dX10_readService_230 : decode cX10_readService 230 = .ok (.iastore, 1) := by decide +kernel
theorem dX10_readService_231 : decode cX10_readService 231 = .ok (.iconst 1, 1) := by decide +kernel
theorem dX10_readService_232 : decode cX10_readService 232 = .ok (.ireturn, 1) := by decide +kernel
theorem dX10_readService_233 : decode cX10_readService 233 = .ok (.goto (-197), 3) := by decide +kernel
theorem dX10_readStatement_0 : decode cX10_readStatement 0 = .ok (.aload_n 0, 1) := by decide +kernel
theorem dX10_readStatement_1 : decode cX10_readStatement 1 = .ok (.getfield 169, 3) := by decide +kernel
theorem dX10_readStatement_4 : decode cX10_readStatement 4 = .ok (.ifCond .ne 29, 3) := by decide +kernel
theorem dX10_readStatement_7 : decode cX10_readStatement 7 = .ok (.aload_n 0, 1) := by decide +kernel
theorem dX10_readStatement_8 : decode cX10_readStatement 8 = .ok (.ldc 172, 2) := by decide +kernel
theorem dX10_readStatement_10 : decode cX10_readStatement 10 = .ok (.invokevirtual 132, 3) := by decide +kernel
theorem dX10_readStatement_13 : decode cX10_readStatement 13 = .ok (.ifCond .eq 10, 3) := by decide +kernel
theorem dX10_readStatement_16 : decode cX10_readStatement 16 = .ok (.aload_n 0, 1) := by decide +kernel
theorem dX10_readStatement_17 : decode cX10_readStatement 17 = .ok (.invokevirtual 174, 3) := by decide +kernel
theorem dX10_readStatement_20 : decode cX10_readStatement 20 = .ok (.goto 12, 3) := by decide +kernel
theorem dX10_readStatement_23 : decode cX10_readStatement 23 = .ok (.aload_n 0, 1) := by decide +kernel
theorem dX10_readStatement_24 : decode cX10_readStatement 24 = .ok (.iconst 1, 1) := by decide +kernel
theorem dX10_readStatement_25 : decode cX10_readStatement 25 = .ok (.aload_n 0, 1) := by decide +kernel
theorem dX10_readStatement_26 : decode cX10_readStatement 26 = .ok (.getfield 81, 3) := by decide +kernel
theorem dX10_readStatement_29 : decode cX10_readStatement 29 = .ok (.invokevirtual 100, 3) := by decide +kernel
theorem dX10_readStatement_32 : decode cX10_readStatement 32 = .ok (.ireturn, 1) := by decide +kernel
theorem dX10_readStatement_33 : decode cX10_readStatement 33 = .ok (.aload_n 0, 1) := by decide +kernel
theorem dX10_readStatement_34 : decode cX10_readStatement 34 = .ok (.ldc 177, 2) := by decide +kernel
theorem dX10_readStatement_36 : decode cX10_readStatement 36 = .ok (.invokevirtual 132, 3) := by decide +kernel
theorem dX10_readStatement_39 : decode cX10_readStatement 39 = .ok (.ifCond .eq 12, 3) := by decide +kernel
theorem dX10_readStatement_42 : decode cX10_readStatement 42 = .ok (.aload_n 0, 1) := by decide +kernel
theorem dX10_readStatement_43 : decode cX10_readStatement 43 = .ok (.aload_n 0, 1) := by decide +kernel
theorem dX10_readStatement_44 : decode cX10_readStatement 44 = .ok (.getfield 81, 3) := by decide +kernel
theorem dX10_readStatement_47 : decode cX10_readStatement 47 = .ok (.invokevirtual 179, 3) := by decide +kernel
theorem dX10_readStatement_50 : decode cX10_readStatement 50 = .ok (.ireturn, 1) := by decide +kernel
theorem dX10_readStatement_51 : decode cX10_readStatement 51 = .ok (.aload_n 0, 1) := by decide +kernel
theorem dX10_readStatement_52 : decode cX10_readStatement 52 = .ok (.ldc 183, 2) := by decide +kernel
theorem dX10_readStatement_54 : decode cX10_readStatement 54 = .ok (.invokevirtual 132, 3) := by decide +kernel
theorem dX10_readStatement_57 : decode cX10_readStatement 57 = .ok (.ifCond .eq 12, 3) := by decide +kernel
theorem dX10_readStatement_60 : decode cX10_readStatement 60 = .ok (.aload_n 0, 1) := by decide +kernel
theorem dX10_readStatement_61 : decode cX10_readStatement 61 = .ok (.aload_n 0, 1) := by decide +kernel
theorem dX10_readStatement_62 : decode cX10_readStatement 62 = .ok (.getfield 81, 3) := by decide +kernel
theorem dX10_readStatement_65 : decode cX10_readStatement 65 = .ok (.invokevirtual 185, 3) := by decide +kernel
theorem dX10_readStatement_68 : decode cX10_readStatement 68 = .ok (.ireturn, 1) := by decide +kernel
theorem dX10_readStatement_69 : decode cX10_readStatement 69 = .ok (.aload_n 0, 1) := by decide +kernel
theorem dX10_readStatement_70 : decode cX10_readStatement 70 = .ok (.ldc 188, 2) := by decide +kernel
theorem dX10_readStatement_72 : decode cX10_readStatement 72 = .ok (.invokevirtual 132, 3) := by decide +kernel
theorem dX10_readStatement_75 : decode cX10_readStatement 75 = .ok (.ifCond .eq 14, 3) := by decide +kernel
theorem dX10_readStatement_78 : decode cX10_readStatement 78 = .ok (.aload_n 0, 1) := by decide +kernel
theorem dX10_readStatement_79 : decode cX10_readStatement 79 = .ok (.aload_n 0, 1) := by decide +kernel
theorem dX10_readStatement_80 : decode cX10_readStatement 80 = .ok (.getfield 81, 3) := by decide +kernel
theorem dX10_readStatement_83 : decode cX10_readStatement 83 = .ok (.invokevirtual 190, 3) := by decide +kernel
theorem dX10_readStatement_86 : decode cX10_readStatement 86 = .ok (.goto 12, 3) := by decide +kernel
theorem dX10_readStatement_89 : decode cX10_readStatement 89 = .ok (.aload_n 0, 1) := by decide +kernel
theorem dX10_readStatement_90 : decode cX10_readStatement 90 = .ok (.iconst 1, 1) := by decide +kernel
theorem dX10_readStatement_91 : decode cX10_readStatement 91 = .ok (.aload_n 0, 1) := by decide +kernel
theorem dX10_readStatement_92 : decode cX10_readStatement 92 = .ok (.getfield 81, 3) := by decide +kernel
theorem dX10_readStatement_95 : decode cX10_readStatement 95 = .ok (.invokevirtual 100, 3) := by decide +kernel
theorem dX10_readStatement_98 : decode cX10_readStatement 98 = .ok (.ireturn, 1) := by decide +kernel
theorem dX10_readAll_0 : decode cX10_readAll 0 = .ok (.aload_n 0, 1) := by decide +kernel
theorem dX10_readAll_1 : decode cX10_readAll 1 = .ok (.iconst 0, 1) := by decide +kernel
theorem dX10_readAll_2 : decode cX10_readAll 2 = .ok (.putfield 78, 3) := by decide +kernel
theorem dX10_readAll_5 : decode cX10_readAll 5 = .ok (.aload_n 0, 1) := by decide +kernel
theorem dX10_readAll_6 : decode cX10_readAll 6 = .ok (.iconst 0, 1) := by decide +kernel
theorem dX10_readAll_7 : decode cX10_readAll 7 = .ok (.putfield 169, 3) := by decide +kernel
theorem dX10_readAll_10 : decode cX10_readAll 10 = .ok (.aload_n 0, 1) := by decide +kernel
theorem dX10_readAll_11 : decode cX10_readAll 11 = .ok (.invokevirtual 193, 3) := by decide +kernel
theorem dX10_readAll_14 : decode cX10_readAll 14 = .ok (.ifCond .ne 5, 3) := by decide +kernel
theorem dX10_readAll_17 : decode cX10_readAll 17 = .ok (.iconst 0, 1) := by decide +kernel
theorem dX10_readAll_18 : decode cX10_readAll 18 = .ok (.ireturn, 1) := by decide +kernel
theorem dX10_readAll_19 : decode cX10_readAll 19 = .ok (.aload_n 0, 1) := by decide +kernel
theorem dX10_readAll_20 : decode cX10_readAll 20 = .ok (.invokevirtual 84, 3) := by decide +kernel
theorem dX10_readAll_23 : decode cX10_readAll 23 = .ok (.istore_n 1, 1) := by decide +kernel
theorem dX10_readAll_24 : decode cX10_readAll 24 = .ok (.iload_n 1, 1) := by decide +kernel
theorem dX10_readAll_25 : decode cX10_readAll 25 = .ok (.iconst (-1), 1) := by decide +kernel
theorem dX10_readAll_26 : decode cX10_readAll 26 = .ok (.if_icmp .ne 5, 3) := by decide +kernel
theorem dX10_readAll_29 : decode cX10_readAll 29 = .ok (.iconst 1, 1) := by decide +kernel
theorem dX10_readAll_30 : decode cX10_readAll 30 = .ok (.ireturn, 1) := by decide +kernel
theorem dX10_readAll_31 : decode cX10_readAll 31 = .ok (.iload_n 1, 1) := by decide +kernel
theorem dX10_readAll_32 : decode cX10_readAll 32 = .ok (.bipush 59, 2) := by decide +kernel
theorem dX10_readAll_34 : decode cX10_readAll 34 = .ok (.if_icmp .eq 13, 3) := by decide +kernel
theorem dX10_readAll_37 : decode cX10_readAll 37 = .ok (.aload_n 0, 1) := by decide +kernel
theorem dX10_readAll_38 : decode cX10_readAll 38 = .ok (.iconst 1, 1) := by decide +kernel
theorem dX10_readAll_39 : decode cX10_readAll 39 = .ok (.aload_n 0, 1) := by decide +kernel
theorem dX10_readAll_40 : decode cX10_readAll 40 = .ok (.getfield 81, 3) := by decide +kernel
theorem dX10_readAll_43 : decode cX10_readAll 43 = .ok (.invokevirtual 100, 3) := by decide +kernel
theorem dX10_readAll_46 : decode cX10_readAll 46 = .ok (.ireturn, 1) := by decide +kernel
theorem dX10_readAll_47 : decode cX10_readAll 47 = .ok (.aload_n 0, 1) := by decide +kernel
theorem dX10_readAll_48 : decode cX10_readAll 48 = .ok (.dup, 1) := by decide +kernel
theorem dX10_readAll_49 : decode cX10_readAll 49 = .ok (.getfield 78, 3) := by decide +kernel
theorem dX10_readAll_52 : decode cX10_readAll 52 = .ok (.iconst 1, 1) := by decide +kernel
theorem dX10_readAll_53 : decode cX10_readAll 53 = .ok (.iadd, 1) := by decide +kernel
theorem dX10_readAll_54 : decode cX10_readAll 54 = .ok (.putfield 78, 3) := by decide +kernel
theorem dX10_readAll_57 : decode cX10_readAll 57 = .ok (.aload_n 0, 1) := by decide +kernel
theorem dX10_readAll_58 : decode cX10_readAll 58 = .ok (.dup, 1) := by decide +kernel
theorem dX10_readAll_59 : decode cX10_readAll 59 = .ok (.getfield 169, 3) := by decide +kernel
theorem dX10_readAll_62 : decode cX10_readAll 62 = .ok (.iconst 1, 1) := by decide +kernel
theorem dX10_readAll_63 : decode cX10_readAll 63 = .ok (.iadd, 1) := by decide +kernel
theorem dX10_readAll_64 : decode cX10_readAll 64 = .ok (.putfield 169, 3) := by decide +kernel
theorem dX10_readAll_67 : decode cX10_readAll 67 = .ok (.goto (-57), 3) := by decide +kernel
theorem dX10_load_0 : decode cX10_load 0 = .ok (.aload_n 0, 1) := by decide +kernel
theorem dX10_load_1 : decode cX10_load 1 = .ok (.iconst 0, 1) := by decide +kernel
theorem dX10_load_2 : decode cX10_load 2 = .ok (.putfield 58, 3) := by decide +kernel
theorem dX10_load_5 : decode cX10_load 5 = .ok (.aload_n 0, 1) := by decide +kernel
theorem dX10_load_6 : decode cX10_load 6 = .ok (.iconst 0, 1) := by decide +kernel
theorem dX10_load_7 : decode cX10_load 7 = .ok (.putfield 72, 3) := by decide +kernel
theorem dX10_load_10 : decode cX10_load 10 = .ok (.aload_n 0, 1) := by decide +kernel
theorem dX10_load_11 : decode cX10_load 11 = .ok (.iconst (-1), 1) := by decide +kernel
theorem dX10_load_12 : decode cX10_load 12 = .ok (.putfield 30, 3) := by decide +kernel
theorem dX10_load_15 : decode cX10_load 15 = .ok (.aload_n 0, 1) := by decide +kernel
theorem dX10_load_16 : decode cX10_load 16 = .ok (.invokevirtual 196, 3) := by decide +kernel
theorem dX10_load_19 : decode cX10_load 19 = .ok (.aload_n 0, 1) := by decide +kernel
theorem dX10_load_20 : decode cX10_load 20 = .ok (.invokevirtual 199, 3) := by decide +kernel
theorem dX10_load_23 : decode cX10_load 23 = .ok (.istore_n 1, 1) := by decide +kernel
theorem dX10_load_24 : decode cX10_load 24 = .ok (.aload_n 0, 1) := by decide +kernel
theorem dX10_load_25 : decode cX10_load 25 = .ok (.iconst 0, 1) := by decide +kernel
theorem dX10_load_26 : decode cX10_load 26 = .ok (.putfield 69, 3) := by decide +kernel
theorem dX10_load_29 : decode cX10_load 29 = .ok (.iload_n 1, 1) := by decide +kernel
theorem dX10_load_30 : decode cX10_load 30 = .ok (.ifCond .ne 23, 3) := by decide +kernel
theorem dX10_load_33 : decode cX10_load 33 = .ok (.aload_n 0, 1) := by decide +kernel
theorem dX10_load_34 : decode cX10_load 34 = .ok (.aload_n 0, 1) := by decide +kernel
theorem dX10_load_35 : decode cX10_load 35 = .ok (.getfield 169, 3) := by decide +kernel
theorem dX10_load_38 : decode cX10_load 38 = .ok (.putfield 30, 3) := by decide +kernel
theorem dX10_load_41 : decode cX10_load 41 = .ok (.aload_n 0, 1) := by decide +kernel
theorem dX10_load_42 : decode cX10_load 42 = .ok (.bipush (-100), 2) := by decide +kernel
theorem dX10_load_44 : decode cX10_load 44 = .ok (.aload_n 0, 1) := by decide +kernel
theorem dX10_load_45 : decode cX10_load 45 = .ok (.getfield 75, 3) := by decide +kernel
theorem dX10_load_48 : decode cX10_load 48 = .ok (.isub, 1) := by decide +kernel
theorem dX10_load_49 : decode cX10_load 49 = .ok (.invokevirtual 202, 3) := by decide +kernel
theorem dX10_load_52 : decode cX10_load 52 = .ok (.ireturn, 1) := by decide +kernel
theorem dX10_load_53 : decode cX10_load 53 = .ok (.aload_n 0, 1) := by decide +kernel
theorem dX10_load_54 : decode cX10_load 54 = .ok (.iconst 0, 1) := by decide +kernel
theorem dX10_load_55 : decode cX10_load 55 = .ok (.putfield 64, 3) := by decide +kernel
theorem dX10_load_58 : decode cX10_load 58 = .ok (.aload_n 0, 1) := by decide +kernel
theorem dX10_load_59 : decode cX10_load 59 = .ok (.getfield 9, 3) := by decide +kernel
theorem dX10_load_62 : decode cX10_load 62 = .ok (.iconst 5, 1) := by decide +kernel
theorem dX10_load_63 : decode cX10_load 63 = .ok (.iaload, 1) := by decide +kernel
theorem dX10_load_64 : decode cX10_load 64 = .ok (.ireturn, 1) := by decide +kernel
theorem dX10_loadError_0 : decode cX10_loadError 0 = .ok (.aload_n 0, 1) := by decide +kernel
theorem dX10_loadError_1 : decode cX10_loadError 1 = .ok (.iconst 0, 1) := by decide +kernel
theorem dX10_loadError_2 : decode cX10_loadError 2 = .ok (.putfield 58, 3) := by decide +kernel
theorem dX10_loadError_5 : decode cX10_loadError 5 = .ok (.aload_n 0, 1) := by decide +kernel
theorem dX10_loadError_6 : decode cX10_loadError 6 = .ok (.getfield 72, 3) := by decide +kernel
theorem dX10_loadError_9 : decode cX10_loadError 9 = .ok (.ireturn, 1) := by decide +kernel
theorem dX10_loadStatement_0 : decode cX10_loadStatement 0 = .ok (.aload_n 0, 1) := by decide +kernel
theorem dX10_loadStatement_1 : decode cX10_loadStatement 1 = .ok (.iconst 0, 1) := by decide +kernel
theorem dX10_loadStatement_2 : decode cX10_loadStatement 2 = .ok (.putfield 58, 3) := by decide +kernel
theorem dX10_loadStatement_5 : decode cX10_loadStatement 5 = .ok (.aload_n 0, 1) := by decide +kernel
theorem dX10_loadStatement_6 : decode cX10_loadStatement 6 = .ok (.getfield 30, 3) := by decide +kernel
theorem dX10_loadStatement_9 : decode cX10_loadStatement 9 = .ok (.ireturn, 1) := by decide +kernel
theorem dX10_cardAt_0 : decode cX10_cardAt 0 = .ok (.bipush 15, 2) := by decide +kernel
theorem dX10_cardAt_2 : decode cX10_cardAt 2 = .ok (.iconst 3, 1) := by decide +kernel
theorem dX10_cardAt_3 : decode cX10_cardAt 3 = .ok (.iload_n 0, 1) := by decide +kernel
theorem dX10_cardAt_4 : decode cX10_cardAt 4 = .ok (.imul, 1) := by decide +kernel
theorem dX10_cardAt_5 : decode cX10_cardAt 5 = .ok (.iadd, 1) := by decide +kernel
theorem dX10_cardAt_6 : decode cX10_cardAt 6 = .ok (.iload_n 1, 1) := by decide +kernel
theorem dX10_cardAt_7 : decode cX10_cardAt 7 = .ok (.iadd, 1) := by decide +kernel
theorem dX10_cardAt_8 : decode cX10_cardAt 8 = .ok (.ireturn, 1) := by decide +kernel
theorem dX10_comesCard_0 : decode cX10_comesCard 0 = .ok (.aload_n 0, 1) := by decide +kernel
theorem dX10_comesCard_1 : decode cX10_comesCard 1 = .ok (.getfield 9, 3) := by decide +kernel
theorem dX10_comesCard_4 : decode cX10_comesCard 4 = .ok (.iconst 3, 1) := by decide +kernel
theorem dX10_comesCard_5 : decode cX10_comesCard 5 = .ok (.iaload, 1) := by decide +kernel
theorem dX10_comesCard_6 : decode cX10_comesCard 6 = .ok (.istore 4, 2) := by decide +kernel
theorem dX10_comesCard_8 : decode cX10_comesCard 8 = .ok (.aload_n 0, 1) := by decide +kernel
theorem dX10_comesCard_9 : decode cX10_comesCard 9 = .ok (.getfield 9, 3) := by decide +kernel
theorem dX10_comesCard_12 : decode cX10_comesCard 12 = .ok (.iload 4, 2) := by decide +kernel
theorem dX10_comesCard_14 : decode cX10_comesCard 14 = .ok (.iconst 0, 1) := by decide +kernel
theorem dX10_comesCard_15 : decode cX10_comesCard 15 = .ok (.invokestatic 205, 3) := by decide +kernel
theorem dX10_comesCard_18 : decode cX10_comesCard 18 = .ok (.iload_n 1, 1) := by decide +kernel
theorem dX10_comesCard_19 : decode cX10_comesCard 19 = .ok (.iastore, 1) := by decide +kernel
theorem dX10_comesCard_20 : decode cX10_comesCard 20 = .ok (.aload_n 0, 1) := by decide +kernel
theorem dX10_comesCard_21 : decode cX10_comesCard 21 = .ok (.getfield 9, 3) := by decide +kernel
theorem dX10_comesCard_24 : decode cX10_comesCard 24 = .ok (.iload 4, 2) := by decide +kernel
theorem dX10_comesCard_26 : decode cX10_comesCard 26 = .ok (.iconst 1, 1) := by decide +kernel
theorem dX10_comesCard_27 : decode cX10_comesCard 27 = .ok (.invokestatic 205, 3) := by decide +kernel
theorem dX10_comesCard_30 : decode cX10_comesCard 30 = .ok (.iload_n 2, 1) := by decide +kernel
theorem dX10_comesCard_31 : decode cX10_comesCard 31 = .ok (.iastore, 1) := by decide +kernel
theorem dX10_comesCard_32 : decode cX10_comesCard 32 = .ok (.aload_n 0, 1) := by decide +kernel
theorem dX10_comesCard_33 : decode cX10_comesCard 33 = .ok (.getfield 9, 3) := by decide +kernel
theorem dX10_comesCard_36 : decode cX10_comesCard 36 = .ok (.iload 4, 2) := by decide +kernel
theorem dX10_comesCard_38 : decode cX10_comesCard 38 = .ok (.iconst 2, 1) := by decide +kernel
theorem dX10_comesCard_39 : decode cX10_comesCard 39 = .ok (.invokestatic 205, 3) := by decide +kernel
theorem dX10_comesCard_42 : decode cX10_comesCard 42 = .ok (.iload_n 3, 1) := by decide +kernel
theorem dX10_comesCard_43 : decode cX10_comesCard 43 = .ok (.iastore, 1) := by decide +kernel
theorem dX10_comesCard_44 : decode cX10_comesCard 44 = .ok (.aload_n 0, 1) := by decide +kernel
theorem dX10_comesCard_45 : decode cX10_comesCard 45 = .ok (.getfield 9, 3) := by decide +kernel
theorem dX10_comesCard_48 : decode cX10_comesCard 48 = .ok (.iconst 3, 1) := by decide +kernel
theorem dX10_comesCard_49 : decode cX10_comesCard 49 = .ok (.dup2, 1) := by decide +kernel
theorem dX10_comesCard_50 : decode cX10_comesCard 50 = .ok (.iaload, 1) := by decide +kernel
theorem dX10_comesCard_51 : decode cX10_comesCard 51 = .ok (.iconst 1, 1) := by decide +kernel
theorem dX10_comesCard_52 : decode cX10_comesCard 52 = .ok (.iadd, 1) := by decide +kernel
theorem dX10_comesCard_53 : decode cX10_comesCard 53 = .ok (.iastore, 1) := by decide +kernel
theorem dX10_comesCard_54 : decode cX10_comesCard 54 = .ok (.iload 4, 2) := by decide +kernel
theorem dX10_comesCard_56 : decode cX10_comesCard 56 = .ok (.ireturn, 1) := by decide +kernel
theorem dX10_ofFriend_0 : decode cX10_ofFriend 0 = .ok (.aload_n 0, 1) := by decide +kernel
theorem dX10_ofFriend_1 : decode cX10_ofFriend 1 = .ok (.getfield 9, 3) := by decide +kernel
theorem dX10_ofFriend_4 : decode cX10_ofFriend 4 = .ok (.bipush 51, 2) := by decide +kernel
theorem dX10_ofFriend_6 : decode cX10_ofFriend 6 = .ok (.bipush 11, 2) := by decide +kernel
theorem dX10_ofFriend_8 : decode cX10_ofFriend 8 = .ok (.iload_n 1, 1) := by decide +kernel
theorem dX10_ofFriend_9 : decode cX10_ofFriend 9 = .ok (.imul, 1) := by decide +kernel
theorem dX10_ofFriend_10 : decode cX10_ofFriend 10 = .ok (.iadd, 1) := by decide +kernel
theorem dX10_ofFriend_11 : decode cX10_ofFriend 11 = .ok (.iload_n 2, 1) := by decide +kernel
theorem dX10_ofFriend_12 : decode cX10_ofFriend 12 = .ok (.iadd, 1) := by decide +kernel
theorem dX10_ofFriend_13 : decode cX10_ofFriend 13 = .ok (.iaload, 1) := by decide +kernel
theorem dX10_ofFriend_14 : decode cX10_ofFriend 14 = .ok (.ireturn, 1) := by decide +kernel
theorem dX10_setsFriend_0 : decode cX10_setsFriend 0 = .ok (.aload_n 0, 1) := by decide +kernel
theorem dX10_setsFriend_1 : decode cX10_setsFriend 1 = .ok (.getfield 9, 3) := by decide +kernel
theorem dX10_setsFriend_4 : decode cX10_setsFriend 4 = .ok (.bipush 51, 2) := by decide +kernel
theorem dX10_setsFriend_6 : decode cX10_setsFriend 6 = .ok (.bipush 11, 2) := by decide +kernel
theorem dX10_setsFriend_8 : decode cX10_setsFriend 8 = .ok (.iload_n 1, 1) := by decide +kernel
theorem dX10_setsFriend_9 : decode cX10_setsFriend 9 = .ok (.imul, 1) := by decide +kernel
theorem dX10_setsFriend_10 : decode cX10_setsFriend 10 = .ok (.iadd, 1) := by decide +kernel
theorem dX10_setsFriend_11 : decode cX10_setsFriend 11 = .ok (.iload_n 2, 1) := by decide +kernel
theorem dX10_setsFriend_12 : decode cX10_setsFriend 12 = .ok (.iadd, 1) := by decide +kernel
theorem dX10_setsFriend_13 : decode cX10_setsFriend 13 = .ok (.iload_n 3, 1) := by decide +kernel
theorem dX10_setsFriend_14 : decode cX10_setsFriend 14 = .ok (.iastore, 1) := by decide +kernel
theorem dX10_setsFriend_15 : decode cX10_setsFriend 15 = .ok (.return_, 1) := by decide +kernel
theorem dX10_loanAt_0 : decode cX10_loanAt 0 = .ok (.bipush 84, 2) := by decide +kernel
theorem dX10_loanAt_2 : decode cX10_loanAt 2 = .ok (.iconst 4, 1) := by decide +kernel
theorem dX10_loanAt_3 : decode cX10_loanAt 3 = .ok (.iload_n 0, 1) := by decide +kernel
theorem dX10_loanAt_4 : decode cX10_loanAt 4 = .ok (.imul, 1) := by decide +kernel
theorem dX10_loanAt_5 : decode cX10_loanAt 5 = .ok (.iadd, 1) := by decide +kernel
theorem dX10_loanAt_6 : decode cX10_loanAt 6 = .ok (.iload_n 1, 1) := by decide +kernel
theorem dX10_loanAt_7 : decode cX10_loanAt 7 = .ok (.iadd, 1) := by decide +kernel
theorem dX10_loanAt_8 : decode cX10_loanAt 8 = .ok (.ireturn, 1) := by decide +kernel
theorem dX10_ofLoan_0 : decode cX10_ofLoan 0 = .ok (.aload_n 0, 1) := by decide +kernel
theorem dX10_ofLoan_1 : decode cX10_ofLoan 1 = .ok (.getfield 9, 3) := by decide +kernel
theorem dX10_ofLoan_4 : decode cX10_ofLoan 4 = .ok (.iload_n 1, 1) := by decide +kernel
theorem dX10_ofLoan_5 : decode cX10_ofLoan 5 = .ok (.iload_n 2, 1) := by decide +kernel
theorem dX10_ofLoan_6 : decode cX10_ofLoan 6 = .ok (.invokestatic 208, 3) := by decide +kernel
theorem dX10_ofLoan_9 : decode cX10_ofLoan 9 = .ok (.iaload, 1) := by decide +kernel
theorem dX10_ofLoan_10 : decode cX10_ofLoan 10 = .ok (.ireturn, 1) := by decide +kernel
theorem dX10_serviceAt_0 : decode cX10_serviceAt 0 = .ok (.sipush 132, 3) := by decide +kernel
theorem dX10_serviceAt_3 : decode cX10_serviceAt 3 = .ok (.bipush 9, 2) := by decide +kernel
theorem dX10_serviceAt_5 : decode cX10_serviceAt 5 = .ok (.iload_n 0, 1) := by decide +kernel
theorem dX10_serviceAt_6 : decode cX10_serviceAt 6 = .ok (.imul, 1) := by decide +kernel
theorem dX10_serviceAt_7 : decode cX10_serviceAt 7 = .ok (.iadd, 1) := by decide +kernel
theorem dX10_serviceAt_8 : decode cX10_serviceAt 8 = .ok (.iload_n 1, 1) := by decide +kernel
theorem dX10_serviceAt_9 : decode cX10_serviceAt 9 = .ok (.iadd, 1) := by decide +kernel
theorem dX10_serviceAt_10 : decode cX10_serviceAt 10 = .ok (.ireturn, 1) := by decide +kernel
theorem dX10_hymnsOf_0 : decode cX10_hymnsOf 0 = .ok (.aload_n 0, 1) := by decide +kernel
theorem dX10_hymnsOf_1 : decode cX10_hymnsOf 1 = .ok (.getfield 9, 3) := by decide +kernel
theorem dX10_hymnsOf_4 : decode cX10_hymnsOf 4 = .ok (.iload_n 1, 1) := by decide +kernel
theorem dX10_hymnsOf_5 : decode cX10_hymnsOf 5 = .ok (.iconst 0, 1) := by decide +kernel
theorem dX10_hymnsOf_6 : decode cX10_hymnsOf 6 = .ok (.invokestatic 159, 3) := by decide +kernel
theorem dX10_hymnsOf_9 : decode cX10_hymnsOf 9 = .ok (.iaload, 1) := by decide +kernel
theorem dX10_hymnsOf_10 : decode cX10_hymnsOf 10 = .ok (.ireturn, 1) := by decide +kernel
theorem dX10_hymnOf_0 : decode cX10_hymnOf 0 = .ok (.aload_n 0, 1) := by decide +kernel
theorem dX10_hymnOf_1 : decode cX10_hymnOf 1 = .ok (.getfield 9, 3) := by decide +kernel
theorem dX10_hymnOf_4 : decode cX10_hymnOf 4 = .ok (.iload_n 1, 1) := by decide +kernel
theorem dX10_hymnOf_5 : decode cX10_hymnOf 5 = .ok (.iconst 1, 1) := by decide +kernel
theorem dX10_hymnOf_6 : decode cX10_hymnOf 6 = .ok (.iload_n 2, 1) := by decide +kernel
theorem dX10_hymnOf_7 : decode cX10_hymnOf 7 = .ok (.iadd, 1) := by decide +kernel
theorem dX10_hymnOf_8 : decode cX10_hymnOf 8 = .ok (.invokestatic 159, 3) := by decide +kernel
theorem dX10_hymnOf_11 : decode cX10_hymnOf 11 = .ok (.iaload, 1) := by decide +kernel
theorem dX10_hymnOf_12 : decode cX10_hymnOf 12 = .ok (.ireturn, 1) := by decide +kernel
theorem dX10_setsHymn_0 : decode cX10_setsHymn 0 = .ok (.aload_n 0, 1) := by decide +kernel
theorem dX10_setsHymn_1 : decode cX10_setsHymn 1 = .ok (.getfield 9, 3) := by decide +kernel
theorem dX10_setsHymn_4 : decode cX10_setsHymn 4 = .ok (.iload_n 1, 1) := by decide +kernel
theorem dX10_setsHymn_5 : decode cX10_setsHymn 5 = .ok (.iconst 1, 1) := by decide +kernel
theorem dX10_setsHymn_6 : decode cX10_setsHymn 6 = .ok (.iload_n 2, 1) := by decide +kernel
theorem dX10_setsHymn_7 : decode cX10_setsHymn 7 = .ok (.iadd, 1) := by decide +kernel
theorem dX10_setsHymn_8 : decode cX10_setsHymn 8 = .ok (.invokestatic 159, 3) := by decide +kernel
theorem dX10_setsHymn_11 : decode cX10_setsHymn 11 = .ok (.iload_n 3, 1) := by decide +kernel
theorem dX10_setsHymn_12 : decode cX10_setsHymn 12 = .ok (.iastore, 1) := by decide +kernel
theorem dX10_setsHymn_13 : decode cX10_setsHymn 13 = .ok (.return_, 1) := by decide +kernel
theorem dX10_comesHymn_0 : decode cX10_comesHymn 0 = .ok (.aload_n 0, 1) := by decide +kernel
theorem dX10_comesHymn_1 : decode cX10_comesHymn 1 = .ok (.iload_n 1, 1) := by decide +kernel
theorem dX10_comesHymn_2 : decode cX10_comesHymn 2 = .ok (.aload_n 0, 1) := by decide +kernel
theorem dX10_comesHymn_3 : decode cX10_comesHymn 3 = .ok (.iload_n 1, 1) := by decide +kernel
theorem dX10_comesHymn_4 : decode cX10_comesHymn 4 = .ok (.invokevirtual 148, 3) := by decide +kernel
theorem dX10_comesHymn_7 : decode cX10_comesHymn 7 = .ok (.iload_n 2, 1) := by decide +kernel
theorem dX10_comesHymn_8 : decode cX10_comesHymn 8 = .ok (.invokevirtual 156, 3) := by decide +kernel
theorem dX10_comesHymn_11 : decode cX10_comesHymn 11 = .ok (.aload_n 0, 1) := by decide +kernel
theorem dX10_comesHymn_12 : decode cX10_comesHymn 12 = .ok (.getfield 9, 3) := by decide +kernel
theorem dX10_comesHymn_15 : decode cX10_comesHymn 15 = .ok (.iload_n 1, 1) := by decide +kernel
theorem dX10_comesHymn_16 : decode cX10_comesHymn 16 = .ok (.iconst 0, 1) := by decide +kernel
theorem dX10_comesHymn_17 : decode cX10_comesHymn 17 = .ok (.invokestatic 159, 3) := by decide +kernel
theorem dX10_comesHymn_20 : decode cX10_comesHymn 20 = .ok (.dup2, 1) := by decide +kernel
theorem dX10_comesHymn_21 : decode cX10_comesHymn 21 = .ok (.iaload, 1) := by decide +kernel
theorem dX10_comesHymn_22 : decode cX10_comesHymn 22 = .ok (.iconst 1, 1) := by decide +kernel
theorem dX10_comesHymn_23 : decode cX10_comesHymn 23 = .ok (.iadd, 1) := by decide +kernel
theorem dX10_comesHymn_24 : decode cX10_comesHymn 24 = .ok (.iastore, 1) := by decide +kernel
theorem dX10_comesHymn_25 : decode cX10_comesHymn 25 = .ok (.return_, 1) := by decide +kernel
theorem dX10_isOwn_0 : decode cX10_isOwn 0 = .ok (.iload_n 0, 1) := by decide +kernel
theorem dX10_isOwn_1 : decode cX10_isOwn 1 = .ok (.bipush 12, 2) := by decide +kernel
theorem dX10_isOwn_3 : decode cX10_isOwn 3 = .ok (.if_icmp .ge 7, 3) := by decide +kernel
theorem dX10_isOwn_6 : decode cX10_isOwn 6 = .ok (.iconst 1, 1) := by decide +kernel
theorem dX10_isOwn_7 : decode cX10_isOwn 7 = .ok (.goto 4, 3) := by decide +kernel
theorem dX10_isOwn_10 : decode cX10_isOwn 10 = .ok (.iconst 0, 1) := by decide +kernel
theorem dX10_isOwn_11 : decode cX10_isOwn 11 = .ok (.ireturn, 1) := by decide +kernel
theorem dX10_friendOf_0 : decode cX10_friendOf 0 = .ok (.iload_n 0, 1) := by decide +kernel
theorem dX10_friendOf_1 : decode cX10_friendOf 1 = .ok (.bipush 12, 2) := by decide +kernel
theorem dX10_friendOf_3 : decode cX10_friendOf 3 = .ok (.isub, 1) := by decide +kernel
theorem dX10_friendOf_4 : decode cX10_friendOf 4 = .ok (.bipush 10, 2) := by decide +kernel
theorem dX10_friendOf_6 : decode cX10_friendOf 6 = .ok (.idiv, 1) := by decide +kernel
theorem dX10_friendOf_7 : decode cX10_friendOf 7 = .ok (.ireturn, 1) := by decide +kernel
theorem dX10_digitOf_0 : decode cX10_digitOf 0 = .ok (.iload_n 0, 1) := by decide +kernel
theorem dX10_digitOf_1 : decode cX10_digitOf 1 = .ok (.bipush 12, 2) := by decide +kernel
theorem dX10_digitOf_3 : decode cX10_digitOf 3 = .ok (.isub, 1) := by decide +kernel
theorem dX10_digitOf_4 : decode cX10_digitOf 4 = .ok (.bipush 10, 2) := by decide +kernel
theorem dX10_digitOf_6 : decode cX10_digitOf 6 = .ok (.irem, 1) := by decide +kernel
theorem dX10_digitOf_7 : decode cX10_digitOf 7 = .ok (.ireturn, 1) := by decide +kernel
theorem dX10_numberOf_0 : decode cX10_numberOf 0 = .ok (.iload_n 0, 1) := by decide +kernel
theorem dX10_numberOf_1 : decode cX10_numberOf 1 = .ok (.invokestatic 211, 3) := by decide +kernel
theorem dX10_numberOf_4 : decode cX10_numberOf 4 = .ok (.ifCond .eq 7, 3) := by decide +kernel
theorem dX10_numberOf_7 : decode cX10_numberOf 7 = .ok (.iload_n 0, 1) := by decide +kernel
theorem dX10_numberOf_8 : decode cX10_numberOf 8 = .ok (.goto 10, 3) := by decide +kernel
theorem dX10_numberOf_11 : decode cX10_numberOf 11 = .ok (.bipush 100, 2) := by decide +kernel
theorem dX10_numberOf_13 : decode cX10_numberOf 13 = .ok (.iload_n 0, 1) := by decide +kernel
theorem dX10_numberOf_14 : decode cX10_numberOf 14 = .ok (.iadd, 1) := by decide +kernel
theorem dX10_numberOf_15 : decode cX10_numberOf 15 = .ok (.bipush 12, 2) := by decide +kernel
theorem dX10_numberOf_17 : decode cX10_numberOf 17 = .ok (.isub, 1) := by decide +kernel
theorem dX10_numberOf_18 : decode cX10_numberOf 18 = .ok (.ireturn, 1) := by decide +kernel
theorem dX10_sortOf_0 : decode cX10_sortOf 0 = .ok (.iload_n 0, 1) := by decide +kernel
theorem dX10_sortOf_1 : decode cX10_sortOf 1 = .ok (.bipush 100, 2) := by decide +kernel
theorem dX10_sortOf_3 : decode cX10_sortOf 3 = .ok (.if_icmp .ge 7, 3) := by decide +kernel
theorem dX10_sortOf_6 : decode cX10_sortOf 6 = .ok (.iload_n 0, 1) := by decide +kernel
theorem dX10_sortOf_7 : decode cX10_sortOf 7 = .ok (.goto 10, 3) := by decide +kernel
theorem dX10_sortOf_10 : decode cX10_sortOf 10 = .ok (.bipush 12, 2) := by decide +kernel
theorem dX10_sortOf_12 : decode cX10_sortOf 12 = .ok (.iload_n 0, 1) := by decide +kernel
theorem dX10_sortOf_13 : decode cX10_sortOf 13 = .ok (.iadd, 1) := by decide +kernel
theorem dX10_sortOf_14 : decode cX10_sortOf 14 = .ok (.bipush 100, 2) := by decide +kernel
theorem dX10_sortOf_16 : decode cX10_sortOf 16 = .ok (.isub, 1) := by decide +kernel
theorem dX10_sortOf_17 : decode cX10_sortOf 17 = .ok (.ireturn, 1) := by decide +kernel
theorem dX10_front_0 : decode cX10_front 0 = .ok (.iload_n 1, 1) := by decide +kernel
theorem dX10_front_1 : decode cX10_front 1 = .ok (.bipush 42, 2) := by decide +kernel
theorem dX10_front_3 : decode cX10_front 3 = .ok (.if_icmp .ne 10, 3) := by decide +kernel
theorem dX10_front_6 : decode cX10_front 6 = .ok (.aload_n 0, 1) := by decide +kernel
theorem dX10_front_7 : decode cX10_front 7 = .ok (.getfield 37, 3) := by decide +kernel
theorem dX10_front_10 : decode cX10_front 10 = .ok (.goto 27, 3) := by decide +kernel
theorem dX10_front_13 : decode cX10_front 13 = .ok (.iload_n 1, 1) := by decide +kernel
theorem dX10_front_14 : decode cX10_front 14 = .ok (.invokestatic 211, 3) := by decide +kernel
theorem dX10_front_17 : decode cX10_front 17 = .ok (.ifCond .eq 16, 3) := by decide +kernel
theorem dX10_front_20 : decode cX10_front 20 = .ok (.aload_n 0, 1) := by decide +kernel
theorem dX10_front_21 : decode cX10_front 21 = .ok (.getfield 9, 3) := by decide +kernel
theorem dX10_front_24 : decode cX10_front 24 = .ok (.iload_n 1, 1) := by decide +kernel
theorem dX10_front_25 : decode cX10_front 25 = .ok (.iconst 0, 1) := by decide +kernel
theorem dX10_front_26 : decode cX10_front 26 = .ok (.invokestatic 205, 3) := by decide +kernel
theorem dX10_front_29 : decode cX10_front 29 = .ok (.iaload, 1) := by decide +kernel
theorem dX10_front_30 : decode cX10_front 30 = .ok (.goto 7, 3) := by decide +kernel
theorem dX10_front_33 : decode cX10_front 33 = .ok (.iload_n 1, 1) := by decide +kernel
theorem dX10_front_34 : decode cX10_front 34 = .ok (.invokestatic 214, 3) := by decide +kernel
theorem dX10_front_37 : decode cX10_front 37 = .ok (.ireturn, 1) := by decide +kernel
theorem dX10_back_0 : decode cX10_back 0 = .ok (.iload_n 1, 1) := by decide +kernel
theorem dX10_back_1 : decode cX10_back 1 = .ok (.bipush 42, 2) := by decide +kernel
theorem dX10_back_3 : decode cX10_back 3 = .ok (.if_icmp .eq 23, 3) := by decide +kernel
theorem dX10_back_6 : decode cX10_back 6 = .ok (.iload_n 1, 1) := by decide +kernel
theorem dX10_back_7 : decode cX10_back 7 = .ok (.invokestatic 211, 3) := by decide +kernel
theorem dX10_back_10 : decode cX10_back 10 = .ok (.ifCond .eq 16, 3) := by decide +kernel
theorem dX10_back_13 : decode cX10_back 13 = .ok (.aload_n 0, 1) := by decide +kernel
theorem dX10_back_14 : decode cX10_back 14 = .ok (.getfield 9, 3) := by decide +kernel
theorem dX10_back_17 : decode cX10_back 17 = .ok (.iload_n 1, 1) := by decide +kernel
theorem dX10_back_18 : decode cX10_back 18 = .ok (.iconst 1, 1) := by decide +kernel
theorem dX10_back_19 : decode cX10_back 19 = .ok (.invokestatic 205, 3) := by decide +kernel
theorem dX10_back_22 : decode cX10_back 22 = .ok (.iaload, 1) := by decide +kernel
theorem dX10_back_23 : decode cX10_back 23 = .ok (.goto 4, 3) := by decide +kernel
theorem dX10_back_26 : decode cX10_back 26 = .ok (.iconst (-1), 1) := by decide +kernel
theorem dX10_back_27 : decode cX10_back 27 = .ok (.ireturn, 1) := by decide +kernel
theorem dX10_borrowedOf_0 : decode cX10_borrowedOf 0 = .ok (.iconst 0, 1) := by decide +kernel
theorem dX10_borrowedOf_1 : decode cX10_borrowedOf 1 = .ok (.istore_n 3, 1) := by decide +kernel
theorem dX10_borrowedOf_2 : decode cX10_borrowedOf 2 = .ok (.iconst 0, 1) := by decide +kernel
theorem dX10_borrowedOf_3 : decode cX10_borrowedOf 3 = .ok (.istore 4, 2) := by decide +kernel
theorem dX10_borrowedOf_5 : decode cX10_borrowedOf 5 = .ok (.iload 4, 2) := by decide +kernel
theorem dX10_borrowedOf_7 : decode cX10_borrowedOf 7 = .ok (.aload_n 0, 1) := by decide +kernel
theorem dX10_borrowedOf_8 : decode cX10_borrowedOf 8 = .ok (.getfield 9, 3) := by decide +kernel
theorem dX10_borrowedOf_11 : decode cX10_borrowedOf 11 = .ok (.bipush 6, 2) := by decide +kernel
theorem dX10_borrowedOf_13 : decode cX10_borrowedOf 13 = .ok (.iaload, 1) := by decide +kernel
theorem dX10_borrowedOf_14 : decode cX10_borrowedOf 14 = .ok (.if_icmp .ge 45, 3) := by decide +kernel
theorem dX10_borrowedOf_17 : decode cX10_borrowedOf 17 = .ok (.iload_n 3, 1) := by decide +kernel
theorem dX10_borrowedOf_18 : decode cX10_borrowedOf 18 = .ok (.aload_n 0, 1) := by decide +kernel
theorem dX10_borrowedOf_19 : decode cX10_borrowedOf 19 = .ok (.iload 4, 2) := by decide +kernel
theorem dX10_borrowedOf_21 : decode cX10_borrowedOf 21 = .ok (.iconst 0, 1) := by decide +kernel
theorem dX10_borrowedOf_22 : decode cX10_borrowedOf 22 = .ok (.invokevirtual 217, 3) := by decide +kernel
theorem dX10_borrowedOf_25 : decode cX10_borrowedOf 25 = .ok (.iload_n 1, 1) := by decide +kernel
theorem dX10_borrowedOf_26 : decode cX10_borrowedOf 26 = .ok (.if_icmp .ne 24, 3) := by decide +kernel
theorem dX10_borrowedOf_29 : decode cX10_borrowedOf 29 = .ok (.aload_n 0, 1) := by decide +kernel
theorem dX10_borrowedOf_30 : decode cX10_borrowedOf 30 = .ok (.iload 4, 2) := by decide +kernel
theorem dX10_borrowedOf_32 : decode cX10_borrowedOf 32 = .ok (.iconst 1, 1) := by decide +kernel
theorem dX10_borrowedOf_33 : decode cX10_borrowedOf 33 = .ok (.invokevirtual 217, 3) := by decide +kernel
theorem dX10_borrowedOf_36 : decode cX10_borrowedOf 36 = .ok (.iload_n 2, 1) := by decide +kernel
theorem dX10_borrowedOf_37 : decode cX10_borrowedOf 37 = .ok (.if_icmp .ne 13, 3) := by decide +kernel
theorem dX10_borrowedOf_40 : decode cX10_borrowedOf 40 = .ok (.aload_n 0, 1) := by decide +kernel
theorem dX10_borrowedOf_41 : decode cX10_borrowedOf 41 = .ok (.iload 4, 2) := by decide +kernel
theorem dX10_borrowedOf_43 : decode cX10_borrowedOf 43 = .ok (.iconst 2, 1) := by decide +kernel
theorem dX10_borrowedOf_44 : decode cX10_borrowedOf 44 = .ok (.invokevirtual 217, 3) := by decide +kernel
theorem dX10_borrowedOf_47 : decode cX10_borrowedOf 47 = .ok (.goto 4, 3) := by decide +kernel
theorem dX10_borrowedOf_50 : decode cX10_borrowedOf 50 = .ok (.iconst 0, 1) := by decide +kernel
theorem dX10_borrowedOf_51 : decode cX10_borrowedOf 51 = .ok (.iadd, 1) := by decide +kernel
theorem dX10_borrowedOf_52 : decode cX10_borrowedOf 52 = .ok (.istore_n 3, 1) := by decide +kernel
theorem dX10_borrowedOf_53 : decode cX10_borrowedOf 53 = .ok (.iinc 4 1, 3) := by decide +kernel
theorem dX10_borrowedOf_56 : decode cX10_borrowedOf 56 = .ok (.goto (-51), 3) := by decide +kernel
theorem dX10_borrowedOf_59 : decode cX10_borrowedOf 59 = .ok (.iload_n 3, 1) := by decide +kernel
theorem dX10_borrowedOf_60 : decode cX10_borrowedOf 60 = .ok (.ireturn, 1) := by decide +kernel
theorem dX10_count_0 : decode cX10_count 0 = .ok (.iload_n 1, 1) := by decide +kernel
theorem dX10_count_1 : decode cX10_count 1 = .ok (.bipush 42, 2) := by decide +kernel
theorem dX10_count_3 : decode cX10_count 3 = .ok (.if_icmp .ne 17, 3) := by decide +kernel
theorem dX10_count_6 : decode cX10_count 6 = .ok (.aload_n 0, 1) := by decide +kernel
theorem dX10_count_7 : decode cX10_count 7 = .ok (.getfield 37, 3) := by decide +kernel
theorem dX10_count_10 : decode cX10_count 10 = .ok (.iconst (-1), 1) := by decide +kernel
theorem dX10_count_11 : decode cX10_count 11 = .ok (.if_icmp .ne 7, 3) := by decide +kernel
theorem dX10_count_14 : decode cX10_count 14 = .ok (.iconst 0, 1) := by decide +kernel
theorem dX10_count_15 : decode cX10_count 15 = .ok (.goto 4, 3) := by decide +kernel
theorem dX10_count_18 : decode cX10_count 18 = .ok (.iconst 1, 1) := by decide +kernel
theorem dX10_count_19 : decode cX10_count 19 = .ok (.ireturn, 1) := by decide +kernel
theorem dX10_count_20 : decode cX10_count 20 = .ok (.iload_n 1, 1) := by decide +kernel
theorem dX10_count_21 : decode cX10_count 21 = .ok (.invokestatic 211, 3) := by decide +kernel
theorem dX10_count_24 : decode cX10_count 24 = .ok (.ifCond .eq 28, 3) := by decide +kernel
theorem dX10_count_27 : decode cX10_count 27 = .ok (.iload_n 1, 1) := by decide +kernel
theorem dX10_count_28 : decode cX10_count 28 = .ok (.aload_n 0, 1) := by decide +kernel
theorem dX10_count_29 : decode cX10_count 29 = .ok (.getfield 9, 3) := by decide +kernel
theorem dX10_count_32 : decode cX10_count 32 = .ok (.iconst 3, 1) := by decide +kernel
theorem dX10_count_33 : decode cX10_count 33 = .ok (.iaload, 1) := by decide +kernel
theorem dX10_count_34 : decode cX10_count 34 = .ok (.if_icmp .ge 16, 3) := by decide +kernel
theorem dX10_count_37 : decode cX10_count 37 = .ok (.aload_n 0, 1) := by decide +kernel
theorem dX10_count_38 : decode cX10_count 38 = .ok (.getfield 9, 3) := by decide +kernel
theorem dX10_count_41 : decode cX10_count 41 = .ok (.iload_n 1, 1) := by decide +kernel
theorem dX10_count_42 : decode cX10_count 42 = .ok (.iconst 2, 1) := by decide +kernel
theorem dX10_count_43 : decode cX10_count 43 = .ok (.invokestatic 205, 3) := by decide +kernel
theorem dX10_count_46 : decode cX10_count 46 = .ok (.iaload, 1) := by decide +kernel
theorem dX10_count_47 : decode cX10_count 47 = .ok (.goto 4, 3) := by decide +kernel
theorem dX10_count_50 : decode cX10_count 50 = .ok (.iconst 0, 1) := by decide +kernel
theorem dX10_count_51 : decode cX10_count 51 = .ok (.ireturn, 1) := by decide +kernel
theorem dX10_count_52 : decode cX10_count 52 = .ok (.aload_n 0, 1) := by decide +kernel
theorem dX10_count_53 : decode cX10_count 53 = .ok (.iload_n 1, 1) := by decide +kernel
theorem dX10_count_54 : decode cX10_count 54 = .ok (.invokestatic 220, 3) := by decide +kernel
theorem dX10_count_57 : decode cX10_count 57 = .ok (.iload_n 1, 1) := by decide +kernel
theorem dX10_count_58 : decode cX10_count 58 = .ok (.invokestatic 214, 3) := by decide +kernel
theorem dX10_count_61 : decode cX10_count 61 = .ok (.invokevirtual 223, 3) := by decide +kernel
theorem dX10_count_64 : decode cX10_count 64 = .ok (.ireturn, 1) := by decide +kernel
theorem dX10_otherOne_0 : decode cX10_otherOne 0 = .ok (.iload_n 0, 1) := by decide +kernel
theorem dX10_otherOne_1 : decode cX10_otherOne 1 = .ok (.bipush 6, 2) := by decide +kernel
theorem dX10_otherOne_3 : decode cX10_otherOne 3 = .ok (.if_icmp .ne 8, 3) := by decide +kernel
theorem dX10_otherOne_6 : decode cX10_otherOne 6 = .ok (.bipush 9, 2) := by decide +kernel
theorem dX10_otherOne_8 : decode cX10_otherOne 8 = .ok (.goto 15, 3) := by decide +kernel
theorem dX10_otherOne_11 : decode cX10_otherOne 11 = .ok (.iload_n 0, 1) := by decide +kernel
theorem dX10_otherOne_12 : decode cX10_otherOne 12 = .ok (.bipush 9, 2) := by decide +kernel
theorem dX10_otherOne_14 : decode cX10_otherOne 14 = .ok (.if_icmp .ne 8, 3) := by decide +kernel
theorem dX10_otherOne_17 : decode cX10_otherOne 17 = .ok (.bipush 6, 2) := by decide +kernel
theorem dX10_otherOne_19 : decode cX10_otherOne 19 = .ok (.goto 4, 3) := by decide +kernel
theorem dX10_otherOne_22 : decode cX10_otherOne 22 = .ok (.iconst (-1), 1) := by decide +kernel
theorem dX10_otherOne_23 : decode cX10_otherOne 23 = .ok (.ireturn, 1) := by decide +kernel
theorem dX10_wayOf_0 : decode cX10_wayOf 0 = .ok (.aload_n 0, 1) := by decide +kernel
theorem dX10_wayOf_1 : decode cX10_wayOf 1 = .ok (.iload_n 1, 1) := by decide +kernel
theorem dX10_wayOf_2 : decode cX10_wayOf 2 = .ok (.invokevirtual 226, 3) := by decide +kernel
theorem dX10_wayOf_5 : decode cX10_wayOf 5 = .ok (.iload_n 2, 1) := by decide +kernel
theorem dX10_wayOf_6 : decode cX10_wayOf 6 = .ok (.if_icmp .ne 5, 3) := by decide +kernel
theorem dX10_wayOf_9 : decode cX10_wayOf 9 = .ok (.iconst 0, 1) := by decide +kernel
theorem dX10_wayOf_10 : decode cX10_wayOf 10 = .ok (.ireturn, 1) := by decide +kernel
theorem dX10_wayOf_11 : decode cX10_wayOf 11 = .ok (.aload_n 0, 1) := by decide +kernel
theorem dX10_wayOf_12 : decode cX10_wayOf 12 = .ok (.iload_n 1, 1) := by decide +kernel
theorem dX10_wayOf_13 : decode cX10_wayOf 13 = .ok (.invokevirtual 229, 3) := by decide +kernel
theorem dX10_wayOf_16 : decode cX10_wayOf 16 = .ok (.iload_n 2, 1) := by decide +kernel
theorem dX10_wayOf_17 : decode cX10_wayOf 17 = .ok (.if_icmp .ne 5, 3) := by decide +kernel
theorem dX10_wayOf_20 : decode cX10_wayOf 20 = .ok (.iconst 1, 1) := by decide +kernel
theorem dX10_wayOf_21 : decode cX10_wayOf 21 = .ok (.ireturn, 1) := by decide +kernel
theorem dX10_wayOf_22 : decode cX10_wayOf 22 = .ok (.iload_n 2, 1) := by decide +kernel
theorem dX10_wayOf_23 : decode cX10_wayOf 23 = .ok (.invokestatic 231, 3) := by decide +kernel
theorem dX10_wayOf_26 : decode cX10_wayOf 26 = .ok (.istore_n 3, 1) := by decide +kernel
theorem dX10_wayOf_27 : decode cX10_wayOf 27 = .ok (.aload_n 0, 1) := by decide +kernel
theorem dX10_wayOf_28 : decode cX10_wayOf 28 = .ok (.getfield 9, 3) := by decide +kernel
theorem dX10_wayOf_31 : decode cX10_wayOf 31 = .ok (.iconst 1, 1) := by decide +kernel
theorem dX10_wayOf_32 : decode cX10_wayOf 32 = .ok (.iaload, 1) := by decide +kernel
theorem dX10_wayOf_33 : decode cX10_wayOf 33 = .ok (.ifCond .eq 8, 3) := by decide +kernel
theorem dX10_wayOf_36 : decode cX10_wayOf 36 = .ok (.iload_n 3, 1) := by decide +kernel
theorem dX10_wayOf_37 : decode cX10_wayOf 37 = .ok (.iconst (-1), 1) := by decide +kernel
theorem dX10_wayOf_38 : decode cX10_wayOf 38 = .ok (.if_icmp .ne 5, 3) := by decide +kernel
theorem dX10_wayOf_41 : decode cX10_wayOf 41 = .ok (.iconst (-1), 1) := by decide +kernel
theorem dX10_wayOf_42 : decode cX10_wayOf 42 = .ok (.ireturn, 1) := by decide +kernel
theorem dX10_wayOf_43 : decode cX10_wayOf 43 = .ok (.aload_n 0, 1) := by decide +kernel
theorem dX10_wayOf_44 : decode cX10_wayOf 44 = .ok (.iload_n 1, 1) := by decide +kernel
theorem dX10_wayOf_45 : decode cX10_wayOf 45 = .ok (.invokevirtual 226, 3) := by decide +kernel
theorem dX10_wayOf_48 : decode cX10_wayOf 48 = .ok (.iload_n 3, 1) := by decide +kernel
theorem dX10_wayOf_49 : decode cX10_wayOf 49 = .ok (.if_icmp .ne 7, 3) := by decide +kernel
theorem dX10_wayOf_52 : decode cX10_wayOf 52 = .ok (.iconst 2, 1) := by decide +kernel
theorem dX10_wayOf_53 : decode cX10_wayOf 53 = .ok (.goto 17, 3) := by decide +kernel
theorem dX10_wayOf_56 : decode cX10_wayOf 56 = .ok (.aload_n 0, 1) := by decide +kernel
theorem dX10_wayOf_57 : decode cX10_wayOf 57 = .ok (.iload_n 1, 1) := by decide +kernel
theorem dX10_wayOf_58 : decode cX10_wayOf 58 = .ok (.invokevirtual 229, 3) := by decide +kernel
theorem dX10_wayOf_61 : decode cX10_wayOf 61 = .ok (.iload_n 3, 1) := by decide +kernel
theorem dX10_wayOf_62 : decode cX10_wayOf 62 = .ok (.if_icmp .ne 7, 3) := by decide +kernel
theorem dX10_wayOf_65 : decode cX10_wayOf 65 = .ok (.iconst 3, 1) := by decide +kernel
theorem dX10_wayOf_66 : decode cX10_wayOf 66 = .ok (.goto 4, 3) := by decide +kernel
theorem dX10_wayOf_69 : decode cX10_wayOf 69 = .ok (.iconst (-1), 1) := by decide +kernel
theorem dX10_wayOf_70 : decode cX10_wayOf 70 = .ok (.ireturn, 1) := by decide +kernel
theorem dX10_hanging_0 : decode cX10_hanging 0 = .ok (.iconst 0, 1) := by decide +kernel
theorem dX10_hanging_1 : decode cX10_hanging 1 = .ok (.istore_n 2, 1) := by decide +kernel
theorem dX10_hanging_2 : decode cX10_hanging 2 = .ok (.iconst 0, 1) := by decide +kernel
theorem dX10_hanging_3 : decode cX10_hanging 3 = .ok (.istore_n 3, 1) := by decide +kernel
theorem dX10_hanging_4 : decode cX10_hanging 4 = .ok (.iload_n 3, 1) := by decide +kernel
theorem dX10_hanging_5 : decode cX10_hanging 5 = .ok (.bipush 54, 2) := by decide +kernel
theorem dX10_hanging_7 : decode cX10_hanging 7 = .ok (.if_icmp .ge 31, 3) := by decide +kernel
theorem dX10_hanging_10 : decode cX10_hanging 10 = .ok (.iload_n 2, 1) := by decide +kernel
theorem dX10_hanging_11 : decode cX10_hanging 11 = .ok (.aload_n 0, 1) := by decide +kernel
theorem dX10_hanging_12 : decode cX10_hanging 12 = .ok (.getfield 9, 3) := by decide +kernel
theorem dX10_hanging_15 : decode cX10_hanging 15 = .ok (.iload_n 3, 1) := by decide +kernel
theorem dX10_hanging_16 : decode cX10_hanging 16 = .ok (.iconst 1, 1) := by decide +kernel
theorem dX10_hanging_17 : decode cX10_hanging 17 = .ok (.invokestatic 234, 3) := by decide +kernel
theorem dX10_hanging_20 : decode cX10_hanging 20 = .ok (.iaload, 1) := by decide +kernel
theorem dX10_hanging_21 : decode cX10_hanging 21 = .ok (.iload_n 1, 1) := by decide +kernel
theorem dX10_hanging_22 : decode cX10_hanging 22 = .ok (.if_icmp .ne 7, 3) := by decide +kernel
theorem dX10_hanging_25 : decode cX10_hanging 25 = .ok (.iconst 1, 1) := by decide +kernel
theorem dX10_hanging_26 : decode cX10_hanging 26 = .ok (.goto 4, 3) := by decide +kernel
theorem dX10_hanging_29 : decode cX10_hanging 29 = .ok (.iconst 0, 1) := by decide +kernel
theorem dX10_hanging_30 : decode cX10_hanging 30 = .ok (.iadd, 1) := by decide +kernel
theorem dX10_hanging_31 : decode cX10_hanging 31 = .ok (.istore_n 2, 1) := by decide +kernel
theorem dX10_hanging_32 : decode cX10_hanging 32 = .ok (.iinc 3 1, 3) := by decide +kernel
theorem dX10_hanging_35 : decode cX10_hanging 35 = .ok (.goto (-31), 3) := by decide +kernel
theorem dX10_hanging_38 : decode cX10_hanging 38 = .ok (.iload_n 2, 1) := by decide +kernel
theorem dX10_hanging_39 : decode cX10_hanging 39 = .ok (.ireturn, 1) := by decide +kernel
theorem dX10_placeAt_0 : decode cX10_placeAt 0 = .ok (.sipush 276, 3) := by decide +kernel
theorem dX10_placeAt_3 : decode cX10_placeAt 3 = .ok (.iconst 3, 1) := by decide +kernel
theorem dX10_placeAt_4 : decode cX10_placeAt 4 = .ok (.iload_n 0, 1) := by decide +kernel
theorem dX10_placeAt_5 : decode cX10_placeAt 5 = .ok (.imul, 1) := by decide +kernel
theorem dX10_placeAt_6 : decode cX10_placeAt 6 = .ok (.iadd, 1) := by decide +kernel
theorem dX10_placeAt_7 : decode cX10_placeAt 7 = .ok (.iload_n 1, 1) := by decide +kernel
theorem dX10_placeAt_8 : decode cX10_placeAt 8 = .ok (.iadd, 1) := by decide +kernel
theorem dX10_placeAt_9 : decode cX10_placeAt 9 = .ok (.ireturn, 1) := by decide +kernel
theorem dX10_hangs_0 : decode cX10_hangs 0 = .ok (.aload_n 0, 1) := by decide +kernel
theorem dX10_hangs_1 : decode cX10_hangs 1 = .ok (.getfield 9, 3) := by decide +kernel
theorem dX10_hangs_4 : decode cX10_hangs 4 = .ok (.iload_n 1, 1) := by decide +kernel
theorem dX10_hangs_5 : decode cX10_hangs 5 = .ok (.iconst 0, 1) := by decide +kernel
theorem dX10_hangs_6 : decode cX10_hangs 6 = .ok (.invokestatic 234, 3) := by decide +kernel
theorem dX10_hangs_9 : decode cX10_hangs 9 = .ok (.iaload, 1) := by decide +kernel
theorem dX10_hangs_10 : decode cX10_hangs 10 = .ok (.iconst (-1), 1) := by decide +kernel
theorem dX10_hangs_11 : decode cX10_hangs 11 = .ok (.if_icmp .eq 7, 3) := by decide +kernel
theorem dX10_hangs_14 : decode cX10_hangs 14 = .ok (.iconst 1, 1) := by decide +kernel
theorem dX10_hangs_15 : decode cX10_hangs 15 = .ok (.goto 4, 3) := by decide +kernel
theorem dX10_hangs_18 : decode cX10_hangs 18 = .ok (.iconst 0, 1) := by decide +kernel
theorem dX10_hangs_19 : decode cX10_hangs 19 = .ok (.ireturn, 1) := by decide +kernel
theorem dX10_allHanging_0 : decode cX10_allHanging 0 = .ok (.iconst 0, 1) := by decide +kernel
theorem dX10_allHanging_1 : decode cX10_allHanging 1 = .ok (.istore_n 1, 1) := by decide +kernel
theorem dX10_allHanging_2 : decode cX10_allHanging 2 = .ok (.iconst 0, 1) := by decide +kernel
theorem dX10_allHanging_3 : decode cX10_allHanging 3 = .ok (.istore_n 2, 1) := by decide +kernel
theorem dX10_allHanging_4 : decode cX10_allHanging 4 = .ok (.iload_n 2, 1) := by decide +kernel
theorem dX10_allHanging_5 : decode cX10_allHanging 5 = .ok (.bipush 54, 2) := by decide +kernel
theorem dX10_allHanging_7 : decode cX10_allHanging 7 = .ok (.if_icmp .ge 25, 3) := by decide +kernel
theorem dX10_allHanging_10 : decode cX10_allHanging 10 = .ok (.iload_n 1, 1) := by decide +kernel
theorem dX10_allHanging_11 : decode cX10_allHanging 11 = .ok (.aload_n 0, 1) := by decide +kernel
theorem dX10_allHanging_12 : decode cX10_allHanging 12 = .ok (.iload_n 2, 1) := by decide +kernel
theorem dX10_allHanging_13 : decode cX10_allHanging 13 = .ok (.invokevirtual 237, 3) := by decide +kernel
theorem dX10_allHanging_16 : decode cX10_allHanging 16 = .ok (.ifCond .eq 7, 3) := by decide +kernel
theorem dX10_allHanging_19 : decode cX10_allHanging 19 = .ok (.iconst 1, 1) := by decide +kernel
theorem dX10_allHanging_20 : decode cX10_allHanging 20 = .ok (.goto 4, 3) := by decide +kernel
theorem dX10_allHanging_23 : decode cX10_allHanging 23 = .ok (.iconst 0, 1) := by decide +kernel
theorem dX10_allHanging_24 : decode cX10_allHanging 24 = .ok (.iadd, 1) := by decide +kernel
theorem dX10_allHanging_25 : decode cX10_allHanging 25 = .ok (.istore_n 1, 1) := by decide +kernel
theorem dX10_allHanging_26 : decode cX10_allHanging 26 = .ok (.iinc 2 1, 3) := by decide +kernel
theorem dX10_allHanging_29 : decode cX10_allHanging 29 = .ok (.goto (-25), 3) := by decide +kernel
theorem dX10_allHanging_32 : decode cX10_allHanging 32 = .ok (.iload_n 1, 1) := by decide +kernel
theorem dX10_allHanging_33 : decode cX10_allHanging 33 = .ok (.ireturn, 1) := by decide +kernel
theorem dX10_comesDown_0 : decode cX10_comesDown 0 = .ok (.iconst 0, 1) := by decide +kernel
theorem dX10_comesDown_1 : decode cX10_comesDown 1 = .ok (.istore_n 2, 1) := by decide +kernel
theorem dX10_comesDown_2 : decode cX10_comesDown 2 = .ok (.iload_n 2, 1) := by decide +kernel
theorem dX10_comesDown_3 : decode cX10_comesDown 3 = .ok (.iconst 3, 1) := by decide +kernel
theorem dX10_comesDown_4 : decode cX10_comesDown 4 = .ok (.if_icmp .ge 20, 3) := by decide +kernel
theorem dX10_comesDown_7 : decode cX10_comesDown 7 = .ok (.aload_n 0, 1) := by decide +kernel
theorem dX10_comesDown_8 : decode cX10_comesDown 8 = .ok (.getfield 9, 3) := by decide +kernel
theorem dX10_comesDown_11 : decode cX10_comesDown 11 = .ok (.iload_n 1, 1) := by decide +kernel
theorem dX10_comesDown_12 : decode cX10_comesDown 12 = .ok (.iload_n 2, 1) := by decide +kernel
theorem dX10_comesDown_13 : decode cX10_comesDown 13 = .ok (.invokestatic 234, 3) := by decide +kernel
theorem dX10_comesDown_16 : decode cX10_comesDown 16 = .ok (.iconst (-1), 1) := by decide +kernel
theorem dX10_comesDown_17 : decode cX10_comesDown 17 = .ok (.iastore, 1) := by decide +kernel
theorem dX10_comesDown_18 : decode cX10_comesDown 18 = .ok (.iinc 2 1, 3) := by decide +kernel
theorem dX10_comesDown_21 : decode cX10_comesDown 21 = .ok (.goto (-19), 3) := by decide +kernel
theorem dX10_comesDown_24 : decode cX10_comesDown 24 = .ok (.return_, 1) := by decide +kernel
theorem dX10_falls_0 : decode cX10_falls 0 = .ok (.iconst 0, 1) := by decide +kernel
theorem dX10_falls_1 : decode cX10_falls 1 = .ok (.aload_n 0, 1) := by decide +kernel
theorem dX10_falls_2 : decode cX10_falls 2 = .ok (.iload_n 1, 1) := by decide +kernel
theorem dX10_falls_3 : decode cX10_falls 3 = .ok (.invokevirtual 240, 3) := by decide +kernel
theorem dX10_falls_6 : decode cX10_falls 6 = .ok (.aload_n 0, 1) := by decide +kernel
theorem dX10_falls_7 : decode cX10_falls 7 = .ok (.iload_n 1, 1) := by decide +kernel
theorem dX10_falls_8 : decode cX10_falls 8 = .ok (.invokevirtual 243, 3) := by decide +kernel
theorem dX10_falls_11 : decode cX10_falls 11 = .ok (.isub, 1) := by decide +kernel
theorem dX10_falls_12 : decode cX10_falls 12 = .ok (.invokestatic 246, 3) := by decide +kernel
theorem dX10_falls_15 : decode cX10_falls 15 = .ok (.istore_n 2, 1) := by decide +kernel
theorem dX10_falls_16 : decode cX10_falls 16 = .ok (.iload_n 2, 1) := by decide +kernel
theorem dX10_falls_17 : decode cX10_falls 17 = .ok (.istore_n 3, 1) := by decide +kernel
theorem dX10_falls_18 : decode cX10_falls 18 = .ok (.bipush 53, 2) := by decide +kernel
theorem dX10_falls_20 : decode cX10_falls 20 = .ok (.istore 4, 2) := by decide +kernel
theorem dX10_falls_22 : decode cX10_falls 22 = .ok (.iload 4, 2) := by decide +kernel
theorem dX10_falls_24 : decode cX10_falls 24 = .ok (.ifCond .lt 40, 3) := by decide +kernel
theorem dX10_falls_27 : decode cX10_falls 27 = .ok (.iload_n 3, 1) := by decide +kernel
theorem dX10_falls_28 : decode cX10_falls 28 = .ok (.ifCond .le 36, 3) := by decide +kernel
theorem dX10_falls_31 : decode cX10_falls 31 = .ok (.aload_n 0, 1) := by decide +kernel
theorem dX10_falls_32 : decode cX10_falls 32 = .ok (.getfield 9, 3) := by decide +kernel
theorem dX10_falls_35 : decode cX10_falls 35 = .ok (.iload 4, 2) := by decide +kernel
theorem dX10_falls_37 : decode cX10_falls 37 = .ok (.iconst 1, 1) := by decide +kernel
theorem dX10_falls_38 : decode cX10_falls 38 = .ok (.invokestatic 234, 3) := by decide +kernel
theorem dX10_falls_41 : decode cX10_falls 41 = .ok (.iaload, 1) := by decide +kernel
theorem dX10_falls_42 : decode cX10_falls 42 = .ok (.iload_n 1, 1) := by decide +kernel
theorem dX10_falls_43 : decode cX10_falls 43 = .ok (.if_icmp .eq 6, 3) := by decide +kernel
theorem dX10_falls_46 : decode cX10_falls 46 = .ok (.goto 12, 3) := by decide +kernel
theorem dX10_falls_49 : decode cX10_falls 49 = .ok (.aload_n 0, 1) := by decide +kernel
theorem dX10_falls_50 : decode cX10_falls 50 = .ok (.iload 4, 2) := by decide +kernel
theorem dX10_falls_52 : decode cX10_falls 52 = .ok (.invokevirtual 251, 3) := by decide +kernel
theorem dX10_falls_55 : decode cX10_falls 55 = .ok (.iinc 3 (-1), 3) := by decide +kernel
theorem dX10_falls_58 : decode cX10_falls 58 = .ok (.iinc 4 (-1), 3) := by decide +kernel
theorem dX10_falls_61 : decode cX10_falls 61 = .ok (.goto (-39), 3) := by decide +kernel
theorem dX10_falls_64 : decode cX10_falls 64 = .ok (.iload_n 2, 1) := by decide +kernel
theorem dX10_falls_65 : decode cX10_falls 65 = .ok (.ireturn, 1) := by decide +kernel
theorem dX10_allFall_0 : decode cX10_allFall 0 = .ok (.iconst 0, 1) := by decide +kernel
theorem dX10_allFall_1 : decode cX10_allFall 1 = .ok (.istore_n 1, 1) := by decide +kernel
theorem dX10_allFall_2 : decode cX10_allFall 2 = .ok (.iconst 0, 1) := by decide +kernel
theorem dX10_allFall_3 : decode cX10_allFall 3 = .ok (.istore_n 2, 1) := by decide +kernel
theorem dX10_allFall_4 : decode cX10_allFall 4 = .ok (.iload_n 2, 1) := by decide +kernel
theorem dX10_allFall_5 : decode cX10_allFall 5 = .ok (.bipush 42, 2) := by decide +kernel
theorem dX10_allFall_7 : decode cX10_allFall 7 = .ok (.if_icmp .ge 17, 3) := by decide +kernel
theorem dX10_allFall_10 : decode cX10_allFall 10 = .ok (.iload_n 1, 1) := by decide +kernel
theorem dX10_allFall_11 : decode cX10_allFall 11 = .ok (.aload_n 0, 1) := by decide +kernel
theorem dX10_allFall_12 : decode cX10_allFall 12 = .ok (.iload_n 2, 1) := by decide +kernel
theorem dX10_allFall_13 : decode cX10_allFall 13 = .ok (.invokevirtual 255, 3) := by decide +kernel
theorem dX10_allFall_16 : decode cX10_allFall 16 = .ok (.iadd, 1) := by decide +kernel
theorem dX10_allFall_17 : decode cX10_allFall 17 = .ok (.istore_n 1, 1) := by decide +kernel
theorem dX10_allFall_18 : decode cX10_allFall 18 = .ok (.iinc 2 1, 3) := by decide +kernel
theorem dX10_allFall_21 : decode cX10_allFall 21 = .ok (.goto (-17), 3) := by decide +kernel
theorem dX10_allFall_24 : decode cX10_allFall 24 = .ok (.iload_n 1, 1) := by decide +kernel
theorem dX10_allFall_25 : decode cX10_allFall 25 = .ok (.ireturn, 1) := by decide +kernel
theorem dX10_shows_0 : decode cX10_shows 0 = .ok (.iconst 0, 1) := by decide +kernel
theorem dX10_shows_1 : decode cX10_shows 1 = .ok (.istore_n 2, 1) := by decide +kernel
theorem dX10_shows_2 : decode cX10_shows 2 = .ok (.iconst 0, 1) := by decide +kernel
theorem dX10_shows_3 : decode cX10_shows 3 = .ok (.istore_n 3, 1) := by decide +kernel
theorem dX10_shows_4 : decode cX10_shows 4 = .ok (.iload_n 3, 1) := by decide +kernel
theorem dX10_shows_5 : decode cX10_shows 5 = .ok (.bipush 10, 2) := by decide +kernel
theorem dX10_shows_7 : decode cX10_shows 7 = .ok (.if_icmp .ge 29, 3) := by decide +kernel
theorem dX10_shows_10 : decode cX10_shows 10 = .ok (.iload_n 2, 1) := by decide +kernel
theorem dX10_shows_11 : decode cX10_shows 11 = .ok (.aload_n 0, 1) := by decide +kernel
theorem dX10_shows_12 : decode cX10_shows 12 = .ok (.iload_n 1, 1) := by decide +kernel
theorem dX10_shows_13 : decode cX10_shows 13 = .ok (.iload_n 3, 1) := by decide +kernel
theorem dX10_shows_14 : decode cX10_shows 14 = .ok (.invokevirtual 258, 3) := by decide +kernel
theorem dX10_shows_17 : decode cX10_shows 17 = .ok (.iconst (-1), 1) := by decide +kernel
theorem dX10_shows_18 : decode cX10_shows 18 = .ok (.if_icmp .eq 9, 3) := by decide +kernel
theorem dX10_shows_21 : decode cX10_shows 21 = .ok (.iconst 1, 1) := by decide +kernel
theorem dX10_shows_22 : decode cX10_shows 22 = .ok (.iload_n 3, 1) := by decide +kernel
theorem dX10_shows_23 : decode cX10_shows 23 = .ok (.ishl, 1) := by decide +kernel
theorem dX10_shows_24 : decode cX10_shows 24 = .ok (.goto 4, 3) := by decide +kernel
theorem dX10_shows_27 : decode cX10_shows 27 = .ok (.iconst 0, 1) := by decide +kernel
theorem dX10_shows_28 : decode cX10_shows 28 = .ok (.ior, 1) := by decide +kernel
theorem dX10_shows_29 : decode cX10_shows 29 = .ok (.istore_n 2, 1) := by decide +kernel
theorem dX10_shows_30 : decode cX10_shows 30 = .ok (.iinc 3 1, 3) := by decide +kernel
theorem dX10_shows_33 : decode cX10_shows 33 = .ok (.goto (-29), 3) := by decide +kernel
theorem dX10_shows_36 : decode cX10_shows 36 = .ok (.iload_n 2, 1) := by decide +kernel
theorem dX10_shows_37 : decode cX10_shows 37 = .ok (.ireturn, 1) := by decide +kernel
theorem dX10_brings_0 : decode cX10_brings 0 = .ok (.iconst 0, 1) := by decide +kernel
theorem dX10_brings_1 : decode cX10_brings 1 = .ok (.istore_n 3, 1) := by decide +kernel
theorem dX10_brings_2 : decode cX10_brings 2 = .ok (.iload_n 3, 1) := by decide +kernel
theorem dX10_brings_3 : decode cX10_brings 3 = .ok (.sipush 1024, 3) := by decide +kernel
theorem dX10_brings_6 : decode cX10_brings 6 = .ok (.if_icmp .ge 29, 3) := by decide +kernel
theorem dX10_brings_9 : decode cX10_brings 9 = .ok (.aload_n 0, 1) := by decide +kernel
theorem dX10_brings_10 : decode cX10_brings 10 = .ok (.getfield 40, 3) := by decide +kernel
theorem dX10_brings_13 : decode cX10_brings 13 = .ok (.iload_n 3, 1) := by decide +kernel
theorem dX10_brings_14 : decode cX10_brings 14 = .ok (.dup2, 1) := by decide +kernel
theorem dX10_brings_15 : decode cX10_brings 15 = .ok (.iaload, 1) := by decide +kernel
theorem dX10_brings_16 : decode cX10_brings 16 = .ok (.iload_n 3, 1) := by decide +kernel
theorem dX10_brings_17 : decode cX10_brings 17 = .ok (.iload_n 1, 1) := by decide +kernel
theorem dX10_brings_18 : decode cX10_brings 18 = .ok (.iand, 1) := by decide +kernel
theorem dX10_brings_19 : decode cX10_brings 19 = .ok (.ifCond .eq 7, 3) := by decide +kernel
theorem dX10_brings_22 : decode cX10_brings 22 = .ok (.iload_n 2, 1) := by decide +kernel
theorem dX10_brings_23 : decode cX10_brings 23 = .ok (.goto 4, 3) := by decide +kernel
theorem dX10_brings_26 : decode cX10_brings 26 = .ok (.iconst 0, 1) := by decide +kernel
theorem dX10_brings_27 : decode cX10_brings 27 = .ok (.iadd, 1) := by decide +kernel
theorem dX10_brings_28 : decode cX10_brings 28 = .ok (.iastore, 1) := by decide +kernel
theorem dX10_brings_29 : decode cX10_brings 29 = .ok (.iinc 3 1, 3) := by decide +kernel
theorem dX10_brings_32 : decode cX10_brings 32 = .ok (.goto (-30), 3) := by decide +kernel
theorem dX10_brings_35 : decode cX10_brings 35 = .ok (.return_, 1) := by decide +kernel
theorem dX10_wants_0 : decode cX10_wants 0 = .ok (.iconst 0, 1) := by decide +kernel
theorem dX10_wants_1 : decode cX10_wants 1 = .ok (.istore_n 3, 1) := by decide +kernel
theorem dX10_wants_2 : decode cX10_wants 2 = .ok (.iload_n 3, 1) := by decide +kernel
theorem dX10_wants_3 : decode cX10_wants 3 = .ok (.sipush 1024, 3) := by decide +kernel
theorem dX10_wants_6 : decode cX10_wants 6 = .ok (.if_icmp .ge 32, 3) := by decide +kernel
theorem dX10_wants_9 : decode cX10_wants 9 = .ok (.aload_n 0, 1) := by decide +kernel
theorem dX10_wants_10 : decode cX10_wants 10 = .ok (.getfield 43, 3) := by decide +kernel
theorem dX10_wants_13 : decode cX10_wants 13 = .ok (.iload_n 3, 1) := by decide +kernel
theorem dX10_wants_14 : decode cX10_wants 14 = .ok (.dup2, 1) := by decide +kernel
theorem dX10_wants_15 : decode cX10_wants 15 = .ok (.iaload, 1) := by decide +kernel
theorem dX10_wants_16 : decode cX10_wants 16 = .ok (.iload_n 3, 1) := by decide +kernel
theorem dX10_wants_17 : decode cX10_wants 17 = .ok (.iload_n 1, 1) := by decide +kernel
theorem dX10_wants_18 : decode cX10_wants 18 = .ok (.ishr, 1) := by decide +kernel
theorem dX10_wants_19 : decode cX10_wants 19 = .ok (.iconst 1, 1) := by decide +kernel
theorem dX10_wants_20 : decode cX10_wants 20 = .ok (.iand, 1) := by decide +kernel
theorem dX10_wants_21 : decode cX10_wants 21 = .ok (.iconst 1, 1) := by decide +kernel
theorem dX10_wants_22 : decode cX10_wants 22 = .ok (.if_icmp .ne 7, 3) := by decide +kernel
theorem dX10_wants_25 : decode cX10_wants 25 = .ok (.iload_n 2, 1) := by decide +kernel
theorem dX10_wants_26 : decode cX10_wants 26 = .ok (.goto 4, 3) := by decide +kernel
theorem dX10_wants_29 : decode cX10_wants 29 = .ok (.iconst 0, 1) := by decide +kernel
theorem dX10_wants_30 : decode cX10_wants 30 = .ok (.iadd, 1) := by decide +kernel
theorem dX10_wants_31 : decode cX10_wants 31 = .ok (.iastore, 1) := by decide +kernel
theorem dX10_wants_32 : decode cX10_wants 32 = .ok (.iinc 3 1, 3) := by decide +kernel
theorem dX10_wants_35 : decode cX10_wants 35 = .ok (.goto (-33), 3) := by decide +kernel
theorem dX10_wants_38 : decode cX10_wants 38 = .ok (.return_, 1) := by decide +kernel
theorem dX10_wantsHymn_0 : decode cX10_wantsHymn 0 = .ok (.iload_n 1, 1) := by decide +kernel
theorem dX10_wantsHymn_1 : decode cX10_wantsHymn 1 = .ok (.istore_n 3, 1) := by decide +kernel
theorem dX10_wantsHymn_2 : decode cX10_wantsHymn 2 = .ok (.iload_n 3, 1) := by decide +kernel
theorem dX10_wantsHymn_3 : decode cX10_wantsHymn 3 = .ok (.ifCond .le 20, 3) := by decide +kernel
theorem dX10_wantsHymn_6 : decode cX10_wantsHymn 6 = .ok (.aload_n 0, 1) := by decide +kernel
theorem dX10_wantsHymn_7 : decode cX10_wantsHymn 7 = .ok (.iload_n 3, 1) := by decide +kernel
theorem dX10_wantsHymn_8 : decode cX10_wantsHymn 8 = .ok (.bipush 10, 2) := by decide +kernel
theorem dX10_wantsHymn_10 : decode cX10_wantsHymn 10 = .ok (.irem, 1) := by decide +kernel
theorem dX10_wantsHymn_11 : decode cX10_wantsHymn 11 = .ok (.iload_n 2, 1) := by decide +kernel
theorem dX10_wantsHymn_12 : decode cX10_wantsHymn 12 = .ok (.invokevirtual 261, 3) := by decide +kernel
theorem dX10_wantsHymn_15 : decode cX10_wantsHymn 15 = .ok (.iload_n 3, 1) := by decide +kernel
theorem dX10_wantsHymn_16 : decode cX10_wantsHymn 16 = .ok (.bipush 10, 2) := by decide +kernel
theorem dX10_wantsHymn_18 : decode cX10_wantsHymn 18 = .ok (.idiv, 1) := by decide +kernel
theorem dX10_wantsHymn_19 : decode cX10_wantsHymn 19 = .ok (.istore_n 3, 1) := by decide +kernel
theorem dX10_wantsHymn_20 : decode cX10_wantsHymn 20 = .ok (.goto (-18), 3) := by decide +kernel
theorem dX10_wantsHymn_23 : decode cX10_wantsHymn 23 = .ok (.return_, 1) := by decide +kernel
theorem dX10_laysCards_0 : decode cX10_laysCards 0 = .ok (.iconst 0, 1) := by decide +kernel
theorem dX10_laysCards_1 : decode cX10_laysCards 1 = .ok (.istore_n 2, 1) := by decide +kernel
theorem dX10_laysCards_2 : decode cX10_laysCards 2 = .ok (.iload_n 2, 1) := by decide +kernel
theorem dX10_laysCards_3 : decode cX10_laysCards 3 = .ok (.sipush 1024, 3) := by decide +kernel
theorem dX10_laysCards_6 : decode cX10_laysCards 6 = .ok (.if_icmp .ge 23, 3) := by decide +kernel
theorem dX10_laysCards_9 : decode cX10_laysCards 9 = .ok (.aload_n 0, 1) := by decide +kernel
theorem dX10_laysCards_10 : decode cX10_laysCards 10 = .ok (.getfield 40, 3) := by decide +kernel
theorem dX10_laysCards_13 : decode cX10_laysCards 13 = .ok (.iload_n 2, 1) := by decide +kernel
theorem dX10_laysCards_14 : decode cX10_laysCards 14 = .ok (.iconst 0, 1) := by decide +kernel
theorem dX10_laysCards_15 : decode cX10_laysCards 15 = .ok (.iastore, 1) := by decide +kernel
theorem dX10_laysCards_16 : decode cX10_laysCards 16 = .ok (.aload_n 0, 1) := by decide +kernel
theorem dX10_laysCards_17 : decode cX10_laysCards 17 = .ok (.getfield 43, 3) := by decide +kernel
theorem dX10_laysCards_20 : decode cX10_laysCards 20 = .ok (.iload_n 2, 1) := by decide +kernel
theorem dX10_laysCards_21 : decode cX10_laysCards 21 = .ok (.iconst 0, 1) := by decide +kernel
theorem dX10_laysCards_22 : decode cX10_laysCards 22 = .ok (.iastore, 1) := by decide +kernel
theorem dX10_laysCards_23 : decode cX10_laysCards 23 = .ok (.iinc 2 1, 3) := by decide +kernel
theorem dX10_laysCards_26 : decode cX10_laysCards 26 = .ok (.goto (-24), 3) := by decide +kernel
theorem dX10_laysCards_29 : decode cX10_laysCards 29 = .ok (.iconst 0, 1) := by decide +kernel
theorem dX10_laysCards_30 : decode cX10_laysCards 30 = .ok (.istore_n 2, 1) := by decide +kernel
theorem dX10_laysCards_31 : decode cX10_laysCards 31 = .ok (.iload_n 2, 1) := by decide +kernel
theorem dX10_laysCards_32 : decode cX10_laysCards 32 = .ok (.bipush 43, 2) := by decide +kernel
theorem dX10_laysCards_34 : decode cX10_laysCards 34 = .ok (.if_icmp .ge 58, 3) := by decide +kernel
theorem dX10_laysCards_37 : decode cX10_laysCards 37 = .ok (.aload_n 0, 1) := by decide +kernel
theorem dX10_laysCards_38 : decode cX10_laysCards 38 = .ok (.getfield 46, 3) := by decide +kernel
theorem dX10_laysCards_41 : decode cX10_laysCards 41 = .ok (.iload_n 2, 1) := by decide +kernel
theorem dX10_laysCards_42 : decode cX10_laysCards 42 = .ok (.aload_n 0, 1) := by decide +kernel
theorem dX10_laysCards_43 : decode cX10_laysCards 43 = .ok (.iload_n 2, 1) := by decide +kernel
theorem dX10_laysCards_44 : decode cX10_laysCards 44 = .ok (.invokevirtual 243, 3) := by decide +kernel
theorem dX10_laysCards_47 : decode cX10_laysCards 47 = .ok (.iload_n 1, 1) := by decide +kernel
theorem dX10_laysCards_48 : decode cX10_laysCards 48 = .ok (.ifCond .eq 11, 3) := by decide +kernel
theorem dX10_laysCards_51 : decode cX10_laysCards 51 = .ok (.aload_n 0, 1) := by decide +kernel
theorem dX10_laysCards_52 : decode cX10_laysCards 52 = .ok (.iload_n 2, 1) := by decide +kernel
theorem dX10_laysCards_53 : decode cX10_laysCards 53 = .ok (.invokevirtual 240, 3) := by decide +kernel
theorem dX10_laysCards_56 : decode cX10_laysCards 56 = .ok (.goto 4, 3) := by decide +kernel
theorem dX10_laysCards_59 : decode cX10_laysCards 59 = .ok (.iconst 0, 1) := by decide +kernel
theorem dX10_laysCards_60 : decode cX10_laysCards 60 = .ok (.isub, 1) := by decide +kernel
theorem dX10_laysCards_61 : decode cX10_laysCards 61 = .ok (.iastore, 1) := by decide +kernel
theorem dX10_laysCards_62 : decode cX10_laysCards 62 = .ok (.aload_n 0, 1) := by decide +kernel
theorem dX10_laysCards_63 : decode cX10_laysCards 63 = .ok (.getfield 46, 3) := by decide +kernel
theorem dX10_laysCards_66 : decode cX10_laysCards 66 = .ok (.iload_n 2, 1) := by decide +kernel
theorem dX10_laysCards_67 : decode cX10_laysCards 67 = .ok (.iaload, 1) := by decide +kernel
theorem dX10_laysCards_68 : decode cX10_laysCards 68 = .ok (.ifCond .le 18, 3) := by decide +kernel
theorem dX10_laysCards_71 : decode cX10_laysCards 71 = .ok (.aload_n 0, 1) := by decide +kernel
theorem dX10_laysCards_72 : decode cX10_laysCards 72 = .ok (.aload_n 0, 1) := by decide +kernel
theorem dX10_laysCards_73 : decode cX10_laysCards 73 = .ok (.iload_n 2, 1) := by decide +kernel
theorem dX10_laysCards_74 : decode cX10_laysCards 74 = .ok (.invokevirtual 264, 3) := by decide +kernel
theorem dX10_laysCards_77 : decode cX10_laysCards 77 = .ok (.aload_n 0, 1) := by decide +kernel
theorem dX10_laysCards_78 : decode cX10_laysCards 78 = .ok (.getfield 46, 3) := by decide +kernel
theorem dX10_laysCards_81 : decode cX10_laysCards 81 = .ok (.iload_n 2, 1) := by decide +kernel
theorem dX10_laysCards_82 : decode cX10_laysCards 82 = .ok (.iaload, 1) := by decide +kernel
theorem dX10_laysCards_83 : decode cX10_laysCards 83 = .ok (.invokevirtual 267, 3) := by decide +kernel
theorem dX10_laysCards_86 : decode cX10_laysCards 86 = .ok (.iinc 2 1, 3) := by decide +kernel
theorem dX10_laysCards_89 : decode cX10_laysCards 89 = .ok (.goto (-58), 3) := by decide +kernel
theorem dX10_laysCards_92 : decode cX10_laysCards 92 = .ok (.return_, 1) := by decide +kernel
theorem dX10_lack_0 : decode cX10_lack 0 = .ok (.iconst 0, 1) := by decide +kernel
theorem dX10_lack_1 : decode cX10_lack 1 = .ok (.istore_n 1, 1) := by decide +kernel
theorem dX10_lack_2 : decode cX10_lack 2 = .ok (.iconst 0, 1) := by decide +kernel
theorem dX10_lack_3 : decode cX10_lack 3 = .ok (.istore_n 2, 1) := by decide +kernel
theorem dX10_lack_4 : decode cX10_lack 4 = .ok (.iload_n 2, 1) := by decide +kernel
theorem dX10_lack_5 : decode cX10_lack 5 = .ok (.sipush 1024, 3) := by decide +kernel
theorem dX10_lack_8 : decode cX10_lack 8 = .ok (.if_icmp .ge 27, 3) := by decide +kernel
theorem dX10_lack_11 : decode cX10_lack 11 = .ok (.iload_n 1, 1) := by decide +kernel
theorem dX10_lack_12 : decode cX10_lack 12 = .ok (.aload_n 0, 1) := by decide +kernel
theorem dX10_lack_13 : decode cX10_lack 13 = .ok (.getfield 43, 3) := by decide +kernel
theorem dX10_lack_16 : decode cX10_lack 16 = .ok (.iload_n 2, 1) := by decide +kernel
theorem dX10_lack_17 : decode cX10_lack 17 = .ok (.iaload, 1) := by decide +kernel
theorem dX10_lack_18 : decode cX10_lack 18 = .ok (.aload_n 0, 1) := by decide +kernel
theorem dX10_lack_19 : decode cX10_lack 19 = .ok (.getfield 40, 3) := by decide +kernel
theorem dX10_lack_22 : decode cX10_lack 22 = .ok (.iload_n 2, 1) := by decide +kernel
theorem dX10_lack_23 : decode cX10_lack 23 = .ok (.iaload, 1) := by decide +kernel
theorem dX10_lack_24 : decode cX10_lack 24 = .ok (.isub, 1) := by decide +kernel
theorem dX10_lack_25 : decode cX10_lack 25 = .ok (.invokestatic 246, 3) := by decide +kernel
theorem dX10_lack_28 : decode cX10_lack 28 = .ok (.istore_n 1, 1) := by decide +kernel
theorem dX10_lack_29 : decode cX10_lack 29 = .ok (.iinc 2 1, 3) := by decide +kernel
theorem dX10_lack_32 : decode cX10_lack 32 = .ok (.goto (-28), 3) := by decide +kernel
theorem dX10_lack_35 : decode cX10_lack 35 = .ok (.iload_n 1, 1) := by decide +kernel
theorem dX10_lack_36 : decode cX10_lack 36 = .ok (.ireturn, 1) := by decide +kernel
theorem dX10_allRows_0 : decode cX10_allRows 0 = .ok (.iconst 0, 1) := by decide +kernel
theorem dX10_allRows_1 : decode cX10_allRows 1 = .ok (.istore_n 1, 1) := by decide +kernel
theorem dX10_allRows_2 : decode cX10_allRows 2 = .ok (.iconst 0, 1) := by decide +kernel
theorem dX10_allRows_3 : decode cX10_allRows 3 = .ok (.istore_n 2, 1) := by decide +kernel
theorem dX10_allRows_4 : decode cX10_allRows 4 = .ok (.iload_n 2, 1) := by decide +kernel
theorem dX10_allRows_5 : decode cX10_allRows 5 = .ok (.aload_n 0, 1) := by decide +kernel
theorem dX10_allRows_6 : decode cX10_allRows 6 = .ok (.getfield 9, 3) := by decide +kernel
theorem dX10_allRows_9 : decode cX10_allRows 9 = .ok (.iconst 0, 1) := by decide +kernel
theorem dX10_allRows_10 : decode cX10_allRows 10 = .ok (.iaload, 1) := by decide +kernel
theorem dX10_allRows_11 : decode cX10_allRows 11 = .ok (.if_icmp .ge 21, 3) := by decide +kernel
theorem dX10_allRows_14 : decode cX10_allRows 14 = .ok (.iload_n 1, 1) := by decide +kernel
theorem dX10_allRows_15 : decode cX10_allRows 15 = .ok (.aload_n 0, 1) := by decide +kernel
theorem dX10_allRows_16 : decode cX10_allRows 16 = .ok (.getfield 9, 3) := by decide +kernel
theorem dX10_allRows_19 : decode cX10_allRows 19 = .ok (.bipush 12, 2) := by decide +kernel
theorem dX10_allRows_21 : decode cX10_allRows 21 = .ok (.iload_n 2, 1) := by decide +kernel
theorem dX10_allRows_22 : decode cX10_allRows 22 = .ok (.iadd, 1) := by decide +kernel
theorem dX10_allRows_23 : decode cX10_allRows 23 = .ok (.iaload, 1) := by decide +kernel
theorem dX10_allRows_24 : decode cX10_allRows 24 = .ok (.iadd, 1) := by decide +kernel
theorem dX10_allRows_25 : decode cX10_allRows 25 = .ok (.istore_n 1, 1) := by decide +kernel
theorem dX10_allRows_26 : decode cX10_allRows 26 = .ok (.iinc 2 1, 3) := by decide +kernel
theorem dX10_allRows_29 : decode cX10_allRows 29 = .ok (.goto (-25), 3) := by decide +kernel
theorem dX10_allRows_32 : decode cX10_allRows 32 = .ok (.iload_n 1, 1) := by decide +kernel
theorem dX10_allRows_33 : decode cX10_allRows 33 = .ok (.ireturn, 1) := by decide +kernel
theorem dX10_firstRow_0 : decode cX10_firstRow 0 = .ok (.iconst 0, 1) := by decide +kernel
theorem dX10_firstRow_1 : decode cX10_firstRow 1 = .ok (.istore_n 2, 1) := by decide +kernel
theorem dX10_firstRow_2 : decode cX10_firstRow 2 = .ok (.iconst 0, 1) := by decide +kernel
theorem dX10_firstRow_3 : decode cX10_firstRow 3 = .ok (.istore_n 3, 1) := by decide +kernel
theorem dX10_firstRow_4 : decode cX10_firstRow 4 = .ok (.iload_n 3, 1) := by decide +kernel
theorem dX10_firstRow_5 : decode cX10_firstRow 5 = .ok (.iload_n 1, 1) := by decide +kernel
theorem dX10_firstRow_6 : decode cX10_firstRow 6 = .ok (.if_icmp .ge 21, 3) := by decide +kernel
theorem dX10_firstRow_9 : decode cX10_firstRow 9 = .ok (.iload_n 2, 1) := by decide +kernel
theorem dX10_firstRow_10 : decode cX10_firstRow 10 = .ok (.aload_n 0, 1) := by decide +kernel
theorem dX10_firstRow_11 : decode cX10_firstRow 11 = .ok (.getfield 9, 3) := by decide +kernel
theorem dX10_firstRow_14 : decode cX10_firstRow 14 = .ok (.bipush 12, 2) := by decide +kernel
theorem dX10_firstRow_16 : decode cX10_firstRow 16 = .ok (.iload_n 3, 1) := by decide +kernel
theorem dX10_firstRow_17 : decode cX10_firstRow 17 = .ok (.iadd, 1) := by decide +kernel
theorem dX10_firstRow_18 : decode cX10_firstRow 18 = .ok (.iaload, 1) := by decide +kernel
theorem dX10_firstRow_19 : decode cX10_firstRow 19 = .ok (.iadd, 1) := by decide +kernel
theorem dX10_firstRow_20 : decode cX10_firstRow 20 = .ok (.istore_n 2, 1) := by decide +kernel
theorem dX10_firstRow_21 : decode cX10_firstRow 21 = .ok (.iinc 3 1, 3) := by decide +kernel
theorem dX10_firstRow_24 : decode cX10_firstRow 24 = .ok (.goto (-20), 3) := by decide +kernel
theorem dX10_firstRow_27 : decode cX10_firstRow 27 = .ok (.iload_n 2, 1) := by decide +kernel
theorem dX10_firstRow_28 : decode cX10_firstRow 28 = .ok (.ireturn, 1) := by decide +kernel
theorem dX10_boardOf_0 : decode cX10_boardOf 0 = .ok (.iconst 0, 1) := by decide +kernel
theorem dX10_boardOf_1 : decode cX10_boardOf 1 = .ok (.istore_n 2, 1) := by decide +kernel
theorem dX10_boardOf_2 : decode cX10_boardOf 2 = .ok (.aload_n 0, 1) := by decide +kernel
theorem dX10_boardOf_3 : decode cX10_boardOf 3 = .ok (.iload_n 2, 1) := by decide +kernel
theorem dX10_boardOf_4 : decode cX10_boardOf 4 = .ok (.iconst 1, 1) := by decide +kernel
theorem dX10_boardOf_5 : decode cX10_boardOf 5 = .ok (.iadd, 1) := by decide +kernel
theorem dX10_boardOf_6 : decode cX10_boardOf 6 = .ok (.invokevirtual 270, 3) := by decide +kernel
theorem dX10_boardOf_9 : decode cX10_boardOf 9 = .ok (.iload_n 1, 1) := by decide +kernel
theorem dX10_boardOf_10 : decode cX10_boardOf 10 = .ok (.if_icmp .gt 9, 3) := by decide +kernel
theorem dX10_boardOf_13 : decode cX10_boardOf 13 = .ok (.iinc 2 1, 3) := by decide +kernel
theorem dX10_boardOf_16 : decode cX10_boardOf 16 = .ok (.goto (-14), 3) := by decide +kernel
theorem dX10_boardOf_19 : decode cX10_boardOf 19 = .ok (.iload_n 2, 1) := by decide +kernel
theorem dX10_boardOf_20 : decode cX10_boardOf 20 = .ok (.ireturn, 1) := by decide +kernel
theorem dX10_dueOf_0 : decode cX10_dueOf 0 = .ok (.aload_n 0, 1) := by decide +kernel
theorem dX10_dueOf_1 : decode cX10_dueOf 1 = .ok (.getfield 9, 3) := by decide +kernel
theorem dX10_dueOf_4 : decode cX10_dueOf 4 = .ok (.iconst 2, 1) := by decide +kernel
theorem dX10_dueOf_5 : decode cX10_dueOf 5 = .ok (.iaload, 1) := by decide +kernel
theorem dX10_dueOf_6 : decode cX10_dueOf 6 = .ok (.iconst 1, 1) := by decide +kernel
theorem dX10_dueOf_7 : decode cX10_dueOf 7 = .ok (.if_icmp .ne 7, 3) := by decide +kernel
theorem dX10_dueOf_10 : decode cX10_dueOf 10 = .ok (.iload_n 2, 1) := by decide +kernel
theorem dX10_dueOf_11 : decode cX10_dueOf 11 = .ok (.goto 14, 3) := by decide +kernel
theorem dX10_dueOf_14 : decode cX10_dueOf 14 = .ok (.iload_n 2, 1) := by decide +kernel
theorem dX10_dueOf_15 : decode cX10_dueOf 15 = .ok (.aload_n 0, 1) := by decide +kernel
theorem dX10_dueOf_16 : decode cX10_dueOf 16 = .ok (.aload_n 0, 1) := by decide +kernel
theorem dX10_dueOf_17 : decode cX10_dueOf 17 = .ok (.iload_n 2, 1) := by decide +kernel
theorem dX10_dueOf_18 : decode cX10_dueOf 18 = .ok (.invokevirtual 273, 3) := by decide +kernel
theorem dX10_dueOf_21 : decode cX10_dueOf 21 = .ok (.invokevirtual 270, 3) := by decide +kernel
theorem dX10_dueOf_24 : decode cX10_dueOf 24 = .ok (.isub, 1) := by decide +kernel
theorem dX10_dueOf_25 : decode cX10_dueOf 25 = .ok (.istore_n 3, 1) := by decide +kernel
theorem dX10_dueOf_26 : decode cX10_dueOf 26 = .ok (.iload_n 3, 1) := by decide +kernel
theorem dX10_dueOf_27 : decode cX10_dueOf 27 = .ok (.aload_n 0, 1) := by decide +kernel
theorem dX10_dueOf_28 : decode cX10_dueOf 28 = .ok (.iload_n 1, 1) := by decide +kernel
theorem dX10_dueOf_29 : decode cX10_dueOf 29 = .ok (.invokevirtual 148, 3) := by decide +kernel
theorem dX10_dueOf_32 : decode cX10_dueOf 32 = .ok (.if_icmp .ge 12, 3) := by decide +kernel
theorem dX10_dueOf_35 : decode cX10_dueOf 35 = .ok (.aload_n 0, 1) := by decide +kernel
theorem dX10_dueOf_36 : decode cX10_dueOf 36 = .ok (.iload_n 1, 1) := by decide +kernel
theorem dX10_dueOf_37 : decode cX10_dueOf 37 = .ok (.iload_n 3, 1) := by decide +kernel
theorem dX10_dueOf_38 : decode cX10_dueOf 38 = .ok (.invokevirtual 152, 3) := by decide +kernel
theorem dX10_dueOf_41 : decode cX10_dueOf 41 = .ok (.goto 4, 3) := by decide +kernel
theorem dX10_dueOf_44 : decode cX10_dueOf 44 = .ok (.iconst (-1), 1) := by decide +kernel
theorem dX10_dueOf_45 : decode cX10_dueOf 45 = .ok (.ireturn, 1) := by decide +kernel
theorem dX10_hangsRows_0 : decode cX10_hangsRows 0 = .ok (.aload_n 0, 1) := by decide +kernel
theorem dX10_hangsRows_1 : decode cX10_hangsRows 1 = .ok (.iconst 0, 1) := by decide +kernel
theorem dX10_hangsRows_2 : decode cX10_hangsRows 2 = .ok (.putfield 276, 3) := by decide +kernel
theorem dX10_hangsRows_5 : decode cX10_hangsRows 5 = .ok (.aload_n 0, 1) := by decide +kernel
theorem dX10_hangsRows_6 : decode cX10_hangsRows 6 = .ok (.iconst 0, 1) := by decide +kernel
theorem dX10_hangsRows_7 : decode cX10_hangsRows 7 = .ok (.putfield 279, 3) := by decide +kernel
theorem dX10_hangsRows_10 : decode cX10_hangsRows 10 = .ok (.aload_n 0, 1) := by decide +kernel
theorem dX10_hangsRows_11 : decode cX10_hangsRows 11 = .ok (.iconst (-1), 1) := by decide +kernel
theorem dX10_hangsRows_12 : decode cX10_hangsRows 12 = .ok (.putfield 282, 3) := by decide +kernel
theorem dX10_hangsRows_15 : decode cX10_hangsRows 15 = .ok (.iconst 0, 1) := by decide +kernel
theorem dX10_hangsRows_16 : decode cX10_hangsRows 16 = .ok (.istore_n 2, 1) := by decide +kernel
theorem dX10_hangsRows_17 : decode cX10_hangsRows 17 = .ok (.iload_n 2, 1) := by decide +kernel
theorem dX10_hangsRows_18 : decode cX10_hangsRows 18 = .ok (.aload_n 0, 1) := by decide +kernel
theorem dX10_hangsRows_19 : decode cX10_hangsRows 19 = .ok (.invokevirtual 285, 3) := by decide +kernel
theorem dX10_hangsRows_22 : decode cX10_hangsRows 22 = .ok (.if_icmp .ge 97, 3) := by decide +kernel
theorem dX10_hangsRows_25 : decode cX10_hangsRows 25 = .ok (.aload_n 0, 1) := by decide +kernel
theorem dX10_hangsRows_26 : decode cX10_hangsRows 26 = .ok (.iload_n 1, 1) := by decide +kernel
theorem dX10_hangsRows_27 : decode cX10_hangsRows 27 = .ok (.iload_n 2, 1) := by decide +kernel
theorem dX10_hangsRows_28 : decode cX10_hangsRows 28 = .ok (.invokevirtual 288, 3) := by decide +kernel
theorem dX10_hangsRows_31 : decode cX10_hangsRows 31 = .ok (.istore_n 3, 1) := by decide +kernel
theorem dX10_hangsRows_32 : decode cX10_hangsRows 32 = .ok (.iload_n 3, 1) := by decide +kernel
theorem dX10_hangsRows_33 : decode cX10_hangsRows 33 = .ok (.iconst (-1), 1) := by decide +kernel
theorem dX10_hangsRows_34 : decode cX10_hangsRows 34 = .ok (.if_icmp .ne 6, 3) := by decide +kernel
theorem dX10_hangsRows_37 : decode cX10_hangsRows 37 = .ok (.goto 76, 3) := by decide +kernel
theorem dX10_hangsRows_40 : decode cX10_hangsRows 40 = .ok (.aload_n 0, 1) := by decide +kernel
theorem dX10_hangsRows_41 : decode cX10_hangsRows 41 = .ok (.iload_n 3, 1) := by decide +kernel
theorem dX10_hangsRows_42 : decode cX10_hangsRows 42 = .ok (.iconst 1, 1) := by decide +kernel
theorem dX10_hangsRows_43 : decode cX10_hangsRows 43 = .ok (.invokevirtual 291, 3) := by decide +kernel
theorem dX10_hangsRows_46 : decode cX10_hangsRows 46 = .ok (.aload_n 0, 1) := by decide +kernel
theorem dX10_hangsRows_47 : decode cX10_hangsRows 47 = .ok (.invokevirtual 294, 3) := by decide +kernel
theorem dX10_hangsRows_50 : decode cX10_hangsRows 50 = .ok (.ifCond .ne 27, 3) := by decide +kernel
theorem dX10_hangsRows_53 : decode cX10_hangsRows 53 = .ok (.aload_n 0, 1) := by decide +kernel
theorem dX10_hangsRows_54 : decode cX10_hangsRows 54 = .ok (.getfield 9, 3) := by decide +kernel
theorem dX10_hangsRows_57 : decode cX10_hangsRows 57 = .ok (.sipush 438, 3) := by decide +kernel
theorem dX10_hangsRows_60 : decode cX10_hangsRows 60 = .ok (.iload_n 2, 1) := by decide +kernel
theorem dX10_hangsRows_61 : decode cX10_hangsRows 61 = .ok (.iadd, 1) := by decide +kernel
theorem dX10_hangsRows_62 : decode cX10_hangsRows 62 = .ok (.iload_n 3, 1) := by decide +kernel
theorem dX10_hangsRows_63 : decode cX10_hangsRows 63 = .ok (.iastore, 1) := by decide +kernel
theorem dX10_hangsRows_64 : decode cX10_hangsRows 64 = .ok (.aload_n 0, 1) := by decide +kernel
theorem dX10_hangsRows_65 : decode cX10_hangsRows 65 = .ok (.dup, 1) := by decide +kernel
theorem dX10_hangsRows_66 : decode cX10_hangsRows 66 = .ok (.getfield 276, 3) := by decide +kernel
theorem dX10_hangsRows_69 : decode cX10_hangsRows 69 = .ok (.iconst 1, 1) := by decide +kernel
theorem dX10_hangsRows_70 : decode cX10_hangsRows 70 = .ok (.iadd, 1) := by decide +kernel
theorem dX10_hangsRows_71 : decode cX10_hangsRows 71 = .ok (.putfield 276, 3) := by decide +kernel
theorem dX10_hangsRows_74 : decode cX10_hangsRows 74 = .ok (.goto 39, 3) := by decide +kernel
theorem dX10_hangsRows_77 : decode cX10_hangsRows 77 = .ok (.aload_n 0, 1) := by decide +kernel
theorem dX10_hangsRows_78 : decode cX10_hangsRows 78 = .ok (.iload_n 3, 1) := by decide +kernel
theorem dX10_hangsRows_79 : decode cX10_hangsRows 79 = .ok (.iconst (-1), 1) := by decide +kernel
theorem dX10_hangsRows_80 : decode cX10_hangsRows 80 = .ok (.invokevirtual 291, 3) := by decide +kernel
theorem dX10_hangsRows_83 : decode cX10_hangsRows 83 = .ok (.aload_n 0, 1) := by decide +kernel
theorem dX10_hangsRows_84 : decode cX10_hangsRows 84 = .ok (.dup, 1) := by decide +kernel
theorem dX10_hangsRows_85 : decode cX10_hangsRows 85 = .ok (.getfield 279, 3) := by decide +kernel
theorem dX10_hangsRows_88 : decode cX10_hangsRows 88 = .ok (.iconst 1, 1) := by decide +kernel
theorem dX10_hangsRows_89 : decode cX10_hangsRows 89 = .ok (.iadd, 1) := by decide +kernel
theorem dX10_hangsRows_90 : decode cX10_hangsRows 90 = .ok (.putfield 279, 3) := by decide +kernel
theorem dX10_hangsRows_93 : decode cX10_hangsRows 93 = .ok (.aload_n 0, 1) := by decide +kernel
theorem dX10_hangsRows_94 : decode cX10_hangsRows 94 = .ok (.aload_n 0, 1) := by decide +kernel
theorem dX10_hangsRows_95 : decode cX10_hangsRows 95 = .ok (.getfield 282, 3) := by decide +kernel
theorem dX10_hangsRows_98 : decode cX10_hangsRows 98 = .ok (.iconst (-1), 1) := by decide +kernel
theorem dX10_hangsRows_99 : decode cX10_hangsRows 99 = .ok (.if_icmp .ne 7, 3) := by decide +kernel
theorem dX10_hangsRows_102 : decode cX10_hangsRows 102 = .ok (.iload_n 2, 1) := by decide +kernel
theorem dX10_hangsRows_103 : decode cX10_hangsRows 103 = .ok (.goto 7, 3) := by decide +kernel
theorem dX10_hangsRows_106 : decode cX10_hangsRows 106 = .ok (.aload_n 0, 1) := by decide +kernel
theorem dX10_hangsRows_107 : decode cX10_hangsRows 107 = .ok (.getfield 282, 3) := by decide +kernel
theorem dX10_hangsRows_110 : decode cX10_hangsRows 110 = .ok (.putfield 282, 3) := by decide +kernel
theorem dX10_hangsRows_113 : decode cX10_hangsRows 113 = .ok (.iinc 2 1, 3) := by decide +kernel
theorem dX10_hangsRows_116 : decode cX10_hangsRows 116 = .ok (.goto (-99), 3) := by decide +kernel
theorem dX10_hangsRows_119 : decode cX10_hangsRows 119 = .ok (.return_, 1) := by decide +kernel
theorem dX10_dueDigit_0 : decode cX10_dueDigit 0 = .ok (.aload_n 0, 1) := by decide +kernel
theorem dX10_dueDigit_1 : decode cX10_dueDigit 1 = .ok (.getfield 9, 3) := by decide +kernel
theorem dX10_dueDigit_4 : decode cX10_dueDigit 4 = .ok (.sipush 438, 3) := by decide +kernel
theorem dX10_dueDigit_7 : decode cX10_dueDigit 7 = .ok (.iload_n 1, 1) := by decide +kernel
theorem dX10_dueDigit_8 : decode cX10_dueDigit 8 = .ok (.iconst 3, 1) := by decide +kernel
theorem dX10_dueDigit_9 : decode cX10_dueDigit 9 = .ok (.idiv, 1) := by decide +kernel
theorem dX10_dueDigit_10 : decode cX10_dueDigit 10 = .ok (.iadd, 1) := by decide +kernel
theorem dX10_dueDigit_11 : decode cX10_dueDigit 11 = .ok (.iaload, 1) := by decide +kernel
theorem dX10_dueDigit_12 : decode cX10_dueDigit 12 = .ok (.istore_n 2, 1) := by decide +kernel
theorem dX10_dueDigit_13 : decode cX10_dueDigit 13 = .ok (.iload_n 2, 1) := by decide +kernel
theorem dX10_dueDigit_14 : decode cX10_dueDigit 14 = .ok (.iconst (-1), 1) := by decide +kernel
theorem dX10_dueDigit_15 : decode cX10_dueDigit 15 = .ok (.if_icmp .ne 5, 3) := by decide +kernel
theorem dX10_dueDigit_18 : decode cX10_dueDigit 18 = .ok (.iconst (-1), 1) := by decide +kernel
theorem dX10_dueDigit_19 : decode cX10_dueDigit 19 = .ok (.ireturn, 1) := by decide +kernel
theorem dX10_dueDigit_20 : decode cX10_dueDigit 20 = .ok (.iload_n 1, 1) := by decide +kernel
theorem dX10_dueDigit_21 : decode cX10_dueDigit 21 = .ok (.iconst 3, 1) := by decide +kernel
theorem dX10_dueDigit_22 : decode cX10_dueDigit 22 = .ok (.irem, 1) := by decide +kernel
theorem dX10_dueDigit_23 : decode cX10_dueDigit 23 = .ok (.istore_n 3, 1) := by decide +kernel
theorem dX10_dueDigit_24 : decode cX10_dueDigit 24 = .ok (.iload_n 3, 1) := by decide +kernel
theorem dX10_dueDigit_25 : decode cX10_dueDigit 25 = .ok (.ifCond .ne 8, 3) := by decide +kernel
theorem dX10_dueDigit_28 : decode cX10_dueDigit 28 = .ok (.bipush 100, 2) := by decide +kernel
theorem dX10_dueDigit_30 : decode cX10_dueDigit 30 = .ok (.goto 14, 3) := by decide +kernel
theorem dX10_dueDigit_33 : decode cX10_dueDigit 33 = .ok (.iload_n 3, 1) := by decide +kernel
theorem dX10_dueDigit_34 : decode cX10_dueDigit 34 = .ok (.iconst 1, 1) := by decide +kernel
theorem dX10_dueDigit_35 : decode cX10_dueDigit 35 = .ok (.if_icmp .ne 8, 3) := by decide +kernel
theorem dX10_dueDigit_38 : decode cX10_dueDigit 38 = .ok (.bipush 10, 2) := by decide +kernel
theorem dX10_dueDigit_40 : decode cX10_dueDigit 40 = .ok (.goto 4, 3) := by decide +kernel
theorem dX10_dueDigit_43 : decode cX10_dueDigit 43 = .ok (.iconst 1, 1) := by decide +kernel
theorem dX10_dueDigit_44 : decode cX10_dueDigit 44 = .ok (.istore 4, 2) := by decide +kernel
theorem dX10_dueDigit_46 : decode cX10_dueDigit 46 = .ok (.iload_n 2, 1) := by decide +kernel
theorem dX10_dueDigit_47 : decode cX10_dueDigit 47 = .ok (.iload 4, 2) := by decide +kernel
theorem dX10_dueDigit_49 : decode cX10_dueDigit 49 = .ok (.if_icmp .ge 7, 3) := by decide +kernel
theorem dX10_dueDigit_52 : decode cX10_dueDigit 52 = .ok (.iconst (-1), 1) := by decide +kernel
theorem dX10_dueDigit_53 : decode cX10_dueDigit 53 = .ok (.goto 10, 3) := by decide +kernel
theorem dX10_dueDigit_56 : decode cX10_dueDigit 56 = .ok (.iload_n 2, 1) := by decide +kernel
theorem dX10_dueDigit_57 : decode cX10_dueDigit 57 = .ok (.iload 4, 2) := by decide +kernel
theorem dX10_dueDigit_59 : decode cX10_dueDigit 59 = .ok (.idiv, 1) := by decide +kernel
theorem dX10_dueDigit_60 : decode cX10_dueDigit 60 = .ok (.bipush 10, 2) := by decide +kernel
theorem dX10_dueDigit_62 : decode cX10_dueDigit 62 = .ok (.irem, 1) := by decide +kernel
theorem dX10_dueDigit_63 : decode cX10_dueDigit 63 = .ok (.ireturn, 1) := by decide +kernel
theorem dX10_gives_0 : decode cX10_gives 0 = .ok (.aload_n 0, 1) := by decide +kernel
theorem dX10_gives_1 : decode cX10_gives 1 = .ok (.iload_n 3, 1) := by decide +kernel
theorem dX10_gives_2 : decode cX10_gives 2 = .ok (.iload_n 2, 1) := by decide +kernel
theorem dX10_gives_3 : decode cX10_gives 3 = .ok (.invokevirtual 258, 3) := by decide +kernel
theorem dX10_gives_6 : decode cX10_gives 6 = .ok (.istore 4, 2) := by decide +kernel
theorem dX10_gives_8 : decode cX10_gives 8 = .ok (.aload_n 0, 1) := by decide +kernel
theorem dX10_gives_9 : decode cX10_gives 9 = .ok (.getfield 46, 3) := by decide +kernel
theorem dX10_gives_12 : decode cX10_gives 12 = .ok (.iload_n 3, 1) := by decide +kernel
theorem dX10_gives_13 : decode cX10_gives 13 = .ok (.iaload, 1) := by decide +kernel
theorem dX10_gives_14 : decode cX10_gives 14 = .ok (.ifCond .eq 9, 3) := by decide +kernel
theorem dX10_gives_17 : decode cX10_gives 17 = .ok (.iload 4, 2) := by decide +kernel
theorem dX10_gives_19 : decode cX10_gives 19 = .ok (.iconst (-1), 1) := by decide +kernel
theorem dX10_gives_20 : decode cX10_gives 20 = .ok (.if_icmp .ne 5, 3) := by decide +kernel
theorem dX10_gives_23 : decode cX10_gives 23 = .ok (.iconst 0, 1) := by decide +kernel
theorem dX10_gives_24 : decode cX10_gives 24 = .ok (.ireturn, 1) := by decide +kernel
theorem dX10_gives_25 : decode cX10_gives 25 = .ok (.aload_n 0, 1) := by decide +kernel
theorem dX10_gives_26 : decode cX10_gives 26 = .ok (.iload_n 3, 1) := by decide +kernel
theorem dX10_gives_27 : decode cX10_gives 27 = .ok (.invokevirtual 264, 3) := by decide +kernel
theorem dX10_gives_30 : decode cX10_gives 30 = .ok (.istore 5, 2) := by decide +kernel
theorem dX10_gives_32 : decode cX10_gives 32 = .ok (.aload_n 0, 1) := by decide +kernel
theorem dX10_gives_33 : decode cX10_gives 33 = .ok (.iload 5, 2) := by decide +kernel
theorem dX10_gives_35 : decode cX10_gives 35 = .ok (.iconst (-1), 1) := by decide +kernel
theorem dX10_gives_36 : decode cX10_gives 36 = .ok (.invokevirtual 267, 3) := by decide +kernel
theorem dX10_gives_39 : decode cX10_gives 39 = .ok (.aload_n 0, 1) := by decide +kernel
theorem dX10_gives_40 : decode cX10_gives 40 = .ok (.invokevirtual 294, 3) := by decide +kernel
theorem dX10_gives_43 : decode cX10_gives 43 = .ok (.ifCond .le 12, 3) := by decide +kernel
theorem dX10_gives_46 : decode cX10_gives 46 = .ok (.aload_n 0, 1) := by decide +kernel
theorem dX10_gives_47 : decode cX10_gives 47 = .ok (.iload 5, 2) := by decide +kernel
theorem dX10_gives_49 : decode cX10_gives 49 = .ok (.iconst 1, 1) := by decide +kernel
theorem dX10_gives_50 : decode cX10_gives 50 = .ok (.invokevirtual 267, 3) := by decide +kernel
theorem dX10_gives_53 : decode cX10_gives 53 = .ok (.iconst 0, 1) := by decide +kernel
theorem dX10_gives_54 : decode cX10_gives 54 = .ok (.ireturn, 1) := by decide +kernel
theorem dX10_gives_55 : decode cX10_gives 55 = .ok (.aload_n 0, 1) := by decide +kernel
theorem dX10_gives_56 : decode cX10_gives 56 = .ok (.getfield 46, 3) := by decide +kernel
theorem dX10_gives_59 : decode cX10_gives 59 = .ok (.iload_n 3, 1) := by decide +kernel
theorem dX10_gives_60 : decode cX10_gives 60 = .ok (.dup2, 1) := by decide +kernel
theorem dX10_gives_61 : decode cX10_gives 61 = .ok (.iaload, 1) := by decide +kernel
theorem dX10_gives_62 : decode cX10_gives 62 = .ok (.iconst 1, 1) := by decide +kernel
theorem dX10_gives_63 : decode cX10_gives 63 = .ok (.isub, 1) := by decide +kernel
theorem dX10_gives_64 : decode cX10_gives 64 = .ok (.iastore, 1) := by decide +kernel
theorem dX10_gives_65 : decode cX10_gives 65 = .ok (.aload_n 0, 1) := by decide +kernel
theorem dX10_gives_66 : decode cX10_gives 66 = .ok (.getfield 9, 3) := by decide +kernel
theorem dX10_gives_69 : decode cX10_gives 69 = .ok (.iload_n 1, 1) := by decide +kernel
theorem dX10_gives_70 : decode cX10_gives 70 = .ok (.iconst 0, 1) := by decide +kernel
theorem dX10_gives_71 : decode cX10_gives 71 = .ok (.invokestatic 234, 3) := by decide +kernel
theorem dX10_gives_74 : decode cX10_gives 74 = .ok (.iload_n 2, 1) := by decide +kernel
theorem dX10_gives_75 : decode cX10_gives 75 = .ok (.iastore, 1) := by decide +kernel
theorem dX10_gives_76 : decode cX10_gives 76 = .ok (.aload_n 0, 1) := by decide +kernel
theorem dX10_gives_77 : decode cX10_gives 77 = .ok (.getfield 9, 3) := by decide +kernel
theorem dX10_gives_80 : decode cX10_gives 80 = .ok (.iload_n 1, 1) := by decide +kernel
theorem dX10_gives_81 : decode cX10_gives 81 = .ok (.iconst 1, 1) := by decide +kernel
theorem dX10_gives_82 : decode cX10_gives 82 = .ok (.invokestatic 234, 3) := by decide +kernel
theorem dX10_gives_85 : decode cX10_gives 85 = .ok (.iload_n 3, 1) := by decide +kernel
theorem dX10_gives_86 : decode cX10_gives 86 = .ok (.iastore, 1) := by decide +kernel
theorem dX10_gives_87 : decode cX10_gives 87 = .ok (.aload_n 0, 1) := by decide +kernel
theorem dX10_gives_88 : decode cX10_gives 88 = .ok (.getfield 9, 3) := by decide +kernel
theorem dX10_gives_91 : decode cX10_gives 91 = .ok (.iload_n 1, 1) := by decide +kernel
theorem dX10_gives_92 : decode cX10_gives 92 = .ok (.iconst 2, 1) := by decide +kernel
theorem dX10_gives_93 : decode cX10_gives 93 = .ok (.invokestatic 234, 3) := by decide +kernel
theorem dX10_gives_96 : decode cX10_gives 96 = .ok (.iload 4, 2) := by decide +kernel
theorem dX10_gives_98 : decode cX10_gives 98 = .ok (.iastore, 1) := by decide +kernel
theorem dX10_gives_99 : decode cX10_gives 99 = .ok (.iconst 1, 1) := by decide +kernel
theorem dX10_gives_100 : decode cX10_gives 100 = .ok (.ireturn, 1) := by decide +kernel
theorem dX10_hangsPlaces_0 : decode cX10_hangsPlaces 0 = .ok (.iconst 0, 1) := by decide +kernel
theorem dX10_hangsPlaces_1 : decode cX10_hangsPlaces 1 = .ok (.istore_n 1, 1) := by decide +kernel
theorem dX10_hangsPlaces_2 : decode cX10_hangsPlaces 2 = .ok (.iload_n 1, 1) := by decide +kernel
theorem dX10_hangsPlaces_3 : decode cX10_hangsPlaces 3 = .ok (.iconst 3, 1) := by decide +kernel
theorem dX10_hangsPlaces_4 : decode cX10_hangsPlaces 4 = .ok (.aload_n 0, 1) := by decide +kernel
theorem dX10_hangsPlaces_5 : decode cX10_hangsPlaces 5 = .ok (.invokevirtual 285, 3) := by decide +kernel
theorem dX10_hangsPlaces_8 : decode cX10_hangsPlaces 8 = .ok (.imul, 1) := by decide +kernel
theorem dX10_hangsPlaces_9 : decode cX10_hangsPlaces 9 = .ok (.if_icmp .ge 47, 3) := by decide +kernel
theorem dX10_hangsPlaces_12 : decode cX10_hangsPlaces 12 = .ok (.aload_n 0, 1) := by decide +kernel
theorem dX10_hangsPlaces_13 : decode cX10_hangsPlaces 13 = .ok (.iload_n 1, 1) := by decide +kernel
theorem dX10_hangsPlaces_14 : decode cX10_hangsPlaces 14 = .ok (.invokevirtual 297, 3) := by decide +kernel
theorem dX10_hangsPlaces_17 : decode cX10_hangsPlaces 17 = .ok (.istore_n 2, 1) := by decide +kernel
theorem dX10_hangsPlaces_18 : decode cX10_hangsPlaces 18 = .ok (.iload_n 2, 1) := by decide +kernel
theorem dX10_hangsPlaces_19 : decode cX10_hangsPlaces 19 = .ok (.iconst (-1), 1) := by decide +kernel
theorem dX10_hangsPlaces_20 : decode cX10_hangsPlaces 20 = .ok (.if_icmp .ne 6, 3) := by decide +kernel
theorem dX10_hangsPlaces_23 : decode cX10_hangsPlaces 23 = .ok (.goto 27, 3) := by decide +kernel
theorem dX10_hangsPlaces_26 : decode cX10_hangsPlaces 26 = .ok (.aload_n 0, 1) := by decide +kernel
theorem dX10_hangsPlaces_27 : decode cX10_hangsPlaces 27 = .ok (.iload_n 2, 1) := by decide +kernel
theorem dX10_hangsPlaces_28 : decode cX10_hangsPlaces 28 = .ok (.iconst (-1), 1) := by decide +kernel
theorem dX10_hangsPlaces_29 : decode cX10_hangsPlaces 29 = .ok (.invokevirtual 261, 3) := by decide +kernel
theorem dX10_hangsPlaces_32 : decode cX10_hangsPlaces 32 = .ok (.iconst 0, 1) := by decide +kernel
theorem dX10_hangsPlaces_33 : decode cX10_hangsPlaces 33 = .ok (.istore_n 3, 1) := by decide +kernel
theorem dX10_hangsPlaces_34 : decode cX10_hangsPlaces 34 = .ok (.aload_n 0, 1) := by decide +kernel
theorem dX10_hangsPlaces_35 : decode cX10_hangsPlaces 35 = .ok (.iload_n 1, 1) := by decide +kernel
theorem dX10_hangsPlaces_36 : decode cX10_hangsPlaces 36 = .ok (.iload_n 2, 1) := by decide +kernel
theorem dX10_hangsPlaces_37 : decode cX10_hangsPlaces 37 = .ok (.iload_n 3, 1) := by decide +kernel
theorem dX10_hangsPlaces_38 : decode cX10_hangsPlaces 38 = .ok (.invokevirtual 300, 3) := by decide +kernel
theorem dX10_hangsPlaces_41 : decode cX10_hangsPlaces 41 = .ok (.ifCond .ne 9, 3) := by decide +kernel
theorem dX10_hangsPlaces_44 : decode cX10_hangsPlaces 44 = .ok (.iinc 3 1, 3) := by decide +kernel
theorem dX10_hangsPlaces_47 : decode cX10_hangsPlaces 47 = .ok (.goto (-13), 3) := by decide +kernel
theorem dX10_hangsPlaces_50 : decode cX10_hangsPlaces 50 = .ok (.iinc 1 1, 3) := by decide +kernel
theorem dX10_hangsPlaces_53 : decode cX10_hangsPlaces 53 = .ok (.goto (-51), 3) := by decide +kernel
theorem dX10_hangsPlaces_56 : decode cX10_hangsPlaces 56 = .ok (.return_, 1) := by decide +kernel
theorem dX10_workOf_0 : decode cX10_workOf 0 = .ok (.iload_n 0, 1) := by decide +kernel
theorem dX10_workOf_1 : decode cX10_workOf 1 = .ok (.iload_n 1, 1) := by decide +kernel
theorem dX10_workOf_2 : decode cX10_workOf 2 = .ok (.if_icmp .ne 7, 3) := by decide +kernel
theorem dX10_workOf_5 : decode cX10_workOf 5 = .ok (.iconst 0, 1) := by decide +kernel
theorem dX10_workOf_6 : decode cX10_workOf 6 = .ok (.goto 24, 3) := by decide +kernel
theorem dX10_workOf_9 : decode cX10_workOf 9 = .ok (.iload_n 0, 1) := by decide +kernel
theorem dX10_workOf_10 : decode cX10_workOf 10 = .ok (.iconst (-1), 1) := by decide +kernel
theorem dX10_workOf_11 : decode cX10_workOf 11 = .ok (.if_icmp .ne 7, 3) := by decide +kernel
theorem dX10_workOf_14 : decode cX10_workOf 14 = .ok (.iconst 0, 1) := by decide +kernel
theorem dX10_workOf_15 : decode cX10_workOf 15 = .ok (.goto 4, 3) := by decide +kernel
theorem dX10_workOf_18 : decode cX10_workOf 18 = .ok (.iconst 1, 1) := by decide +kernel
theorem dX10_workOf_19 : decode cX10_workOf 19 = .ok (.iload_n 1, 1) := by decide +kernel
theorem dX10_workOf_20 : decode cX10_workOf 20 = .ok (.iconst (-1), 1) := by decide +kernel
theorem dX10_workOf_21 : decode cX10_workOf 21 = .ok (.if_icmp .ne 7, 3) := by decide +kernel
theorem dX10_workOf_24 : decode cX10_workOf 24 = .ok (.iconst 0, 1) := by decide +kernel
theorem dX10_workOf_25 : decode cX10_workOf 25 = .ok (.goto 4, 3) := by decide +kernel
theorem dX10_workOf_28 : decode cX10_workOf 28 = .ok (.iconst 1, 1) := by decide +kernel
theorem dX10_workOf_29 : decode cX10_workOf 29 = .ok (.iadd, 1) := by decide +kernel
theorem dX10_workOf_30 : decode cX10_workOf 30 = .ok (.ireturn, 1) := by decide +kernel
theorem dX10_hangsService_0 : decode cX10_hangsService 0 = .ok (.iconst 0, 1) := by decide +kernel
theorem dX10_hangsService_1 : decode cX10_hangsService 1 = .ok (.istore_n 2, 1) := by decide +kernel
theorem dX10_hangsService_2 : decode cX10_hangsService 2 = .ok (.iload_n 2, 1) := by decide +kernel
theorem dX10_hangsService_3 : decode cX10_hangsService 3 = .ok (.bipush 54, 2) := by decide +kernel
theorem dX10_hangsService_5 : decode cX10_hangsService 5 = .ok (.if_icmp .ge 25, 3) := by decide +kernel
theorem dX10_hangsService_8 : decode cX10_hangsService 8 = .ok (.aload_n 0, 1) := by decide +kernel
theorem dX10_hangsService_9 : decode cX10_hangsService 9 = .ok (.getfield 49, 3) := by decide +kernel
theorem dX10_hangsService_12 : decode cX10_hangsService 12 = .ok (.iload_n 2, 1) := by decide +kernel
theorem dX10_hangsService_13 : decode cX10_hangsService 13 = .ok (.aload_n 0, 1) := by decide +kernel
theorem dX10_hangsService_14 : decode cX10_hangsService 14 = .ok (.getfield 9, 3) := by decide +kernel
theorem dX10_hangsService_17 : decode cX10_hangsService 17 = .ok (.iload_n 2, 1) := by decide +kernel
theorem dX10_hangsService_18 : decode cX10_hangsService 18 = .ok (.iconst 0, 1) := by decide +kernel
theorem dX10_hangsService_19 : decode cX10_hangsService 19 = .ok (.invokestatic 234, 3) := by decide +kernel
theorem dX10_hangsService_22 : decode cX10_hangsService 22 = .ok (.iaload, 1) := by decide +kernel
theorem dX10_hangsService_23 : decode cX10_hangsService 23 = .ok (.iastore, 1) := by decide +kernel
theorem dX10_hangsService_24 : decode cX10_hangsService 24 = .ok (.iinc 2 1, 3) := by decide +kernel
theorem dX10_hangsService_27 : decode cX10_hangsService 27 = .ok (.goto (-25), 3) := by decide +kernel
theorem dX10_hangsService_30 : decode cX10_hangsService 30 = .ok (.aload_n 0, 1) := by decide +kernel
theorem dX10_hangsService_31 : decode cX10_hangsService 31 = .ok (.invokevirtual 61, 3) := by decide +kernel
theorem dX10_hangsService_34 : decode cX10_hangsService 34 = .ok (.aload_n 0, 1) := by decide +kernel
theorem dX10_hangsService_35 : decode cX10_hangsService 35 = .ok (.iconst 0, 1) := by decide +kernel
theorem dX10_hangsService_36 : decode cX10_hangsService 36 = .ok (.invokevirtual 303, 3) := by decide +kernel
theorem dX10_hangsService_39 : decode cX10_hangsService 39 = .ok (.aload_n 0, 1) := by decide +kernel
theorem dX10_hangsService_40 : decode cX10_hangsService 40 = .ok (.iload_n 1, 1) := by decide +kernel
theorem dX10_hangsService_41 : decode cX10_hangsService 41 = .ok (.invokevirtual 307, 3) := by decide +kernel
theorem dX10_hangsService_44 : decode cX10_hangsService 44 = .ok (.aload_n 0, 1) := by decide +kernel
theorem dX10_hangsService_45 : decode cX10_hangsService 45 = .ok (.invokevirtual 310, 3) := by decide +kernel
theorem dX10_hangsService_48 : decode cX10_hangsService 48 = .ok (.aload_n 0, 1) := by decide +kernel
theorem dX10_hangsService_49 : decode cX10_hangsService 49 = .ok (.getfield 9, 3) := by decide +kernel
theorem dX10_hangsService_52 : decode cX10_hangsService 52 = .ok (.bipush 7, 2) := by decide +kernel
theorem dX10_hangsService_54 : decode cX10_hangsService 54 = .ok (.iload_n 1, 1) := by decide +kernel
theorem dX10_hangsService_55 : decode cX10_hangsService 55 = .ok (.iastore, 1) := by decide +kernel
theorem dX10_hangsService_56 : decode cX10_hangsService 56 = .ok (.aload_n 0, 1) := by decide +kernel
theorem dX10_hangsService_57 : decode cX10_hangsService 57 = .ok (.getfield 9, 3) := by decide +kernel
theorem dX10_hangsService_60 : decode cX10_hangsService 60 = .ok (.bipush 10, 2) := by decide +kernel
theorem dX10_hangsService_62 : decode cX10_hangsService 62 = .ok (.dup2, 1) := by decide +kernel
theorem dX10_hangsService_63 : decode cX10_hangsService 63 = .ok (.iaload, 1) := by decide +kernel
theorem dX10_hangsService_64 : decode cX10_hangsService 64 = .ok (.aload_n 0, 1) := by decide +kernel
theorem dX10_hangsService_65 : decode cX10_hangsService 65 = .ok (.getfield 276, 3) := by decide +kernel
theorem dX10_hangsService_68 : decode cX10_hangsService 68 = .ok (.iadd, 1) := by decide +kernel
theorem dX10_hangsService_69 : decode cX10_hangsService 69 = .ok (.iastore, 1) := by decide +kernel
theorem dX10_hangsService_70 : decode cX10_hangsService 70 = .ok (.aload_n 0, 1) := by decide +kernel
theorem dX10_hangsService_71 : decode cX10_hangsService 71 = .ok (.getfield 9, 3) := by decide +kernel
theorem dX10_hangsService_74 : decode cX10_hangsService 74 = .ok (.bipush 11, 2) := by decide +kernel
theorem dX10_hangsService_76 : decode cX10_hangsService 76 = .ok (.dup2, 1) := by decide +kernel
theorem dX10_hangsService_77 : decode cX10_hangsService 77 = .ok (.iaload, 1) := by decide +kernel
theorem dX10_hangsService_78 : decode cX10_hangsService 78 = .ok (.aload_n 0, 1) := by decide +kernel
theorem dX10_hangsService_79 : decode cX10_hangsService 79 = .ok (.getfield 279, 3) := by decide +kernel
theorem dX10_hangsService_82 : decode cX10_hangsService 82 = .ok (.iadd, 1) := by decide +kernel
theorem dX10_hangsService_83 : decode cX10_hangsService 83 = .ok (.iastore, 1) := by decide +kernel
theorem dX10_hangsService_84 : decode cX10_hangsService 84 = .ok (.aload_n 0, 1) := by decide +kernel
theorem dX10_hangsService_85 : decode cX10_hangsService 85 = .ok (.iconst 0, 1) := by decide +kernel
theorem dX10_hangsService_86 : decode cX10_hangsService 86 = .ok (.putfield 313, 3) := by decide +kernel
theorem dX10_hangsService_89 : decode cX10_hangsService 89 = .ok (.iconst 0, 1) := by decide +kernel
theorem dX10_hangsService_90 : decode cX10_hangsService 90 = .ok (.istore_n 2, 1) := by decide +kernel
theorem dX10_hangsService_91 : decode cX10_hangsService 91 = .ok (.iload_n 2, 1) := by decide +kernel
theorem dX10_hangsService_92 : decode cX10_hangsService 92 = .ok (.bipush 54, 2) := by decide +kernel
theorem dX10_hangsService_94 : decode cX10_hangsService 94 = .ok (.if_icmp .ge 37, 3) := by decide +kernel
theorem dX10_hangsService_97 : decode cX10_hangsService 97 = .ok (.aload_n 0, 1) := by decide +kernel
theorem dX10_hangsService_98 : decode cX10_hangsService 98 = .ok (.dup, 1) := by decide +kernel
theorem dX10_hangsService_99 : decode cX10_hangsService 99 = .ok (.getfield 313, 3) := by decide +kernel
theorem dX10_hangsService_102 : decode cX10_hangsService 102 = .ok (.aload_n 0, 1) := by decide +kernel
theorem dX10_hangsService_103 : decode cX10_hangsService 103 = .ok (.getfield 49, 3) := by decide +kernel
theorem dX10_hangsService_106 : decode cX10_hangsService 106 = .ok (.iload_n 2, 1) := by decide +kernel
theorem dX10_hangsService_107 : decode cX10_hangsService 107 = .ok (.iaload, 1) := by decide +kernel
theorem dX10_hangsService_108 : decode cX10_hangsService 108 = .ok (.aload_n 0, 1) := by decide +kernel
theorem dX10_hangsService_109 : decode cX10_hangsService 109 = .ok (.getfield 9, 3) := by decide +kernel
theorem dX10_hangsService_112 : decode cX10_hangsService 112 = .ok (.iload_n 2, 1) := by decide +kernel
theorem dX10_hangsService_113 : decode cX10_hangsService 113 = .ok (.iconst 0, 1) := by decide +kernel
theorem dX10_hangsService_114 : decode cX10_hangsService 114 = .ok (.invokestatic 234, 3) := by decide +kernel
theorem dX10_hangsService_117 : decode cX10_hangsService 117 = .ok (.iaload, 1) := by decide +kernel
theorem dX10_hangsService_118 : decode cX10_hangsService 118 = .ok (.invokestatic 316, 3) := by decide +kernel
theorem dX10_hangsService_121 : decode cX10_hangsService 121 = .ok (.iadd, 1) := by decide +kernel
theorem dX10_hangsService_122 : decode cX10_hangsService 122 = .ok (.putfield 313, 3) := by decide +kernel
theorem dX10_hangsService_125 : decode cX10_hangsService 125 = .ok (.iinc 2 1, 3) := by decide +kernel
theorem dX10_hangsService_128 : decode cX10_hangsService 128 = .ok (.goto (-37), 3) := by decide +kernel
theorem dX10_hangsService_131 : decode cX10_hangsService 131 = .ok (.aload_n 0, 1) := by decide +kernel
theorem dX10_hangsService_132 : decode cX10_hangsService 132 = .ok (.getfield 9, 3) := by decide +kernel
theorem dX10_hangsService_135 : decode cX10_hangsService 135 = .ok (.bipush 9, 2) := by decide +kernel
theorem dX10_hangsService_137 : decode cX10_hangsService 137 = .ok (.dup2, 1) := by decide +kernel
theorem dX10_hangsService_138 : decode cX10_hangsService 138 = .ok (.iaload, 1) := by decide +kernel
theorem dX10_hangsService_139 : decode cX10_hangsService 139 = .ok (.aload_n 0, 1) := by decide +kernel
theorem dX10_hangsService_140 : decode cX10_hangsService 140 = .ok (.getfield 313, 3) := by decide +kernel
theorem dX10_hangsService_143 : decode cX10_hangsService 143 = .ok (.iadd, 1) := by decide +kernel
theorem dX10_hangsService_144 : decode cX10_hangsService 144 = .ok (.iastore, 1) := by decide +kernel
theorem dX10_hangsService_145 : decode cX10_hangsService 145 = .ok (.aload_n 0, 1) := by decide +kernel
theorem dX10_hangsService_146 : decode cX10_hangsService 146 = .ok (.getfield 313, 3) := by decide +kernel
theorem dX10_hangsService_149 : decode cX10_hangsService 149 = .ok (.ireturn, 1) := by decide +kernel
theorem dX10_size_0 : decode cX10_size 0 = .ok (.aload_n 0, 1) := by decide +kernel
theorem dX10_size_1 : decode cX10_size 1 = .ok (.iload_n 1, 1) := by decide +kernel
theorem dX10_size_2 : decode cX10_size 2 = .ok (.i2l, 1) := by decide +kernel
theorem dX10_size_3 : decode cX10_size 3 = .ok (.lconst 0, 1) := by decide +kernel
theorem dX10_size_4 : decode cX10_size 4 = .ok (.ldc2_w 319, 3) := by decide +kernel
theorem dX10_size_7 : decode cX10_size 7 = .ok (.invokestatic 92, 3) := by decide +kernel
theorem dX10_size_10 : decode cX10_size 10 = .ok (.ifCond .ne 7, 3) := by decide +kernel
theorem dX10_size_13 : decode cX10_size 13 = .ok (.iconst 1, 1) := by decide +kernel
theorem dX10_size_14 : decode cX10_size 14 = .ok (.goto 4, 3) := by decide +kernel
theorem dX10_size_17 : decode cX10_size 17 = .ok (.iconst 0, 1) := by decide +kernel
theorem dX10_size_18 : decode cX10_size 18 = .ok (.invokevirtual 321, 3) := by decide +kernel
theorem dX10_size_21 : decode cX10_size 21 = .ok (.ifCond .eq 5, 3) := by decide +kernel
theorem dX10_size_24 : decode cX10_size 24 = .ok (.iconst 0, 1) := by decide +kernel
theorem dX10_size_25 : decode cX10_size 25 = .ok (.ireturn, 1) := by decide +kernel
theorem dX10_size_26 : decode cX10_size 26 = .ok (.iload_n 1, 1) := by decide +kernel
theorem dX10_size_27 : decode cX10_size 27 = .ok (.tableswitch 169 0 13 #[69, 76, 81, 88, 95, 102, 109, 116, 124, 132, 137, 145, 153, 161], 69) := by decide +kernel
theorem dX10_size_96 : decode cX10_size 96 = .ok (.aload_n 0, 1) := by decide +kernel
theorem dX10_size_97 : decode cX10_size 97 = .ok (.getfield 9, 3) := by decide +kernel
theorem dX10_size_100 : decode cX10_size 100 = .ok (.iconst 0, 1) := by decide +kernel
theorem dX10_size_101 : decode cX10_size 101 = .ok (.iaload, 1) := by decide +kernel
theorem dX10_size_102 : decode cX10_size 102 = .ok (.ireturn, 1) := by decide +kernel
theorem dX10_size_103 : decode cX10_size 103 = .ok (.aload_n 0, 1) := by decide +kernel
theorem dX10_size_104 : decode cX10_size 104 = .ok (.invokevirtual 285, 3) := by decide +kernel
theorem dX10_size_107 : decode cX10_size 107 = .ok (.ireturn, 1) := by decide +kernel
theorem dX10_size_108 : decode cX10_size 108 = .ok (.aload_n 0, 1) := by decide +kernel
theorem dX10_size_109 : decode cX10_size 109 = .ok (.getfield 9, 3) := by decide +kernel
theorem dX10_size_112 : decode cX10_size 112 = .ok (.iconst 1, 1) := by decide +kernel
theorem dX10_size_113 : decode cX10_size 113 = .ok (.iaload, 1) := by decide +kernel
theorem dX10_size_114 : decode cX10_size 114 = .ok (.ireturn, 1) := by decide +kernel
theorem dX10_size_115 : decode cX10_size 115 = .ok (.aload_n 0, 1) := by decide +kernel
theorem dX10_size_116 : decode cX10_size 116 = .ok (.getfield 9, 3) := by decide +kernel
theorem dX10_size_119 : decode cX10_size 119 = .ok (.iconst 2, 1) := by decide +kernel
theorem dX10_size_120 : decode cX10_size 120 = .ok (.iaload, 1) := by decide +kernel
theorem dX10_size_121 : decode cX10_size 121 = .ok (.ireturn, 1) := by decide +kernel
theorem dX10_size_122 : decode cX10_size 122 = .ok (.aload_n 0, 1) := by decide +kernel
theorem dX10_size_123 : decode cX10_size 123 = .ok (.getfield 9, 3) := by decide +kernel
theorem dX10_size_126 : decode cX10_size 126 = .ok (.iconst 3, 1) := by decide +kernel
theorem dX10_size_127 : decode cX10_size 127 = .ok (.iaload, 1) := by decide +kernel
theorem dX10_size_128 : decode cX10_size 128 = .ok (.ireturn, 1) := by decide +kernel
theorem dX10_size_129 : decode cX10_size 129 = .ok (.aload_n 0, 1) := by decide +kernel
theorem dX10_size_130 : decode cX10_size 130 = .ok (.getfield 9, 3) := by decide +kernel
theorem dX10_size_133 : decode cX10_size 133 = .ok (.iconst 4, 1) := by decide +kernel
theorem dX10_size_134 : decode cX10_size 134 = .ok (.iaload, 1) := by decide +kernel
theorem dX10_size_135 : decode cX10_size 135 = .ok (.ireturn, 1) := by decide +kernel
theorem dX10_size_136 : decode cX10_size 136 = .ok (.aload_n 0, 1) := by decide +kernel
theorem dX10_size_137 : decode cX10_size 137 = .ok (.getfield 9, 3) := by decide +kernel
theorem dX10_size_140 : decode cX10_size 140 = .ok (.iconst 5, 1) := by decide +kernel
theorem dX10_size_141 : decode cX10_size 141 = .ok (.iaload, 1) := by decide +kernel
theorem dX10_size_142 : decode cX10_size 142 = .ok (.ireturn, 1) := by decide +kernel
theorem dX10_size_143 : decode cX10_size 143 = .ok (.aload_n 0, 1) := by decide +kernel
theorem dX10_size_144 : decode cX10_size 144 = .ok (.getfield 9, 3) := by decide +kernel
theorem dX10_size_147 : decode cX10_size 147 = .ok (.bipush 6, 2) := by decide +kernel
theorem dX10_size_149 : decode cX10_size 149 = .ok (.iaload, 1) := by decide +kernel
theorem dX10_size_150 : decode cX10_size 150 = .ok (.ireturn, 1) := by decide +kernel
theorem dX10_size_151 : decode cX10_size 151 = .ok (.aload_n 0, 1) := by decide +kernel
theorem dX10_size_152 : decode cX10_size 152 = .ok (.getfield 9, 3) := by decide +kernel
theorem dX10_size_155 : decode cX10_size 155 = .ok (.bipush 7, 2) := by decide +kernel
theorem dX10_size_157 : decode cX10_size 157 = .ok (.iaload, 1) := by decide +kernel
theorem dX10_size_158 : decode cX10_size 158 = .ok (.ireturn, 1) := by decide +kernel
theorem dX10_size_159 : decode cX10_size 159 = .ok (.aload_n 0, 1) := by decide +kernel
theorem dX10_size_160 : decode cX10_size 160 = .ok (.invokevirtual 325, 3) := by decide +kernel
theorem dX10_size_163 : decode cX10_size 163 = .ok (.ireturn, 1) := by decide +kernel
theorem dX10_size_164 : decode cX10_size 164 = .ok (.aload_n 0, 1) := by decide +kernel
theorem dX10_size_165 : decode cX10_size 165 = .ok (.getfield 9, 3) := by decide +kernel
theorem dX10_size_168 : decode cX10_size 168 = .ok (.bipush 8, 2) := by decide +kernel
theorem dX10_size_170 : decode cX10_size 170 = .ok (.iaload, 1) := by decide +kernel
theorem dX10_size_171 : decode cX10_size 171 = .ok (.ireturn, 1) := by decide +kernel
theorem dX10_size_172 : decode cX10_size 172 = .ok (.aload_n 0, 1) := by decide +kernel
theorem dX10_size_173 : decode cX10_size 173 = .ok (.getfield 9, 3) := by decide +kernel
theorem dX10_size_176 : decode cX10_size 176 = .ok (.bipush 9, 2) := by decide +kernel
theorem dX10_size_178 : decode cX10_size 178 = .ok (.iaload, 1) := by decide +kernel
theorem dX10_size_179 : decode cX10_size 179 = .ok (.ireturn, 1) := by decide +kernel
theorem dX10_size_180 : decode cX10_size 180 = .ok (.aload_n 0, 1) := by decide +kernel
theorem dX10_size_181 : decode cX10_size 181 = .ok (.getfield 9, 3) := by decide +kernel
theorem dX10_size_184 : decode cX10_size 184 = .ok (.bipush 10, 2) := by decide +kernel
theorem dX10_size_186 : decode cX10_size 186 = .ok (.iaload, 1) := by decide +kernel
theorem dX10_size_187 : decode cX10_size 187 = .ok (.ireturn, 1) := by decide +kernel
theorem dX10_size_188 : decode cX10_size 188 = .ok (.aload_n 0, 1) := by decide +kernel
theorem dX10_size_189 : decode cX10_size 189 = .ok (.getfield 9, 3) := by decide +kernel
theorem dX10_size_192 : decode cX10_size 192 = .ok (.bipush 11, 2) := by decide +kernel
theorem dX10_size_194 : decode cX10_size 194 = .ok (.iaload, 1) := by decide +kernel
theorem dX10_size_195 : decode cX10_size 195 = .ok (.ireturn, 1) := by decide +kernel
theorem dX10_size_196 : decode cX10_size 196 = .ok (.aload_n 0, 1) := by decide +kernel
theorem dX10_size_197 : decode cX10_size 197 = .ok (.getfield 64, 3) := by decide +kernel
theorem dX10_size_200 : decode cX10_size 200 = .ok (.ireturn, 1) := by decide +kernel
theorem dX10_isOwnCard_0 : decode cX10_isOwnCard 0 = .ok (.iload_n 1, 1) := by decide +kernel
theorem dX10_isOwnCard_1 : decode cX10_isOwnCard 1 = .ok (.i2l, 1) := by decide +kernel
theorem dX10_isOwnCard_2 : decode cX10_isOwnCard 2 = .ok (.lconst 0, 1) := by decide +kernel
theorem dX10_isOwnCard_3 : decode cX10_isOwnCard 3 = .ok (.aload_n 0, 1) := by decide +kernel
theorem dX10_isOwnCard_4 : decode cX10_isOwnCard 4 = .ok (.getfield 9, 3) := by decide +kernel
theorem dX10_isOwnCard_7 : decode cX10_isOwnCard 7 = .ok (.iconst 3, 1) := by decide +kernel
theorem dX10_isOwnCard_8 : decode cX10_isOwnCard 8 = .ok (.iaload, 1) := by decide +kernel
theorem dX10_isOwnCard_9 : decode cX10_isOwnCard 9 = .ok (.iconst 1, 1) := by decide +kernel
theorem dX10_isOwnCard_10 : decode cX10_isOwnCard 10 = .ok (.isub, 1) := by decide +kernel
theorem dX10_isOwnCard_11 : decode cX10_isOwnCard 11 = .ok (.i2l, 1) := by decide +kernel
theorem dX10_isOwnCard_12 : decode cX10_isOwnCard 12 = .ok (.invokestatic 92, 3) := by decide +kernel
theorem dX10_isOwnCard_15 : decode cX10_isOwnCard 15 = .ok (.ireturn, 1) := by decide +kernel
theorem dX10_isCard_0 : decode cX10_isCard 0 = .ok (.aload_n 0, 1) := by decide +kernel
theorem dX10_isCard_1 : decode cX10_isCard 1 = .ok (.iload_n 1, 1) := by decide +kernel
theorem dX10_isCard_2 : decode cX10_isCard 2 = .ok (.invokevirtual 328, 3) := by decide +kernel
theorem dX10_isCard_5 : decode cX10_isCard 5 = .ok (.ifCond .ne 29, 3) := by decide +kernel
theorem dX10_isCard_8 : decode cX10_isCard 8 = .ok (.iload_n 1, 1) := by decide +kernel
theorem dX10_isCard_9 : decode cX10_isCard 9 = .ok (.i2l, 1) := by decide +kernel
theorem dX10_isCard_10 : decode cX10_isCard 10 = .ok (.ldc2_w 331, 3) := by decide +kernel
theorem dX10_isCard_13 : decode cX10_isCard 13 = .ok (.bipush 100, 2) := by decide +kernel
theorem dX10_isCard_15 : decode cX10_isCard 15 = .ok (.bipush 10, 2) := by decide +kernel
theorem dX10_isCard_17 : decode cX10_isCard 17 = .ok (.aload_n 0, 1) := by decide +kernel
theorem dX10_isCard_18 : decode cX10_isCard 18 = .ok (.getfield 9, 3) := by decide +kernel
theorem dX10_isCard_21 : decode cX10_isCard 21 = .ok (.iconst 4, 1) := by decide +kernel
theorem dX10_isCard_22 : decode cX10_isCard 22 = .ok (.iaload, 1) := by decide +kernel
theorem dX10_isCard_23 : decode cX10_isCard 23 = .ok (.imul, 1) := by decide +kernel
theorem dX10_isCard_24 : decode cX10_isCard 24 = .ok (.iadd, 1) := by decide +kernel
theorem dX10_isCard_25 : decode cX10_isCard 25 = .ok (.iconst 1, 1) := by decide +kernel
theorem dX10_isCard_26 : decode cX10_isCard 26 = .ok (.isub, 1) := by decide +kernel
theorem dX10_isCard_27 : decode cX10_isCard 27 = .ok (.i2l, 1) := by decide +kernel
theorem dX10_isCard_28 : decode cX10_isCard 28 = .ok (.invokestatic 92, 3) := by decide +kernel
theorem dX10_isCard_31 : decode cX10_isCard 31 = .ok (.ifCond .eq 7, 3) := by decide +kernel
theorem dX10_isCard_34 : decode cX10_isCard 34 = .ok (.iconst 1, 1) := by decide +kernel
theorem dX10_isCard_35 : decode cX10_isCard 35 = .ok (.goto 4, 3) := by decide +kernel
theorem dX10_isCard_38 : decode cX10_isCard 38 = .ok (.iconst 0, 1) := by decide +kernel
theorem dX10_isCard_39 : decode cX10_isCard 39 = .ok (.ireturn, 1) := by decide +kernel
theorem dX10_isDigit_0 : decode cX10_isDigit 0 = .ok (.iload_n 0, 1) := by decide +kernel
theorem dX10_isDigit_1 : decode cX10_isDigit 1 = .ok (.i2l, 1) := by decide +kernel
theorem dX10_isDigit_2 : decode cX10_isDigit 2 = .ok (.lconst 0, 1) := by decide +kernel
theorem dX10_isDigit_3 : decode cX10_isDigit 3 = .ok (.ldc2_w 333, 3) := by decide +kernel
theorem dX10_isDigit_6 : decode cX10_isDigit 6 = .ok (.invokestatic 92, 3) := by decide +kernel
theorem dX10_isDigit_9 : decode cX10_isDigit 9 = .ok (.ireturn, 1) := by decide +kernel
theorem dX10_card_0 : decode cX10_card 0 = .ok (.aload_n 0, 1) := by decide +kernel
theorem dX10_card_1 : decode cX10_card 1 = .ok (.aload_n 0, 1) := by decide +kernel
theorem dX10_card_2 : decode cX10_card 2 = .ok (.iload_n 1, 1) := by decide +kernel
theorem dX10_card_3 : decode cX10_card 3 = .ok (.invokevirtual 335, 3) := by decide +kernel
theorem dX10_card_6 : decode cX10_card 6 = .ok (.ifCond .ne 7, 3) := by decide +kernel
theorem dX10_card_9 : decode cX10_card 9 = .ok (.iconst 1, 1) := by decide +kernel
theorem dX10_card_10 : decode cX10_card 10 = .ok (.goto 4, 3) := by decide +kernel
theorem dX10_card_13 : decode cX10_card 13 = .ok (.iconst 0, 1) := by decide +kernel
theorem dX10_card_14 : decode cX10_card 14 = .ok (.invokevirtual 321, 3) := by decide +kernel
theorem dX10_card_17 : decode cX10_card 17 = .ok (.ifCond .ne 28, 3) := by decide +kernel
theorem dX10_card_20 : decode cX10_card 20 = .ok (.aload_n 0, 1) := by decide +kernel
theorem dX10_card_21 : decode cX10_card 21 = .ok (.iload_n 2, 1) := by decide +kernel
theorem dX10_card_22 : decode cX10_card 22 = .ok (.i2l, 1) := by decide +kernel
theorem dX10_card_23 : decode cX10_card 23 = .ok (.lconst 0, 1) := by decide +kernel
theorem dX10_card_24 : decode cX10_card 24 = .ok (.ldc2_w 338, 3) := by decide +kernel
theorem dX10_card_27 : decode cX10_card 27 = .ok (.invokestatic 92, 3) := by decide +kernel
theorem dX10_card_30 : decode cX10_card 30 = .ok (.ifCond .ne 7, 3) := by decide +kernel
theorem dX10_card_33 : decode cX10_card 33 = .ok (.iconst 1, 1) := by decide +kernel
theorem dX10_card_34 : decode cX10_card 34 = .ok (.goto 4, 3) := by decide +kernel
theorem dX10_card_37 : decode cX10_card 37 = .ok (.iconst 0, 1) := by decide +kernel
theorem dX10_card_38 : decode cX10_card 38 = .ok (.iconst 2, 1) := by decide +kernel
theorem dX10_card_39 : decode cX10_card 39 = .ok (.invokevirtual 340, 3) := by decide +kernel
theorem dX10_card_42 : decode cX10_card 42 = .ok (.ifCond .eq 5, 3) := by decide +kernel
theorem dX10_card_45 : decode cX10_card 45 = .ok (.iconst 0, 1) := by decide +kernel
theorem dX10_card_46 : decode cX10_card 46 = .ok (.ireturn, 1) := by decide +kernel
theorem dX10_card_47 : decode cX10_card 47 = .ok (.iload_n 1, 1) := by decide +kernel
theorem dX10_card_48 : decode cX10_card 48 = .ok (.invokestatic 344, 3) := by decide +kernel
theorem dX10_card_51 : decode cX10_card 51 = .ok (.istore_n 3, 1) := by decide +kernel
theorem dX10_card_52 : decode cX10_card 52 = .ok (.iload_n 2, 1) := by decide +kernel
theorem dX10_card_53 : decode cX10_card 53 = .ok (.tableswitch 45 0 2 #[27, 33, 39], 27) := by decide +kernel
theorem dX10_card_80 : decode cX10_card 80 = .ok (.aload_n 0, 1) := by decide +kernel
theorem dX10_card_81 : decode cX10_card 81 = .ok (.iload_n 3, 1) := by decide +kernel
theorem dX10_card_82 : decode cX10_card 82 = .ok (.invokevirtual 226, 3) := by decide +kernel
theorem dX10_card_85 : decode cX10_card 85 = .ok (.ireturn, 1) := by decide +kernel
theorem dX10_card_86 : decode cX10_card 86 = .ok (.aload_n 0, 1) := by decide +kernel
theorem dX10_card_87 : decode cX10_card 87 = .ok (.iload_n 3, 1) := by decide +kernel
theorem dX10_card_88 : decode cX10_card 88 = .ok (.invokevirtual 229, 3) := by decide +kernel
theorem dX10_card_91 : decode cX10_card 91 = .ok (.ireturn, 1) := by decide +kernel
theorem dX10_card_92 : decode cX10_card 92 = .ok (.aload_n 0, 1) := by decide +kernel
theorem dX10_card_93 : decode cX10_card 93 = .ok (.iload_n 3, 1) := by decide +kernel
theorem dX10_card_94 : decode cX10_card 94 = .ok (.invokevirtual 243, 3) := by decide +kernel
theorem dX10_card_97 : decode cX10_card 97 = .ok (.ireturn, 1) := by decide +kernel
theorem dX10_card_98 : decode cX10_card 98 = .ok (.aload_n 0, 1) := by decide +kernel
theorem dX10_card_99 : decode cX10_card 99 = .ok (.iload_n 3, 1) := by decide +kernel
theorem dX10_card_100 : decode cX10_card 100 = .ok (.invokevirtual 240, 3) := by decide +kernel
theorem dX10_card_103 : decode cX10_card 103 = .ok (.ireturn, 1) := by decide +kernel
theorem dX10_way_0 : decode cX10_way 0 = .ok (.aload_n 0, 1) := by decide +kernel
theorem dX10_way_1 : decode cX10_way 1 = .ok (.aload_n 0, 1) := by decide +kernel
theorem dX10_way_2 : decode cX10_way 2 = .ok (.iload_n 1, 1) := by decide +kernel
theorem dX10_way_3 : decode cX10_way 3 = .ok (.invokevirtual 335, 3) := by decide +kernel
theorem dX10_way_6 : decode cX10_way 6 = .ok (.ifCond .ne 7, 3) := by decide +kernel
theorem dX10_way_9 : decode cX10_way 9 = .ok (.iconst 1, 1) := by decide +kernel
theorem dX10_way_10 : decode cX10_way 10 = .ok (.goto 4, 3) := by decide +kernel
theorem dX10_way_13 : decode cX10_way 13 = .ok (.iconst 0, 1) := by decide +kernel
theorem dX10_way_14 : decode cX10_way 14 = .ok (.invokevirtual 321, 3) := by decide +kernel
theorem dX10_way_17 : decode cX10_way 17 = .ok (.ifCond .ne 23, 3) := by decide +kernel
theorem dX10_way_20 : decode cX10_way 20 = .ok (.aload_n 0, 1) := by decide +kernel
theorem dX10_way_21 : decode cX10_way 21 = .ok (.iload_n 2, 1) := by decide +kernel
theorem dX10_way_22 : decode cX10_way 22 = .ok (.invokestatic 347, 3) := by decide +kernel
theorem dX10_way_25 : decode cX10_way 25 = .ok (.ifCond .ne 7, 3) := by decide +kernel
theorem dX10_way_28 : decode cX10_way 28 = .ok (.iconst 1, 1) := by decide +kernel
theorem dX10_way_29 : decode cX10_way 29 = .ok (.goto 4, 3) := by decide +kernel
theorem dX10_way_32 : decode cX10_way 32 = .ok (.iconst 0, 1) := by decide +kernel
theorem dX10_way_33 : decode cX10_way 33 = .ok (.iconst 2, 1) := by decide +kernel
theorem dX10_way_34 : decode cX10_way 34 = .ok (.invokevirtual 340, 3) := by decide +kernel
theorem dX10_way_37 : decode cX10_way 37 = .ok (.ifCond .eq 7, 3) := by decide +kernel
theorem dX10_way_40 : decode cX10_way 40 = .ok (.iconst 0, 1) := by decide +kernel
theorem dX10_way_41 : decode cX10_way 41 = .ok (.goto 12, 3) := by decide +kernel
theorem dX10_way_44 : decode cX10_way 44 = .ok (.aload_n 0, 1) := by decide +kernel
theorem dX10_way_45 : decode cX10_way 45 = .ok (.iload_n 1, 1) := by decide +kernel
theorem dX10_way_46 : decode cX10_way 46 = .ok (.invokestatic 344, 3) := by decide +kernel
theorem dX10_way_49 : decode cX10_way 49 = .ok (.iload_n 2, 1) := by decide +kernel
theorem dX10_way_50 : decode cX10_way 50 = .ok (.invokevirtual 258, 3) := by decide +kernel
theorem dX10_way_53 : decode cX10_way 53 = .ok (.ireturn, 1) := by decide +kernel
theorem dX10_isFriend_0 : decode cX10_isFriend 0 = .ok (.iload_n 1, 1) := by decide +kernel
theorem dX10_isFriend_1 : decode cX10_isFriend 1 = .ok (.i2l, 1) := by decide +kernel
theorem dX10_isFriend_2 : decode cX10_isFriend 2 = .ok (.lconst 0, 1) := by decide +kernel
theorem dX10_isFriend_3 : decode cX10_isFriend 3 = .ok (.aload_n 0, 1) := by decide +kernel
theorem dX10_isFriend_4 : decode cX10_isFriend 4 = .ok (.getfield 9, 3) := by decide +kernel
theorem dX10_isFriend_7 : decode cX10_isFriend 7 = .ok (.iconst 4, 1) := by decide +kernel
theorem dX10_isFriend_8 : decode cX10_isFriend 8 = .ok (.iaload, 1) := by decide +kernel
theorem dX10_isFriend_9 : decode cX10_isFriend 9 = .ok (.iconst 1, 1) := by decide +kernel
theorem dX10_isFriend_10 : decode cX10_isFriend 10 = .ok (.isub, 1) := by decide +kernel
theorem dX10_isFriend_11 : decode cX10_isFriend 11 = .ok (.i2l, 1) := by decide +kernel
theorem dX10_isFriend_12 : decode cX10_isFriend 12 = .ok (.invokestatic 92, 3) := by decide +kernel
theorem dX10_isFriend_15 : decode cX10_isFriend 15 = .ok (.ireturn, 1) := by decide +kernel
theorem dX10_noFriend_0 : decode cX10_noFriend 0 = .ok (.aload_n 0, 1) := by decide +kernel
theorem dX10_noFriend_1 : decode cX10_noFriend 1 = .ok (.aload_n 0, 1) := by decide +kernel
theorem dX10_noFriend_2 : decode cX10_noFriend 2 = .ok (.iload_n 1, 1) := by decide +kernel
theorem dX10_noFriend_3 : decode cX10_noFriend 3 = .ok (.invokevirtual 350, 3) := by decide +kernel
theorem dX10_noFriend_6 : decode cX10_noFriend 6 = .ok (.ifCond .ne 7, 3) := by decide +kernel
theorem dX10_noFriend_9 : decode cX10_noFriend 9 = .ok (.iconst 1, 1) := by decide +kernel
theorem dX10_noFriend_10 : decode cX10_noFriend 10 = .ok (.goto 4, 3) := by decide +kernel
theorem dX10_noFriend_13 : decode cX10_noFriend 13 = .ok (.iconst 0, 1) := by decide +kernel
theorem dX10_noFriend_14 : decode cX10_noFriend 14 = .ok (.invokevirtual 321, 3) := by decide +kernel
theorem dX10_noFriend_17 : decode cX10_noFriend 17 = .ok (.ireturn, 1) := by decide +kernel
theorem dX10_lends_0 : decode cX10_lends 0 = .ok (.aload_n 0, 1) := by decide +kernel
theorem dX10_lends_1 : decode cX10_lends 1 = .ok (.iload_n 1, 1) := by decide +kernel
theorem dX10_lends_2 : decode cX10_lends 2 = .ok (.invokevirtual 353, 3) := by decide +kernel
theorem dX10_lends_5 : decode cX10_lends 5 = .ok (.ifCond .ne 23, 3) := by decide +kernel
theorem dX10_lends_8 : decode cX10_lends 8 = .ok (.aload_n 0, 1) := by decide +kernel
theorem dX10_lends_9 : decode cX10_lends 9 = .ok (.iload_n 2, 1) := by decide +kernel
theorem dX10_lends_10 : decode cX10_lends 10 = .ok (.invokestatic 347, 3) := by decide +kernel
theorem dX10_lends_13 : decode cX10_lends 13 = .ok (.ifCond .ne 7, 3) := by decide +kernel
theorem dX10_lends_16 : decode cX10_lends 16 = .ok (.iconst 1, 1) := by decide +kernel
theorem dX10_lends_17 : decode cX10_lends 17 = .ok (.goto 4, 3) := by decide +kernel
theorem dX10_lends_20 : decode cX10_lends 20 = .ok (.iconst 0, 1) := by decide +kernel
theorem dX10_lends_21 : decode cX10_lends 21 = .ok (.iconst 2, 1) := by decide +kernel
theorem dX10_lends_22 : decode cX10_lends 22 = .ok (.invokevirtual 340, 3) := by decide +kernel
theorem dX10_lends_25 : decode cX10_lends 25 = .ok (.ifCond .eq 7, 3) := by decide +kernel
theorem dX10_lends_28 : decode cX10_lends 28 = .ok (.iconst 0, 1) := by decide +kernel
theorem dX10_lends_29 : decode cX10_lends 29 = .ok (.goto 11, 3) := by decide +kernel
theorem dX10_lends_32 : decode cX10_lends 32 = .ok (.aload_n 0, 1) := by decide +kernel
theorem dX10_lends_33 : decode cX10_lends 33 = .ok (.iload_n 1, 1) := by decide +kernel
theorem dX10_lends_34 : decode cX10_lends 34 = .ok (.iconst 1, 1) := by decide +kernel
theorem dX10_lends_35 : decode cX10_lends 35 = .ok (.iload_n 2, 1) := by decide +kernel
theorem dX10_lends_36 : decode cX10_lends 36 = .ok (.iadd, 1) := by decide +kernel
theorem dX10_lends_37 : decode cX10_lends 37 = .ok (.invokevirtual 356, 3) := by decide +kernel
theorem dX10_lends_40 : decode cX10_lends 40 = .ok (.ireturn, 1) := by decide +kernel
theorem dX10_noLoan_0 : decode cX10_noLoan 0 = .ok (.aload_n 0, 1) := by decide +kernel
theorem dX10_noLoan_1 : decode cX10_noLoan 1 = .ok (.iload_n 1, 1) := by decide +kernel
theorem dX10_noLoan_2 : decode cX10_noLoan 2 = .ok (.i2l, 1) := by decide +kernel
theorem dX10_noLoan_3 : decode cX10_noLoan 3 = .ok (.lconst 0, 1) := by decide +kernel
theorem dX10_noLoan_4 : decode cX10_noLoan 4 = .ok (.aload_n 0, 1) := by decide +kernel
theorem dX10_noLoan_5 : decode cX10_noLoan 5 = .ok (.getfield 9, 3) := by decide +kernel
theorem dX10_noLoan_8 : decode cX10_noLoan 8 = .ok (.bipush 6, 2) := by decide +kernel
theorem dX10_noLoan_10 : decode cX10_noLoan 10 = .ok (.iaload, 1) := by decide +kernel
theorem dX10_noLoan_11 : decode cX10_noLoan 11 = .ok (.iconst 1, 1) := by decide +kernel
theorem dX10_noLoan_12 : decode cX10_noLoan 12 = .ok (.isub, 1) := by decide +kernel
theorem dX10_noLoan_13 : decode cX10_noLoan 13 = .ok (.i2l, 1) := by decide +kernel
theorem dX10_noLoan_14 : decode cX10_noLoan 14 = .ok (.invokestatic 92, 3) := by decide +kernel
theorem dX10_noLoan_17 : decode cX10_noLoan 17 = .ok (.ifCond .ne 7, 3) := by decide +kernel
theorem dX10_noLoan_20 : decode cX10_noLoan 20 = .ok (.iconst 1, 1) := by decide +kernel
theorem dX10_noLoan_21 : decode cX10_noLoan 21 = .ok (.goto 4, 3) := by decide +kernel
theorem dX10_noLoan_24 : decode cX10_noLoan 24 = .ok (.iconst 0, 1) := by decide +kernel
theorem dX10_noLoan_25 : decode cX10_noLoan 25 = .ok (.invokevirtual 321, 3) := by decide +kernel
theorem dX10_noLoan_28 : decode cX10_noLoan 28 = .ok (.ireturn, 1) := by decide +kernel
theorem dX10_loan_0 : decode cX10_loan 0 = .ok (.aload_n 0, 1) := by decide +kernel
theorem dX10_loan_1 : decode cX10_loan 1 = .ok (.iload_n 1, 1) := by decide +kernel
theorem dX10_loan_2 : decode cX10_loan 2 = .ok (.invokevirtual 359, 3) := by decide +kernel
theorem dX10_loan_5 : decode cX10_loan 5 = .ok (.ifCond .ne 28, 3) := by decide +kernel
theorem dX10_loan_8 : decode cX10_loan 8 = .ok (.aload_n 0, 1) := by decide +kernel
theorem dX10_loan_9 : decode cX10_loan 9 = .ok (.iload_n 2, 1) := by decide +kernel
theorem dX10_loan_10 : decode cX10_loan 10 = .ok (.i2l, 1) := by decide +kernel
theorem dX10_loan_11 : decode cX10_loan 11 = .ok (.lconst 0, 1) := by decide +kernel
theorem dX10_loan_12 : decode cX10_loan 12 = .ok (.ldc2_w 338, 3) := by decide +kernel
theorem dX10_loan_15 : decode cX10_loan 15 = .ok (.invokestatic 92, 3) := by decide +kernel
theorem dX10_loan_18 : decode cX10_loan 18 = .ok (.ifCond .ne 7, 3) := by decide +kernel
theorem dX10_loan_21 : decode cX10_loan 21 = .ok (.iconst 1, 1) := by decide +kernel
theorem dX10_loan_22 : decode cX10_loan 22 = .ok (.goto 4, 3) := by decide +kernel
theorem dX10_loan_25 : decode cX10_loan 25 = .ok (.iconst 0, 1) := by decide +kernel
theorem dX10_loan_26 : decode cX10_loan 26 = .ok (.iconst 2, 1) := by decide +kernel
theorem dX10_loan_27 : decode cX10_loan 27 = .ok (.invokevirtual 340, 3) := by decide +kernel
theorem dX10_loan_30 : decode cX10_loan 30 = .ok (.ifCond .eq 7, 3) := by decide +kernel
theorem dX10_loan_33 : decode cX10_loan 33 = .ok (.iconst 0, 1) := by decide +kernel
theorem dX10_loan_34 : decode cX10_loan 34 = .ok (.goto 9, 3) := by decide +kernel
theorem dX10_loan_37 : decode cX10_loan 37 = .ok (.aload_n 0, 1) := by decide +kernel
theorem dX10_loan_38 : decode cX10_loan 38 = .ok (.iload_n 1, 1) := by decide +kernel
theorem dX10_loan_39 : decode cX10_loan 39 = .ok (.iload_n 2, 1) := by decide +kernel
theorem dX10_loan_40 : decode cX10_loan 40 = .ok (.invokevirtual 217, 3) := by decide +kernel
theorem dX10_loan_43 : decode cX10_loan 43 = .ok (.ireturn, 1) := by decide +kernel
theorem dX10_isBoard_0 : decode cX10_isBoard 0 = .ok (.iload_n 1, 1) := by decide +kernel
theorem dX10_isBoard_1 : decode cX10_isBoard 1 = .ok (.i2l, 1) := by decide +kernel
theorem dX10_isBoard_2 : decode cX10_isBoard 2 = .ok (.lconst 0, 1) := by decide +kernel
theorem dX10_isBoard_3 : decode cX10_isBoard 3 = .ok (.aload_n 0, 1) := by decide +kernel
theorem dX10_isBoard_4 : decode cX10_isBoard 4 = .ok (.getfield 9, 3) := by decide +kernel
theorem dX10_isBoard_7 : decode cX10_isBoard 7 = .ok (.iconst 0, 1) := by decide +kernel
theorem dX10_isBoard_8 : decode cX10_isBoard 8 = .ok (.iaload, 1) := by decide +kernel
theorem dX10_isBoard_9 : decode cX10_isBoard 9 = .ok (.iconst 1, 1) := by decide +kernel
theorem dX10_isBoard_10 : decode cX10_isBoard 10 = .ok (.isub, 1) := by decide +kernel
theorem dX10_isBoard_11 : decode cX10_isBoard 11 = .ok (.i2l, 1) := by decide +kernel
theorem dX10_isBoard_12 : decode cX10_isBoard 12 = .ok (.invokestatic 92, 3) := by decide +kernel
theorem dX10_isBoard_15 : decode cX10_isBoard 15 = .ok (.ireturn, 1) := by decide +kernel
theorem dX10_rows_0 : decode cX10_rows 0 = .ok (.aload_n 0, 1) := by decide +kernel
theorem dX10_rows_1 : decode cX10_rows 1 = .ok (.aload_n 0, 1) := by decide +kernel
theorem dX10_rows_2 : decode cX10_rows 2 = .ok (.iload_n 1, 1) := by decide +kernel
theorem dX10_rows_3 : decode cX10_rows 3 = .ok (.invokevirtual 362, 3) := by decide +kernel
theorem dX10_rows_6 : decode cX10_rows 6 = .ok (.ifCond .ne 7, 3) := by decide +kernel
theorem dX10_rows_9 : decode cX10_rows 9 = .ok (.iconst 1, 1) := by decide +kernel
theorem dX10_rows_10 : decode cX10_rows 10 = .ok (.goto 4, 3) := by decide +kernel
theorem dX10_rows_13 : decode cX10_rows 13 = .ok (.iconst 0, 1) := by decide +kernel
theorem dX10_rows_14 : decode cX10_rows 14 = .ok (.invokevirtual 321, 3) := by decide +kernel
theorem dX10_rows_17 : decode cX10_rows 17 = .ok (.ifCond .eq 7, 3) := by decide +kernel
theorem dX10_rows_20 : decode cX10_rows 20 = .ok (.iconst 0, 1) := by decide +kernel
theorem dX10_rows_21 : decode cX10_rows 21 = .ok (.goto 12, 3) := by decide +kernel
theorem dX10_rows_24 : decode cX10_rows 24 = .ok (.aload_n 0, 1) := by decide +kernel
theorem dX10_rows_25 : decode cX10_rows 25 = .ok (.getfield 9, 3) := by decide +kernel
theorem dX10_rows_28 : decode cX10_rows 28 = .ok (.bipush 12, 2) := by decide +kernel
theorem dX10_rows_30 : decode cX10_rows 30 = .ok (.iload_n 1, 1) := by decide +kernel
theorem dX10_rows_31 : decode cX10_rows 31 = .ok (.iadd, 1) := by decide +kernel
theorem dX10_rows_32 : decode cX10_rows 32 = .ok (.iaload, 1) := by decide +kernel
theorem dX10_rows_33 : decode cX10_rows 33 = .ok (.ireturn, 1) := by decide +kernel
theorem dX10_isService_0 : decode cX10_isService 0 = .ok (.iload_n 1, 1) := by decide +kernel
theorem dX10_isService_1 : decode cX10_isService 1 = .ok (.i2l, 1) := by decide +kernel
theorem dX10_isService_2 : decode cX10_isService 2 = .ok (.lconst 0, 1) := by decide +kernel
theorem dX10_isService_3 : decode cX10_isService 3 = .ok (.aload_n 0, 1) := by decide +kernel
theorem dX10_isService_4 : decode cX10_isService 4 = .ok (.getfield 9, 3) := by decide +kernel
theorem dX10_isService_7 : decode cX10_isService 7 = .ok (.iconst 5, 1) := by decide +kernel
theorem dX10_isService_8 : decode cX10_isService 8 = .ok (.iaload, 1) := by decide +kernel
theorem dX10_isService_9 : decode cX10_isService 9 = .ok (.iconst 1, 1) := by decide +kernel
theorem dX10_isService_10 : decode cX10_isService 10 = .ok (.isub, 1) := by decide +kernel
theorem dX10_isService_11 : decode cX10_isService 11 = .ok (.i2l, 1) := by decide +kernel
theorem dX10_isService_12 : decode cX10_isService 12 = .ok (.invokestatic 92, 3) := by decide +kernel
theorem dX10_isService_15 : decode cX10_isService 15 = .ok (.ireturn, 1) := by decide +kernel
theorem dX10_noService_0 : decode cX10_noService 0 = .ok (.aload_n 0, 1) := by decide +kernel
theorem dX10_noService_1 : decode cX10_noService 1 = .ok (.aload_n 0, 1) := by decide +kernel
theorem dX10_noService_2 : decode cX10_noService 2 = .ok (.iload_n 1, 1) := by decide +kernel
theorem dX10_noService_3 : decode cX10_noService 3 = .ok (.invokevirtual 365, 3) := by decide +kernel
theorem dX10_noService_6 : decode cX10_noService 6 = .ok (.ifCond .ne 7, 3) := by decide +kernel
theorem dX10_noService_9 : decode cX10_noService 9 = .ok (.iconst 1, 1) := by decide +kernel
theorem dX10_noService_10 : decode cX10_noService 10 = .ok (.goto 4, 3) := by decide +kernel
theorem dX10_noService_13 : decode cX10_noService 13 = .ok (.iconst 0, 1) := by decide +kernel
theorem dX10_noService_14 : decode cX10_noService 14 = .ok (.invokevirtual 321, 3) := by decide +kernel
theorem dX10_noService_17 : decode cX10_noService 17 = .ok (.ireturn, 1) := by decide +kernel
theorem dX10_hymns_0 : decode cX10_hymns 0 = .ok (.aload_n 0, 1) := by decide +kernel
theorem dX10_hymns_1 : decode cX10_hymns 1 = .ok (.iload_n 1, 1) := by decide +kernel
theorem dX10_hymns_2 : decode cX10_hymns 2 = .ok (.invokevirtual 368, 3) := by decide +kernel
theorem dX10_hymns_5 : decode cX10_hymns 5 = .ok (.ifCond .eq 7, 3) := by decide +kernel
theorem dX10_hymns_8 : decode cX10_hymns 8 = .ok (.iconst 0, 1) := by decide +kernel
theorem dX10_hymns_9 : decode cX10_hymns 9 = .ok (.goto 8, 3) := by decide +kernel
theorem dX10_hymns_12 : decode cX10_hymns 12 = .ok (.aload_n 0, 1) := by decide +kernel
theorem dX10_hymns_13 : decode cX10_hymns 13 = .ok (.iload_n 1, 1) := by decide +kernel
theorem dX10_hymns_14 : decode cX10_hymns 14 = .ok (.invokevirtual 148, 3) := by decide +kernel
theorem dX10_hymns_17 : decode cX10_hymns 17 = .ok (.ireturn, 1) := by decide +kernel
theorem dX10_hymn_0 : decode cX10_hymn 0 = .ok (.aload_n 0, 1) := by decide +kernel
theorem dX10_hymn_1 : decode cX10_hymn 1 = .ok (.iload_n 1, 1) := by decide +kernel
theorem dX10_hymn_2 : decode cX10_hymn 2 = .ok (.invokevirtual 368, 3) := by decide +kernel
theorem dX10_hymn_5 : decode cX10_hymn 5 = .ok (.ifCond .eq 5, 3) := by decide +kernel
theorem dX10_hymn_8 : decode cX10_hymn 8 = .ok (.iconst 0, 1) := by decide +kernel
theorem dX10_hymn_9 : decode cX10_hymn 9 = .ok (.ireturn, 1) := by decide +kernel
theorem dX10_hymn_10 : decode cX10_hymn 10 = .ok (.iload_n 2, 1) := by decide +kernel
theorem dX10_hymn_11 : decode cX10_hymn 11 = .ok (.i2l, 1) := by decide +kernel
theorem dX10_hymn_12 : decode cX10_hymn 12 = .ok (.lconst 0, 1) := by decide +kernel
theorem dX10_hymn_13 : decode cX10_hymn 13 = .ok (.aload_n 0, 1) := by decide +kernel
theorem dX10_hymn_14 : decode cX10_hymn 14 = .ok (.iload_n 1, 1) := by decide +kernel
theorem dX10_hymn_15 : decode cX10_hymn 15 = .ok (.invokevirtual 148, 3) := by decide +kernel
theorem dX10_hymn_18 : decode cX10_hymn 18 = .ok (.iconst 1, 1) := by decide +kernel
theorem dX10_hymn_19 : decode cX10_hymn 19 = .ok (.isub, 1) := by decide +kernel
theorem dX10_hymn_20 : decode cX10_hymn 20 = .ok (.i2l, 1) := by decide +kernel
theorem dX10_hymn_21 : decode cX10_hymn 21 = .ok (.invokestatic 92, 3) := by decide +kernel
theorem dX10_hymn_24 : decode cX10_hymn 24 = .ok (.ifCond .eq 12, 3) := by decide +kernel
theorem dX10_hymn_27 : decode cX10_hymn 27 = .ok (.aload_n 0, 1) := by decide +kernel
theorem dX10_hymn_28 : decode cX10_hymn 28 = .ok (.iload_n 1, 1) := by decide +kernel
theorem dX10_hymn_29 : decode cX10_hymn 29 = .ok (.iload_n 2, 1) := by decide +kernel
theorem dX10_hymn_30 : decode cX10_hymn 30 = .ok (.invokevirtual 152, 3) := by decide +kernel
theorem dX10_hymn_33 : decode cX10_hymn 33 = .ok (.goto 4, 3) := by decide +kernel
theorem dX10_hymn_36 : decode cX10_hymn 36 = .ok (.iconst (-1), 1) := by decide +kernel
theorem dX10_hymn_37 : decode cX10_hymn 37 = .ok (.ireturn, 1) := by decide +kernel
theorem dX10_noRow_0 : decode cX10_noRow 0 = .ok (.aload_n 0, 1) := by decide +kernel
theorem dX10_noRow_1 : decode cX10_noRow 1 = .ok (.aload_n 0, 1) := by decide +kernel
theorem dX10_noRow_2 : decode cX10_noRow 2 = .ok (.iload_n 1, 1) := by decide +kernel
theorem dX10_noRow_3 : decode cX10_noRow 3 = .ok (.invokevirtual 362, 3) := by decide +kernel
theorem dX10_noRow_6 : decode cX10_noRow 6 = .ok (.ifCond .eq 24, 3) := by decide +kernel
theorem dX10_noRow_9 : decode cX10_noRow 9 = .ok (.iload_n 2, 1) := by decide +kernel
theorem dX10_noRow_10 : decode cX10_noRow 10 = .ok (.i2l, 1) := by decide +kernel
theorem dX10_noRow_11 : decode cX10_noRow 11 = .ok (.lconst 0, 1) := by decide +kernel
theorem dX10_noRow_12 : decode cX10_noRow 12 = .ok (.aload_n 0, 1) := by decide +kernel
theorem dX10_noRow_13 : decode cX10_noRow 13 = .ok (.getfield 9, 3) := by decide +kernel
theorem dX10_noRow_16 : decode cX10_noRow 16 = .ok (.bipush 12, 2) := by decide +kernel
theorem dX10_noRow_18 : decode cX10_noRow 18 = .ok (.iload_n 1, 1) := by decide +kernel
theorem dX10_noRow_19 : decode cX10_noRow 19 = .ok (.iadd, 1) := by decide +kernel
theorem dX10_noRow_20 : decode cX10_noRow 20 = .ok (.iaload, 1) := by decide +kernel
theorem dX10_noRow_21 : decode cX10_noRow 21 = .ok (.iconst 1, 1) := by decide +kernel
theorem dX10_noRow_22 : decode cX10_noRow 22 = .ok (.isub, 1) := by decide +kernel
theorem dX10_noRow_23 : decode cX10_noRow 23 = .ok (.i2l, 1) := by decide +kernel
theorem dX10_noRow_24 : decode cX10_noRow 24 = .ok (.invokestatic 92, 3) := by decide +kernel
theorem dX10_noRow_27 : decode cX10_noRow 27 = .ok (.ifCond .ne 7, 3) := by decide +kernel
theorem dX10_noRow_30 : decode cX10_noRow 30 = .ok (.iconst 1, 1) := by decide +kernel
theorem dX10_noRow_31 : decode cX10_noRow 31 = .ok (.goto 4, 3) := by decide +kernel
theorem dX10_noRow_34 : decode cX10_noRow 34 = .ok (.iconst 0, 1) := by decide +kernel
theorem dX10_noRow_35 : decode cX10_noRow 35 = .ok (.invokevirtual 321, 3) := by decide +kernel
theorem dX10_noRow_38 : decode cX10_noRow 38 = .ok (.ireturn, 1) := by decide +kernel
theorem dX10_place_0 : decode cX10_place 0 = .ok (.aload_n 0, 1) := by decide +kernel
theorem dX10_place_1 : decode cX10_place 1 = .ok (.iload_n 1, 1) := by decide +kernel
theorem dX10_place_2 : decode cX10_place 2 = .ok (.iload_n 2, 1) := by decide +kernel
theorem dX10_place_3 : decode cX10_place 3 = .ok (.invokevirtual 371, 3) := by decide +kernel
theorem dX10_place_6 : decode cX10_place 6 = .ok (.ifCond .ne 41, 3) := by decide +kernel
theorem dX10_place_9 : decode cX10_place 9 = .ok (.aload_n 0, 1) := by decide +kernel
theorem dX10_place_10 : decode cX10_place 10 = .ok (.iload_n 3, 1) := by decide +kernel
theorem dX10_place_11 : decode cX10_place 11 = .ok (.i2l, 1) := by decide +kernel
theorem dX10_place_12 : decode cX10_place 12 = .ok (.lconst 0, 1) := by decide +kernel
theorem dX10_place_13 : decode cX10_place 13 = .ok (.ldc2_w 374, 3) := by decide +kernel
theorem dX10_place_16 : decode cX10_place 16 = .ok (.invokestatic 92, 3) := by decide +kernel
theorem dX10_place_19 : decode cX10_place 19 = .ok (.ifCond .eq 16, 3) := by decide +kernel
theorem dX10_place_22 : decode cX10_place 22 = .ok (.iload 4, 2) := by decide +kernel
theorem dX10_place_24 : decode cX10_place 24 = .ok (.i2l, 1) := by decide +kernel
theorem dX10_place_25 : decode cX10_place 25 = .ok (.lconst 0, 1) := by decide +kernel
theorem dX10_place_26 : decode cX10_place 26 = .ok (.ldc2_w 374, 3) := by decide +kernel
theorem dX10_place_29 : decode cX10_place 29 = .ok (.invokestatic 92, 3) := by decide +kernel
theorem dX10_place_32 : decode cX10_place 32 = .ok (.ifCond .ne 7, 3) := by decide +kernel
theorem dX10_place_35 : decode cX10_place 35 = .ok (.iconst 1, 1) := by decide +kernel
theorem dX10_place_36 : decode cX10_place 36 = .ok (.goto 4, 3) := by decide +kernel
theorem dX10_place_39 : decode cX10_place 39 = .ok (.iconst 0, 1) := by decide +kernel
theorem dX10_place_40 : decode cX10_place 40 = .ok (.iconst 2, 1) := by decide +kernel
theorem dX10_place_41 : decode cX10_place 41 = .ok (.invokevirtual 340, 3) := by decide +kernel
theorem dX10_place_44 : decode cX10_place 44 = .ok (.ifCond .eq 5, 3) := by decide +kernel
theorem dX10_place_47 : decode cX10_place 47 = .ok (.iconst 0, 1) := by decide +kernel
theorem dX10_place_48 : decode cX10_place 48 = .ok (.ireturn, 1) := by decide +kernel
theorem dX10_place_49 : decode cX10_place 49 = .ok (.iconst 3, 1) := by decide +kernel
theorem dX10_place_50 : decode cX10_place 50 = .ok (.aload_n 0, 1) := by decide +kernel
theorem dX10_place_51 : decode cX10_place 51 = .ok (.iload_n 1, 1) := by decide +kernel
theorem dX10_place_52 : decode cX10_place 52 = .ok (.invokevirtual 270, 3) := by decide +kernel
theorem dX10_place_55 : decode cX10_place 55 = .ok (.iload_n 2, 1) := by decide +kernel
theorem dX10_place_56 : decode cX10_place 56 = .ok (.iadd, 1) := by decide +kernel
theorem dX10_place_57 : decode cX10_place 57 = .ok (.imul, 1) := by decide +kernel
theorem dX10_place_58 : decode cX10_place 58 = .ok (.iload_n 3, 1) := by decide +kernel
theorem dX10_place_59 : decode cX10_place 59 = .ok (.iadd, 1) := by decide +kernel
theorem dX10_place_60 : decode cX10_place 60 = .ok (.istore 5, 2) := by decide +kernel
theorem dX10_place_62 : decode cX10_place 62 = .ok (.aload_n 0, 1) := by decide +kernel
theorem dX10_place_63 : decode cX10_place 63 = .ok (.iload 5, 2) := by decide +kernel
theorem dX10_place_65 : decode cX10_place 65 = .ok (.invokevirtual 237, 3) := by decide +kernel
theorem dX10_place_68 : decode cX10_place 68 = .ok (.ifCond .ne 5, 3) := by decide +kernel
theorem dX10_place_71 : decode cX10_place 71 = .ok (.iconst (-1), 1) := by decide +kernel
theorem dX10_place_72 : decode cX10_place 72 = .ok (.ireturn, 1) := by decide +kernel
theorem dX10_place_73 : decode cX10_place 73 = .ok (.iload 4, 2) := by decide +kernel
theorem dX10_place_75 : decode cX10_place 75 = .ok (.lookupswitch 52 #[(0, 25), (1, 37)], 25) := by decide +kernel
theorem dX10_place_100 : decode cX10_place 100 = .ok (.aload_n 0, 1) := by decide +kernel
theorem dX10_place_101 : decode cX10_place 101 = .ok (.getfield 9, 3) := by decide +kernel
theorem dX10_place_104 : decode cX10_place 104 = .ok (.iload 5, 2) := by decide +kernel
theorem dX10_place_106 : decode cX10_place 106 = .ok (.iconst 0, 1) := by decide +kernel
theorem dX10_place_107 : decode cX10_place 107 = .ok (.invokestatic 234, 3) := by decide +kernel
theorem dX10_place_110 : decode cX10_place 110 = .ok (.iaload, 1) := by decide +kernel
theorem dX10_place_111 : decode cX10_place 111 = .ok (.ireturn, 1) := by decide +kernel
theorem dX10_place_112 : decode cX10_place 112 = .ok (.aload_n 0, 1) := by decide +kernel
theorem dX10_place_113 : decode cX10_place 113 = .ok (.getfield 9, 3) := by decide +kernel
theorem dX10_place_116 : decode cX10_place 116 = .ok (.iload 5, 2) := by decide +kernel
theorem dX10_place_118 : decode cX10_place 118 = .ok (.iconst 1, 1) := by decide +kernel
theorem dX10_place_119 : decode cX10_place 119 = .ok (.invokestatic 234, 3) := by decide +kernel
theorem dX10_place_122 : decode cX10_place 122 = .ok (.iaload, 1) := by decide +kernel
theorem dX10_place_123 : decode cX10_place 123 = .ok (.invokestatic 376, 3) := by decide +kernel
theorem dX10_place_126 : decode cX10_place 126 = .ok (.ireturn, 1) := by decide +kernel
theorem dX10_place_127 : decode cX10_place 127 = .ok (.aload_n 0, 1) := by decide +kernel
theorem dX10_place_128 : decode cX10_place 128 = .ok (.getfield 9, 3) := by decide +kernel
theorem dX10_place_131 : decode cX10_place 131 = .ok (.iload 5, 2) := by decide +kernel
theorem dX10_place_133 : decode cX10_place 133 = .ok (.iconst 2, 1) := by decide +kernel
theorem dX10_place_134 : decode cX10_place 134 = .ok (.invokestatic 234, 3) := by decide +kernel
theorem dX10_place_137 : decode cX10_place 137 = .ok (.iaload, 1) := by decide +kernel
theorem dX10_place_138 : decode cX10_place 138 = .ok (.ireturn, 1) := by decide +kernel
theorem dX10_hung_0 : decode cX10_hung 0 = .ok (.aload_n 0, 1) := by decide +kernel
theorem dX10_hung_1 : decode cX10_hung 1 = .ok (.iload_n 1, 1) := by decide +kernel
theorem dX10_hung_2 : decode cX10_hung 2 = .ok (.iload_n 2, 1) := by decide +kernel
theorem dX10_hung_3 : decode cX10_hung 3 = .ok (.invokevirtual 371, 3) := by decide +kernel
theorem dX10_hung_6 : decode cX10_hung 6 = .ok (.ifCond .eq 7, 3) := by decide +kernel
theorem dX10_hung_9 : decode cX10_hung 9 = .ok (.iconst 0, 1) := by decide +kernel
theorem dX10_hung_10 : decode cX10_hung 10 = .ok (.goto 19, 3) := by decide +kernel
theorem dX10_hung_13 : decode cX10_hung 13 = .ok (.aload_n 0, 1) := by decide +kernel
theorem dX10_hung_14 : decode cX10_hung 14 = .ok (.getfield 9, 3) := by decide +kernel
theorem dX10_hung_17 : decode cX10_hung 17 = .ok (.sipush 438, 3) := by decide +kernel
theorem dX10_hung_20 : decode cX10_hung 20 = .ok (.aload_n 0, 1) := by decide +kernel
theorem dX10_hung_21 : decode cX10_hung 21 = .ok (.iload_n 1, 1) := by decide +kernel
theorem dX10_hung_22 : decode cX10_hung 22 = .ok (.invokevirtual 270, 3) := by decide +kernel
theorem dX10_hung_25 : decode cX10_hung 25 = .ok (.iadd, 1) := by decide +kernel
theorem dX10_hung_26 : decode cX10_hung 26 = .ok (.iload_n 2, 1) := by decide +kernel
theorem dX10_hung_27 : decode cX10_hung 27 = .ok (.iadd, 1) := by decide +kernel
theorem dX10_hung_28 : decode cX10_hung 28 = .ok (.iaload, 1) := by decide +kernel
theorem dX10_hung_29 : decode cX10_hung 29 = .ok (.ireturn, 1) := by decide +kernel
theorem dX10_isHole_0 : decode cX10_isHole 0 = .ok (.iconst 0, 1) := by decide +kernel
theorem dX10_isHole_1 : decode cX10_isHole 1 = .ok (.istore_n 2, 1) := by decide +kernel
theorem dX10_isHole_2 : decode cX10_isHole 2 = .ok (.iconst 0, 1) := by decide +kernel
theorem dX10_isHole_3 : decode cX10_isHole 3 = .ok (.istore_n 3, 1) := by decide +kernel
theorem dX10_isHole_4 : decode cX10_isHole 4 = .ok (.iload_n 3, 1) := by decide +kernel
theorem dX10_isHole_5 : decode cX10_isHole 5 = .ok (.iconst 3, 1) := by decide +kernel
theorem dX10_isHole_6 : decode cX10_isHole 6 = .ok (.if_icmp .ge 44, 3) := by decide +kernel
theorem dX10_isHole_9 : decode cX10_isHole 9 = .ok (.iload_n 2, 1) := by decide +kernel
theorem dX10_isHole_10 : decode cX10_isHole 10 = .ok (.ifCond .ne 28, 3) := by decide +kernel
theorem dX10_isHole_13 : decode cX10_isHole 13 = .ok (.aload_n 0, 1) := by decide +kernel
theorem dX10_isHole_14 : decode cX10_isHole 14 = .ok (.iconst 3, 1) := by decide +kernel
theorem dX10_isHole_15 : decode cX10_isHole 15 = .ok (.iload_n 1, 1) := by decide +kernel
theorem dX10_isHole_16 : decode cX10_isHole 16 = .ok (.imul, 1) := by decide +kernel
theorem dX10_isHole_17 : decode cX10_isHole 17 = .ok (.iload_n 3, 1) := by decide +kernel
theorem dX10_isHole_18 : decode cX10_isHole 18 = .ok (.iadd, 1) := by decide +kernel
theorem dX10_isHole_19 : decode cX10_isHole 19 = .ok (.invokevirtual 297, 3) := by decide +kernel
theorem dX10_isHole_22 : decode cX10_isHole 22 = .ok (.iconst (-1), 1) := by decide +kernel
theorem dX10_isHole_23 : decode cX10_isHole 23 = .ok (.if_icmp .eq 19, 3) := by decide +kernel
theorem dX10_isHole_26 : decode cX10_isHole 26 = .ok (.aload_n 0, 1) := by decide +kernel
theorem dX10_isHole_27 : decode cX10_isHole 27 = .ok (.iconst 3, 1) := by decide +kernel
theorem dX10_isHole_28 : decode cX10_isHole 28 = .ok (.iload_n 1, 1) := by decide +kernel
theorem dX10_isHole_29 : decode cX10_isHole 29 = .ok (.imul, 1) := by decide +kernel
theorem dX10_isHole_30 : decode cX10_isHole 30 = .ok (.iload_n 3, 1) := by decide +kernel
theorem dX10_isHole_31 : decode cX10_isHole 31 = .ok (.iadd, 1) := by decide +kernel
theorem dX10_isHole_32 : decode cX10_isHole 32 = .ok (.invokevirtual 237, 3) := by decide +kernel
theorem dX10_isHole_35 : decode cX10_isHole 35 = .ok (.ifCond .ne 7, 3) := by decide +kernel
theorem dX10_isHole_38 : decode cX10_isHole 38 = .ok (.iconst 1, 1) := by decide +kernel
theorem dX10_isHole_39 : decode cX10_isHole 39 = .ok (.goto 4, 3) := by decide +kernel
theorem dX10_isHole_42 : decode cX10_isHole 42 = .ok (.iconst 0, 1) := by decide +kernel
theorem dX10_isHole_43 : decode cX10_isHole 43 = .ok (.istore_n 2, 1) := by decide +kernel
theorem dX10_isHole_44 : decode cX10_isHole 44 = .ok (.iinc 3 1, 3) := by decide +kernel
theorem dX10_isHole_47 : decode cX10_isHole 47 = .ok (.goto (-43), 3) := by decide +kernel
theorem dX10_isHole_50 : decode cX10_isHole 50 = .ok (.iload_n 2, 1) := by decide +kernel
theorem dX10_isHole_51 : decode cX10_isHole 51 = .ok (.ireturn, 1) := by decide +kernel
theorem dX10_holes_0 : decode cX10_holes 0 = .ok (.aload_n 0, 1) := by decide +kernel
theorem dX10_holes_1 : decode cX10_holes 1 = .ok (.iconst 0, 1) := by decide +kernel
theorem dX10_holes_2 : decode cX10_holes 2 = .ok (.putfield 58, 3) := by decide +kernel
theorem dX10_holes_5 : decode cX10_holes 5 = .ok (.iconst 0, 1) := by decide +kernel
theorem dX10_holes_6 : decode cX10_holes 6 = .ok (.istore_n 1, 1) := by decide +kernel
theorem dX10_holes_7 : decode cX10_holes 7 = .ok (.iconst 0, 1) := by decide +kernel
theorem dX10_holes_8 : decode cX10_holes 8 = .ok (.istore_n 2, 1) := by decide +kernel
theorem dX10_holes_9 : decode cX10_holes 9 = .ok (.iload_n 2, 1) := by decide +kernel
theorem dX10_holes_10 : decode cX10_holes 10 = .ok (.aload_n 0, 1) := by decide +kernel
theorem dX10_holes_11 : decode cX10_holes 11 = .ok (.invokevirtual 285, 3) := by decide +kernel
theorem dX10_holes_14 : decode cX10_holes 14 = .ok (.if_icmp .ge 25, 3) := by decide +kernel
theorem dX10_holes_17 : decode cX10_holes 17 = .ok (.iload_n 1, 1) := by decide +kernel
theorem dX10_holes_18 : decode cX10_holes 18 = .ok (.aload_n 0, 1) := by decide +kernel
theorem dX10_holes_19 : decode cX10_holes 19 = .ok (.iload_n 2, 1) := by decide +kernel
theorem dX10_holes_20 : decode cX10_holes 20 = .ok (.invokevirtual 379, 3) := by decide +kernel
theorem dX10_holes_23 : decode cX10_holes 23 = .ok (.ifCond .eq 7, 3) := by decide +kernel
theorem dX10_holes_26 : decode cX10_holes 26 = .ok (.iconst 1, 1) := by decide +kernel
theorem dX10_holes_27 : decode cX10_holes 27 = .ok (.goto 4, 3) := by decide +kernel
theorem dX10_holes_30 : decode cX10_holes 30 = .ok (.iconst 0, 1) := by decide +kernel
theorem dX10_holes_31 : decode cX10_holes 31 = .ok (.iadd, 1) := by decide +kernel
theorem dX10_holes_32 : decode cX10_holes 32 = .ok (.istore_n 1, 1) := by decide +kernel
theorem dX10_holes_33 : decode cX10_holes 33 = .ok (.iinc 2 1, 3) := by decide +kernel
theorem dX10_holes_36 : decode cX10_holes 36 = .ok (.goto (-27), 3) := by decide +kernel
theorem dX10_holes_39 : decode cX10_holes 39 = .ok (.iload_n 1, 1) := by decide +kernel
theorem dX10_holes_40 : decode cX10_holes 40 = .ok (.ireturn, 1) := by decide +kernel
theorem dX10_noDigit_0 : decode cX10_noDigit 0 = .ok (.aload_n 0, 1) := by decide +kernel
theorem dX10_noDigit_1 : decode cX10_noDigit 1 = .ok (.iload_n 1, 1) := by decide +kernel
theorem dX10_noDigit_2 : decode cX10_noDigit 2 = .ok (.invokestatic 347, 3) := by decide +kernel
theorem dX10_noDigit_5 : decode cX10_noDigit 5 = .ok (.ifCond .ne 7, 3) := by decide +kernel
theorem dX10_noDigit_8 : decode cX10_noDigit 8 = .ok (.iconst 1, 1) := by decide +kernel
theorem dX10_noDigit_9 : decode cX10_noDigit 9 = .ok (.goto 4, 3) := by decide +kernel
theorem dX10_noDigit_12 : decode cX10_noDigit 12 = .ok (.iconst 0, 1) := by decide +kernel
theorem dX10_noDigit_13 : decode cX10_noDigit 13 = .ok (.invokevirtual 321, 3) := by decide +kernel
theorem dX10_noDigit_16 : decode cX10_noDigit 16 = .ok (.ireturn, 1) := by decide +kernel
theorem dX10_free_0 : decode cX10_free 0 = .ok (.aload_n 0, 1) := by decide +kernel
theorem dX10_free_1 : decode cX10_free 1 = .ok (.iload_n 1, 1) := by decide +kernel
theorem dX10_free_2 : decode cX10_free 2 = .ok (.invokevirtual 382, 3) := by decide +kernel
theorem dX10_free_5 : decode cX10_free 5 = .ok (.ifCond .eq 5, 3) := by decide +kernel
theorem dX10_free_8 : decode cX10_free 8 = .ok (.iconst 0, 1) := by decide +kernel
theorem dX10_free_9 : decode cX10_free 9 = .ok (.ireturn, 1) := by decide +kernel
theorem dX10_free_10 : decode cX10_free 10 = .ok (.iconst 0, 1) := by decide +kernel
theorem dX10_free_11 : decode cX10_free 11 = .ok (.istore_n 2, 1) := by decide +kernel
theorem dX10_free_12 : decode cX10_free 12 = .ok (.iconst 0, 1) := by decide +kernel
theorem dX10_free_13 : decode cX10_free 13 = .ok (.istore_n 3, 1) := by decide +kernel
theorem dX10_free_14 : decode cX10_free 14 = .ok (.iload_n 3, 1) := by decide +kernel
theorem dX10_free_15 : decode cX10_free 15 = .ok (.bipush 42, 2) := by decide +kernel
theorem dX10_free_17 : decode cX10_free 17 = .ok (.if_icmp .ge 37, 3) := by decide +kernel
theorem dX10_free_20 : decode cX10_free 20 = .ok (.iload_n 2, 1) := by decide +kernel
theorem dX10_free_21 : decode cX10_free 21 = .ok (.aload_n 0, 1) := by decide +kernel
theorem dX10_free_22 : decode cX10_free 22 = .ok (.iload_n 3, 1) := by decide +kernel
theorem dX10_free_23 : decode cX10_free 23 = .ok (.iload_n 1, 1) := by decide +kernel
theorem dX10_free_24 : decode cX10_free 24 = .ok (.invokevirtual 258, 3) := by decide +kernel
theorem dX10_free_27 : decode cX10_free 27 = .ok (.iconst (-1), 1) := by decide +kernel
theorem dX10_free_28 : decode cX10_free 28 = .ok (.if_icmp .ne 7, 3) := by decide +kernel
theorem dX10_free_31 : decode cX10_free 31 = .ok (.iconst 0, 1) := by decide +kernel
theorem dX10_free_32 : decode cX10_free 32 = .ok (.goto 14, 3) := by decide +kernel
theorem dX10_free_35 : decode cX10_free 35 = .ok (.aload_n 0, 1) := by decide +kernel
theorem dX10_free_36 : decode cX10_free 36 = .ok (.iload_n 3, 1) := by decide +kernel
theorem dX10_free_37 : decode cX10_free 37 = .ok (.invokevirtual 243, 3) := by decide +kernel
theorem dX10_free_40 : decode cX10_free 40 = .ok (.aload_n 0, 1) := by decide +kernel
theorem dX10_free_41 : decode cX10_free 41 = .ok (.iload_n 3, 1) := by decide +kernel
theorem dX10_free_42 : decode cX10_free 42 = .ok (.invokevirtual 240, 3) := by decide +kernel
theorem dX10_free_45 : decode cX10_free 45 = .ok (.isub, 1) := by decide +kernel
theorem dX10_free_46 : decode cX10_free 46 = .ok (.iadd, 1) := by decide +kernel
theorem dX10_free_47 : decode cX10_free 47 = .ok (.istore_n 2, 1) := by decide +kernel
theorem dX10_free_48 : decode cX10_free 48 = .ok (.iinc 3 1, 3) := by decide +kernel
theorem dX10_free_51 : decode cX10_free 51 = .ok (.goto (-37), 3) := by decide +kernel
theorem dX10_free_54 : decode cX10_free 54 = .ok (.iload_n 2, 1) := by decide +kernel
theorem dX10_free_55 : decode cX10_free 55 = .ok (.ireturn, 1) := by decide +kernel
theorem dX10_isHymn_0 : decode cX10_isHymn 0 = .ok (.iload_n 0, 1) := by decide +kernel
theorem dX10_isHymn_1 : decode cX10_isHymn 1 = .ok (.i2l, 1) := by decide +kernel
theorem dX10_isHymn_2 : decode cX10_isHymn 2 = .ok (.lconst 1, 1) := by decide +kernel
theorem dX10_isHymn_3 : decode cX10_isHymn 3 = .ok (.ldc2_w 385, 3) := by decide +kernel
theorem dX10_isHymn_6 : decode cX10_isHymn 6 = .ok (.invokestatic 92, 3) := by decide +kernel
theorem dX10_isHymn_9 : decode cX10_isHymn 9 = .ok (.ireturn, 1) := by decide +kernel
theorem dX10_canShow_0 : decode cX10_canShow 0 = .ok (.aload_n 0, 1) := by decide +kernel
theorem dX10_canShow_1 : decode cX10_canShow 1 = .ok (.iload_n 1, 1) := by decide +kernel
theorem dX10_canShow_2 : decode cX10_canShow 2 = .ok (.invokestatic 387, 3) := by decide +kernel
theorem dX10_canShow_5 : decode cX10_canShow 5 = .ok (.ifCond .ne 7, 3) := by decide +kernel
theorem dX10_canShow_8 : decode cX10_canShow 8 = .ok (.iconst 1, 1) := by decide +kernel
theorem dX10_canShow_9 : decode cX10_canShow 9 = .ok (.goto 4, 3) := by decide +kernel
theorem dX10_canShow_12 : decode cX10_canShow 12 = .ok (.iconst 0, 1) := by decide +kernel
theorem dX10_canShow_13 : decode cX10_canShow 13 = .ok (.invokevirtual 321, 3) := by decide +kernel
theorem dX10_canShow_16 : decode cX10_canShow 16 = .ok (.ifCond .eq 5, 3) := by decide +kernel
theorem dX10_canShow_19 : decode cX10_canShow 19 = .ok (.iconst 0, 1) := by decide +kernel
theorem dX10_canShow_20 : decode cX10_canShow 20 = .ok (.ireturn, 1) := by decide +kernel
theorem dX10_canShow_21 : decode cX10_canShow 21 = .ok (.aload_n 0, 1) := by decide +kernel
theorem dX10_canShow_22 : decode cX10_canShow 22 = .ok (.iconst 1, 1) := by decide +kernel
theorem dX10_canShow_23 : decode cX10_canShow 23 = .ok (.invokevirtual 303, 3) := by decide +kernel
theorem dX10_canShow_26 : decode cX10_canShow 26 = .ok (.aload_n 0, 1) := by decide +kernel
theorem dX10_canShow_27 : decode cX10_canShow 27 = .ok (.iload_n 1, 1) := by decide +kernel
theorem dX10_canShow_28 : decode cX10_canShow 28 = .ok (.iconst 1, 1) := by decide +kernel
theorem dX10_canShow_29 : decode cX10_canShow 29 = .ok (.invokevirtual 291, 3) := by decide +kernel
theorem dX10_canShow_32 : decode cX10_canShow 32 = .ok (.aload_n 0, 1) := by decide +kernel
theorem dX10_canShow_33 : decode cX10_canShow 33 = .ok (.invokevirtual 294, 3) := by decide +kernel
theorem dX10_canShow_36 : decode cX10_canShow 36 = .ok (.ifCond .ne 7, 3) := by decide +kernel
theorem dX10_canShow_39 : decode cX10_canShow 39 = .ok (.iconst 1, 1) := by decide +kernel
theorem dX10_canShow_40 : decode cX10_canShow 40 = .ok (.goto 4, 3) := by decide +kernel
theorem dX10_canShow_43 : decode cX10_canShow 43 = .ok (.iconst 0, 1) := by decide +kernel
theorem dX10_canShow_44 : decode cX10_canShow 44 = .ok (.ireturn, 1) := by decide +kernel
theorem dX10_most_0 : decode cX10_most 0 = .ok (.aload_n 0, 1) := by decide +kernel
theorem dX10_most_1 : decode cX10_most 1 = .ok (.iload_n 1, 1) := by decide +kernel
theorem dX10_most_2 : decode cX10_most 2 = .ok (.invokevirtual 382, 3) := by decide +kernel
theorem dX10_most_5 : decode cX10_most 5 = .ok (.ifCond .eq 5, 3) := by decide +kernel
theorem dX10_most_8 : decode cX10_most 8 = .ok (.iconst 0, 1) := by decide +kernel
theorem dX10_most_9 : decode cX10_most 9 = .ok (.ireturn, 1) := by decide +kernel
theorem dX10_most_10 : decode cX10_most 10 = .ok (.iconst 0, 1) := by decide +kernel
theorem dX10_most_11 : decode cX10_most 11 = .ok (.istore_n 2, 1) := by decide +kernel
theorem dX10_most_12 : decode cX10_most 12 = .ok (.iconst 0, 1) := by decide +kernel
theorem dX10_most_13 : decode cX10_most 13 = .ok (.istore_n 3, 1) := by decide +kernel
theorem dX10_most_14 : decode cX10_most 14 = .ok (.iload_n 3, 1) := by decide +kernel
theorem dX10_most_15 : decode cX10_most 15 = .ok (.bipush 42, 2) := by decide +kernel
theorem dX10_most_17 : decode cX10_most 17 = .ok (.if_icmp .ge 31, 3) := by decide +kernel
theorem dX10_most_20 : decode cX10_most 20 = .ok (.iload_n 2, 1) := by decide +kernel
theorem dX10_most_21 : decode cX10_most 21 = .ok (.aload_n 0, 1) := by decide +kernel
theorem dX10_most_22 : decode cX10_most 22 = .ok (.iload_n 3, 1) := by decide +kernel
theorem dX10_most_23 : decode cX10_most 23 = .ok (.iload_n 1, 1) := by decide +kernel
theorem dX10_most_24 : decode cX10_most 24 = .ok (.invokevirtual 258, 3) := by decide +kernel
theorem dX10_most_27 : decode cX10_most 27 = .ok (.iconst (-1), 1) := by decide +kernel
theorem dX10_most_28 : decode cX10_most 28 = .ok (.if_icmp .ne 7, 3) := by decide +kernel
theorem dX10_most_31 : decode cX10_most 31 = .ok (.iconst 0, 1) := by decide +kernel
theorem dX10_most_32 : decode cX10_most 32 = .ok (.goto 8, 3) := by decide +kernel
theorem dX10_most_35 : decode cX10_most 35 = .ok (.aload_n 0, 1) := by decide +kernel
theorem dX10_most_36 : decode cX10_most 36 = .ok (.iload_n 3, 1) := by decide +kernel
theorem dX10_most_37 : decode cX10_most 37 = .ok (.invokevirtual 243, 3) := by decide +kernel
theorem dX10_most_40 : decode cX10_most 40 = .ok (.iadd, 1) := by decide +kernel
theorem dX10_most_41 : decode cX10_most 41 = .ok (.istore_n 2, 1) := by decide +kernel
theorem dX10_most_42 : decode cX10_most 42 = .ok (.iinc 3 1, 3) := by decide +kernel
theorem dX10_most_45 : decode cX10_most 45 = .ok (.goto (-31), 3) := by decide +kernel
theorem dX10_most_48 : decode cX10_most 48 = .ok (.iload_n 2, 1) := by decide +kernel
theorem dX10_most_49 : decode cX10_most 49 = .ok (.ireturn, 1) := by decide +kernel
theorem dX10_turnedOnes_0 : decode cX10_turnedOnes 0 = .ok (.iconst 0, 1) := by decide +kernel
theorem dX10_turnedOnes_1 : decode cX10_turnedOnes 1 = .ok (.istore_n 1, 1) := by decide +kernel
theorem dX10_turnedOnes_2 : decode cX10_turnedOnes 2 = .ok (.iconst 0, 1) := by decide +kernel
theorem dX10_turnedOnes_3 : decode cX10_turnedOnes 3 = .ok (.istore_n 2, 1) := by decide +kernel
theorem dX10_turnedOnes_4 : decode cX10_turnedOnes 4 = .ok (.iload_n 2, 1) := by decide +kernel
theorem dX10_turnedOnes_5 : decode cX10_turnedOnes 5 = .ok (.bipush 54, 2) := by decide +kernel
theorem dX10_turnedOnes_7 : decode cX10_turnedOnes 7 = .ok (.if_icmp .ge 31, 3) := by decide +kernel
theorem dX10_turnedOnes_10 : decode cX10_turnedOnes 10 = .ok (.iload_n 1, 1) := by decide +kernel
theorem dX10_turnedOnes_11 : decode cX10_turnedOnes 11 = .ok (.aload_n 0, 1) := by decide +kernel
theorem dX10_turnedOnes_12 : decode cX10_turnedOnes 12 = .ok (.getfield 9, 3) := by decide +kernel
theorem dX10_turnedOnes_15 : decode cX10_turnedOnes 15 = .ok (.iload_n 2, 1) := by decide +kernel
theorem dX10_turnedOnes_16 : decode cX10_turnedOnes 16 = .ok (.iconst 2, 1) := by decide +kernel
theorem dX10_turnedOnes_17 : decode cX10_turnedOnes 17 = .ok (.invokestatic 234, 3) := by decide +kernel
theorem dX10_turnedOnes_20 : decode cX10_turnedOnes 20 = .ok (.iaload, 1) := by decide +kernel
theorem dX10_turnedOnes_21 : decode cX10_turnedOnes 21 = .ok (.iconst 2, 1) := by decide +kernel
theorem dX10_turnedOnes_22 : decode cX10_turnedOnes 22 = .ok (.if_icmp .lt 7, 3) := by decide +kernel
theorem dX10_turnedOnes_25 : decode cX10_turnedOnes 25 = .ok (.iconst 1, 1) := by decide +kernel
theorem dX10_turnedOnes_26 : decode cX10_turnedOnes 26 = .ok (.goto 4, 3) := by decide +kernel
theorem dX10_turnedOnes_29 : decode cX10_turnedOnes 29 = .ok (.iconst 0, 1) := by decide +kernel
theorem dX10_turnedOnes_30 : decode cX10_turnedOnes 30 = .ok (.iadd, 1) := by decide +kernel
theorem dX10_turnedOnes_31 : decode cX10_turnedOnes 31 = .ok (.istore_n 1, 1) := by decide +kernel
theorem dX10_turnedOnes_32 : decode cX10_turnedOnes 32 = .ok (.iinc 2 1, 3) := by decide +kernel
theorem dX10_turnedOnes_35 : decode cX10_turnedOnes 35 = .ok (.goto (-31), 3) := by decide +kernel
theorem dX10_turnedOnes_38 : decode cX10_turnedOnes 38 = .ok (.iload_n 1, 1) := by decide +kernel
theorem dX10_turnedOnes_39 : decode cX10_turnedOnes 39 = .ok (.ireturn, 1) := by decide +kernel
theorem dX10_backs_0 : decode cX10_backs 0 = .ok (.iconst 0, 1) := by decide +kernel
theorem dX10_backs_1 : decode cX10_backs 1 = .ok (.istore_n 1, 1) := by decide +kernel
theorem dX10_backs_2 : decode cX10_backs 2 = .ok (.iconst 0, 1) := by decide +kernel
theorem dX10_backs_3 : decode cX10_backs 3 = .ok (.istore_n 2, 1) := by decide +kernel
theorem dX10_backs_4 : decode cX10_backs 4 = .ok (.iload_n 2, 1) := by decide +kernel
theorem dX10_backs_5 : decode cX10_backs 5 = .ok (.bipush 54, 2) := by decide +kernel
theorem dX10_backs_7 : decode cX10_backs 7 = .ok (.if_icmp .ge 45, 3) := by decide +kernel
theorem dX10_backs_10 : decode cX10_backs 10 = .ok (.iload_n 1, 1) := by decide +kernel
theorem dX10_backs_11 : decode cX10_backs 11 = .ok (.aload_n 0, 1) := by decide +kernel
theorem dX10_backs_12 : decode cX10_backs 12 = .ok (.getfield 9, 3) := by decide +kernel
theorem dX10_backs_15 : decode cX10_backs 15 = .ok (.iload_n 2, 1) := by decide +kernel
theorem dX10_backs_16 : decode cX10_backs 16 = .ok (.iconst 2, 1) := by decide +kernel
theorem dX10_backs_17 : decode cX10_backs 17 = .ok (.invokestatic 234, 3) := by decide +kernel
theorem dX10_backs_20 : decode cX10_backs 20 = .ok (.iaload, 1) := by decide +kernel
theorem dX10_backs_21 : decode cX10_backs 21 = .ok (.iconst 1, 1) := by decide +kernel
theorem dX10_backs_22 : decode cX10_backs 22 = .ok (.if_icmp .eq 17, 3) := by decide +kernel
theorem dX10_backs_25 : decode cX10_backs 25 = .ok (.aload_n 0, 1) := by decide +kernel
theorem dX10_backs_26 : decode cX10_backs 26 = .ok (.getfield 9, 3) := by decide +kernel
theorem dX10_backs_29 : decode cX10_backs 29 = .ok (.iload_n 2, 1) := by decide +kernel
theorem dX10_backs_30 : decode cX10_backs 30 = .ok (.iconst 2, 1) := by decide +kernel
theorem dX10_backs_31 : decode cX10_backs 31 = .ok (.invokestatic 234, 3) := by decide +kernel
theorem dX10_backs_34 : decode cX10_backs 34 = .ok (.iaload, 1) := by decide +kernel
theorem dX10_backs_35 : decode cX10_backs 35 = .ok (.iconst 3, 1) := by decide +kernel
theorem dX10_backs_36 : decode cX10_backs 36 = .ok (.if_icmp .ne 7, 3) := by decide +kernel
theorem dX10_backs_39 : decode cX10_backs 39 = .ok (.iconst 1, 1) := by decide +kernel
theorem dX10_backs_40 : decode cX10_backs 40 = .ok (.goto 4, 3) := by decide +kernel
theorem dX10_backs_43 : decode cX10_backs 43 = .ok (.iconst 0, 1) := by decide +kernel
theorem dX10_backs_44 : decode cX10_backs 44 = .ok (.iadd, 1) := by decide +kernel
theorem dX10_backs_45 : decode cX10_backs 45 = .ok (.istore_n 1, 1) := by decide +kernel
theorem dX10_backs_46 : decode cX10_backs 46 = .ok (.iinc 2 1, 3) := by decide +kernel
theorem dX10_backs_49 : decode cX10_backs 49 = .ok (.goto (-45), 3) := by decide +kernel
theorem dX10_backs_52 : decode cX10_backs 52 = .ok (.iload_n 1, 1) := by decide +kernel
theorem dX10_backs_53 : decode cX10_backs 53 = .ok (.ireturn, 1) := by decide +kernel
theorem dX10_borrowedOnes_0 : decode cX10_borrowedOnes 0 = .ok (.iconst 0, 1) := by decide +kernel
theorem dX10_borrowedOnes_1 : decode cX10_borrowedOnes 1 = .ok (.istore_n 1, 1) := by decide +kernel
theorem dX10_borrowedOnes_2 : decode cX10_borrowedOnes 2 = .ok (.iconst 0, 1) := by decide +kernel
theorem dX10_borrowedOnes_3 : decode cX10_borrowedOnes 3 = .ok (.istore_n 2, 1) := by decide +kernel
theorem dX10_borrowedOnes_4 : decode cX10_borrowedOnes 4 = .ok (.iload_n 2, 1) := by decide +kernel
theorem dX10_borrowedOnes_5 : decode cX10_borrowedOnes 5 = .ok (.bipush 54, 2) := by decide +kernel
theorem dX10_borrowedOnes_7 : decode cX10_borrowedOnes 7 = .ok (.if_icmp .ge 41, 3) := by decide +kernel
theorem dX10_borrowedOnes_10 : decode cX10_borrowedOnes 10 = .ok (.iload_n 1, 1) := by decide +kernel
theorem dX10_borrowedOnes_11 : decode cX10_borrowedOnes 11 = .ok (.aload_n 0, 1) := by decide +kernel
theorem dX10_borrowedOnes_12 : decode cX10_borrowedOnes 12 = .ok (.iload_n 2, 1) := by decide +kernel
theorem dX10_borrowedOnes_13 : decode cX10_borrowedOnes 13 = .ok (.invokevirtual 237, 3) := by decide +kernel
theorem dX10_borrowedOnes_16 : decode cX10_borrowedOnes 16 = .ok (.ifCond .eq 23, 3) := by decide +kernel
theorem dX10_borrowedOnes_19 : decode cX10_borrowedOnes 19 = .ok (.aload_n 0, 1) := by decide +kernel
theorem dX10_borrowedOnes_20 : decode cX10_borrowedOnes 20 = .ok (.getfield 9, 3) := by decide +kernel
theorem dX10_borrowedOnes_23 : decode cX10_borrowedOnes 23 = .ok (.iload_n 2, 1) := by decide +kernel
theorem dX10_borrowedOnes_24 : decode cX10_borrowedOnes 24 = .ok (.iconst 1, 1) := by decide +kernel
theorem dX10_borrowedOnes_25 : decode cX10_borrowedOnes 25 = .ok (.invokestatic 234, 3) := by decide +kernel
theorem dX10_borrowedOnes_28 : decode cX10_borrowedOnes 28 = .ok (.iaload, 1) := by decide +kernel
theorem dX10_borrowedOnes_29 : decode cX10_borrowedOnes 29 = .ok (.invokestatic 211, 3) := by decide +kernel
theorem dX10_borrowedOnes_32 : decode cX10_borrowedOnes 32 = .ok (.ifCond .ne 7, 3) := by decide +kernel
theorem dX10_borrowedOnes_35 : decode cX10_borrowedOnes 35 = .ok (.iconst 1, 1) := by decide +kernel
theorem dX10_borrowedOnes_36 : decode cX10_borrowedOnes 36 = .ok (.goto 4, 3) := by decide +kernel
theorem dX10_borrowedOnes_39 : decode cX10_borrowedOnes 39 = .ok (.iconst 0, 1) := by decide +kernel
theorem dX10_borrowedOnes_40 : decode cX10_borrowedOnes 40 = .ok (.iadd, 1) := by decide +kernel
theorem dX10_borrowedOnes_41 : decode cX10_borrowedOnes 41 = .ok (.istore_n 1, 1) := by decide +kernel
theorem dX10_borrowedOnes_42 : decode cX10_borrowedOnes 42 = .ok (.iinc 2 1, 3) := by decide +kernel
theorem dX10_borrowedOnes_45 : decode cX10_borrowedOnes 45 = .ok (.goto (-41), 3) := by decide +kernel
theorem dX10_borrowedOnes_48 : decode cX10_borrowedOnes 48 = .ok (.iload_n 1, 1) := by decide +kernel
theorem dX10_borrowedOnes_49 : decode cX10_borrowedOnes 49 = .ok (.ireturn, 1) := by decide +kernel
theorem dX10_toldOf_0 : decode cX10_toldOf 0 = .ok (.iload_n 1, 1) := by decide +kernel
theorem dX10_toldOf_1 : decode cX10_toldOf 1 = .ok (.tableswitch 69 0 5 #[39, 44, 49, 54, 59, 64], 39) := by decide +kernel
theorem dX10_toldOf_40 : decode cX10_toldOf 40 = .ok (.aload_n 0, 1) := by decide +kernel
theorem dX10_toldOf_41 : decode cX10_toldOf 41 = .ok (.getfield 276, 3) := by decide +kernel
theorem dX10_toldOf_44 : decode cX10_toldOf 44 = .ok (.ireturn, 1) := by decide +kernel
theorem dX10_toldOf_45 : decode cX10_toldOf 45 = .ok (.aload_n 0, 1) := by decide +kernel
theorem dX10_toldOf_46 : decode cX10_toldOf 46 = .ok (.getfield 279, 3) := by decide +kernel
theorem dX10_toldOf_49 : decode cX10_toldOf 49 = .ok (.ireturn, 1) := by decide +kernel
theorem dX10_toldOf_50 : decode cX10_toldOf 50 = .ok (.aload_n 0, 1) := by decide +kernel
theorem dX10_toldOf_51 : decode cX10_toldOf 51 = .ok (.getfield 313, 3) := by decide +kernel
theorem dX10_toldOf_54 : decode cX10_toldOf 54 = .ok (.ireturn, 1) := by decide +kernel
theorem dX10_toldOf_55 : decode cX10_toldOf 55 = .ok (.aload_n 0, 1) := by decide +kernel
theorem dX10_toldOf_56 : decode cX10_toldOf 56 = .ok (.invokevirtual 325, 3) := by decide +kernel
theorem dX10_toldOf_59 : decode cX10_toldOf 59 = .ok (.ireturn, 1) := by decide +kernel
theorem dX10_toldOf_60 : decode cX10_toldOf 60 = .ok (.aload_n 0, 1) := by decide +kernel
theorem dX10_toldOf_61 : decode cX10_toldOf 61 = .ok (.invokevirtual 390, 3) := by decide +kernel
theorem dX10_toldOf_64 : decode cX10_toldOf 64 = .ok (.ireturn, 1) := by decide +kernel
theorem dX10_toldOf_65 : decode cX10_toldOf 65 = .ok (.aload_n 0, 1) := by decide +kernel
theorem dX10_toldOf_66 : decode cX10_toldOf 66 = .ok (.invokevirtual 393, 3) := by decide +kernel
theorem dX10_toldOf_69 : decode cX10_toldOf 69 = .ok (.ireturn, 1) := by decide +kernel
theorem dX10_toldOf_70 : decode cX10_toldOf 70 = .ok (.aload_n 0, 1) := by decide +kernel
theorem dX10_toldOf_71 : decode cX10_toldOf 71 = .ok (.invokevirtual 396, 3) := by decide +kernel
theorem dX10_toldOf_74 : decode cX10_toldOf 74 = .ok (.ireturn, 1) := by decide +kernel
theorem dX10_tries_0 : decode cX10_tries 0 = .ok (.aload_n 0, 1) := by decide +kernel
theorem dX10_tries_1 : decode cX10_tries 1 = .ok (.invokevirtual 196, 3) := by decide +kernel
theorem dX10_tries_4 : decode cX10_tries 4 = .ok (.aload_n 0, 1) := by decide +kernel
theorem dX10_tries_5 : decode cX10_tries 5 = .ok (.iload_n 1, 1) := by decide +kernel
theorem dX10_tries_6 : decode cX10_tries 6 = .ok (.invokevirtual 399, 3) := by decide +kernel
theorem dX10_tries_9 : decode cX10_tries 9 = .ok (.istore_n 2, 1) := by decide +kernel
theorem dX10_tries_10 : decode cX10_tries 10 = .ok (.return_, 1) := by decide +kernel
theorem dX10_would_0 : decode cX10_would 0 = .ok (.aload_n 0, 1) := by decide +kernel
theorem dX10_would_1 : decode cX10_would 1 = .ok (.iload_n 1, 1) := by decide +kernel
theorem dX10_would_2 : decode cX10_would 2 = .ok (.invokevirtual 368, 3) := by decide +kernel
theorem dX10_would_5 : decode cX10_would 5 = .ok (.ifCond .ne 28, 3) := by decide +kernel
theorem dX10_would_8 : decode cX10_would 8 = .ok (.aload_n 0, 1) := by decide +kernel
theorem dX10_would_9 : decode cX10_would 9 = .ok (.iload_n 2, 1) := by decide +kernel
theorem dX10_would_10 : decode cX10_would 10 = .ok (.i2l, 1) := by decide +kernel
theorem dX10_would_11 : decode cX10_would 11 = .ok (.lconst 0, 1) := by decide +kernel
theorem dX10_would_12 : decode cX10_would 12 = .ok (.ldc2_w 402, 3) := by decide +kernel
theorem dX10_would_15 : decode cX10_would 15 = .ok (.invokestatic 92, 3) := by decide +kernel
theorem dX10_would_18 : decode cX10_would 18 = .ok (.ifCond .ne 7, 3) := by decide +kernel
theorem dX10_would_21 : decode cX10_would 21 = .ok (.iconst 1, 1) := by decide +kernel
theorem dX10_would_22 : decode cX10_would 22 = .ok (.goto 4, 3) := by decide +kernel
theorem dX10_would_25 : decode cX10_would 25 = .ok (.iconst 0, 1) := by decide +kernel
theorem dX10_would_26 : decode cX10_would 26 = .ok (.iconst 2, 1) := by decide +kernel
theorem dX10_would_27 : decode cX10_would 27 = .ok (.invokevirtual 340, 3) := by decide +kernel
theorem dX10_would_30 : decode cX10_would 30 = .ok (.ifCond .eq 5, 3) := by decide +kernel
theorem dX10_would_33 : decode cX10_would 33 = .ok (.iconst 0, 1) := by decide +kernel
theorem dX10_would_34 : decode cX10_would 34 = .ok (.ireturn, 1) := by decide +kernel
theorem dX10_would_35 : decode cX10_would 35 = .ok (.aload_n 0, 1) := by decide +kernel
theorem dX10_would_36 : decode cX10_would 36 = .ok (.iload_n 1, 1) := by decide +kernel
theorem dX10_would_37 : decode cX10_would 37 = .ok (.invokevirtual 404, 3) := by decide +kernel
theorem dX10_would_40 : decode cX10_would 40 = .ok (.aload_n 0, 1) := by decide +kernel
theorem dX10_would_41 : decode cX10_would 41 = .ok (.aload_n 0, 1) := by decide +kernel
theorem dX10_would_42 : decode cX10_would 42 = .ok (.iload_n 2, 1) := by decide +kernel
theorem dX10_would_43 : decode cX10_would 43 = .ok (.invokevirtual 407, 3) := by decide +kernel
theorem dX10_would_46 : decode cX10_would 46 = .ok (.invokevirtual 202, 3) := by decide +kernel
theorem dX10_would_49 : decode cX10_would 49 = .ok (.ireturn, 1) := by decide +kernel
theorem dX10_outAt_0 : decode cX10_outAt 0 = .ok (.aload_n 0, 1) := by decide +kernel
theorem dX10_outAt_1 : decode cX10_outAt 1 = .ok (.iload_n 1, 1) := by decide +kernel
theorem dX10_outAt_2 : decode cX10_outAt 2 = .ok (.invokevirtual 368, 3) := by decide +kernel
theorem dX10_outAt_5 : decode cX10_outAt 5 = .ok (.ifCond .eq 5, 3) := by decide +kernel
theorem dX10_outAt_8 : decode cX10_outAt 8 = .ok (.iconst 0, 1) := by decide +kernel
theorem dX10_outAt_9 : decode cX10_outAt 9 = .ok (.ireturn, 1) := by decide +kernel
theorem dX10_outAt_10 : decode cX10_outAt 10 = .ok (.aload_n 0, 1) := by decide +kernel
theorem dX10_outAt_11 : decode cX10_outAt 11 = .ok (.iload_n 1, 1) := by decide +kernel
theorem dX10_outAt_12 : decode cX10_outAt 12 = .ok (.invokevirtual 404, 3) := by decide +kernel
theorem dX10_outAt_15 : decode cX10_outAt 15 = .ok (.aload_n 0, 1) := by decide +kernel
theorem dX10_outAt_16 : decode cX10_outAt 16 = .ok (.iconst 0, 1) := by decide +kernel
theorem dX10_outAt_17 : decode cX10_outAt 17 = .ok (.invokevirtual 202, 3) := by decide +kernel
theorem dX10_outAt_20 : decode cX10_outAt 20 = .ok (.istore_n 2, 1) := by decide +kernel
theorem dX10_outAt_21 : decode cX10_outAt 21 = .ok (.aload_n 0, 1) := by decide +kernel
theorem dX10_outAt_22 : decode cX10_outAt 22 = .ok (.getfield 282, 3) := by decide +kernel
theorem dX10_outAt_25 : decode cX10_outAt 25 = .ok (.iconst (-1), 1) := by decide +kernel
theorem dX10_outAt_26 : decode cX10_outAt 26 = .ok (.if_icmp .ne 5, 3) := by decide +kernel
theorem dX10_outAt_29 : decode cX10_outAt 29 = .ok (.iconst (-1), 1) := by decide +kernel
theorem dX10_outAt_30 : decode cX10_outAt 30 = .ok (.ireturn, 1) := by decide +kernel
theorem dX10_outAt_31 : decode cX10_outAt 31 = .ok (.aload_n 0, 1) := by decide +kernel
theorem dX10_outAt_32 : decode cX10_outAt 32 = .ok (.aload_n 0, 1) := by decide +kernel
theorem dX10_outAt_33 : decode cX10_outAt 33 = .ok (.getfield 282, 3) := by decide +kernel
theorem dX10_outAt_36 : decode cX10_outAt 36 = .ok (.invokevirtual 273, 3) := by decide +kernel
theorem dX10_outAt_39 : decode cX10_outAt 39 = .ok (.istore_n 3, 1) := by decide +kernel
theorem dX10_outAt_40 : decode cX10_outAt 40 = .ok (.bipush 100, 2) := by decide +kernel
theorem dX10_outAt_42 : decode cX10_outAt 42 = .ok (.iload_n 3, 1) := by decide +kernel
theorem dX10_outAt_43 : decode cX10_outAt 43 = .ok (.imul, 1) := by decide +kernel
theorem dX10_outAt_44 : decode cX10_outAt 44 = .ok (.aload_n 0, 1) := by decide +kernel
theorem dX10_outAt_45 : decode cX10_outAt 45 = .ok (.getfield 282, 3) := by decide +kernel
theorem dX10_outAt_48 : decode cX10_outAt 48 = .ok (.iadd, 1) := by decide +kernel
theorem dX10_outAt_49 : decode cX10_outAt 49 = .ok (.aload_n 0, 1) := by decide +kernel
theorem dX10_outAt_50 : decode cX10_outAt 50 = .ok (.iload_n 3, 1) := by decide +kernel
theorem dX10_outAt_51 : decode cX10_outAt 51 = .ok (.invokevirtual 270, 3) := by decide +kernel
theorem dX10_outAt_54 : decode cX10_outAt 54 = .ok (.isub, 1) := by decide +kernel
theorem dX10_outAt_55 : decode cX10_outAt 55 = .ok (.ireturn, 1) := by decide +kernel
theorem dX10_missing_0 : decode cX10_missing 0 = .ok (.aload_n 0, 1) := by decide +kernel
theorem dX10_missing_1 : decode cX10_missing 1 = .ok (.iload_n 1, 1) := by decide +kernel
theorem dX10_missing_2 : decode cX10_missing 2 = .ok (.invokevirtual 368, 3) := by decide +kernel
theorem dX10_missing_5 : decode cX10_missing 5 = .ok (.ifCond .eq 5, 3) := by decide +kernel
theorem dX10_missing_8 : decode cX10_missing 8 = .ok (.iconst 0, 1) := by decide +kernel
theorem dX10_missing_9 : decode cX10_missing 9 = .ok (.ireturn, 1) := by decide +kernel
theorem dX10_missing_10 : decode cX10_missing 10 = .ok (.aload_n 0, 1) := by decide +kernel
theorem dX10_missing_11 : decode cX10_missing 11 = .ok (.iconst 0, 1) := by decide +kernel
theorem dX10_missing_12 : decode cX10_missing 12 = .ok (.invokevirtual 303, 3) := by decide +kernel
theorem dX10_missing_15 : decode cX10_missing 15 = .ok (.iconst 0, 1) := by decide +kernel
theorem dX10_missing_16 : decode cX10_missing 16 = .ok (.istore_n 2, 1) := by decide +kernel
theorem dX10_missing_17 : decode cX10_missing 17 = .ok (.iload_n 2, 1) := by decide +kernel
theorem dX10_missing_18 : decode cX10_missing 18 = .ok (.aload_n 0, 1) := by decide +kernel
theorem dX10_missing_19 : decode cX10_missing 19 = .ok (.invokevirtual 285, 3) := by decide +kernel
theorem dX10_missing_22 : decode cX10_missing 22 = .ok (.if_icmp .ge 27, 3) := by decide +kernel
theorem dX10_missing_25 : decode cX10_missing 25 = .ok (.aload_n 0, 1) := by decide +kernel
theorem dX10_missing_26 : decode cX10_missing 26 = .ok (.iload_n 1, 1) := by decide +kernel
theorem dX10_missing_27 : decode cX10_missing 27 = .ok (.iload_n 2, 1) := by decide +kernel
theorem dX10_missing_28 : decode cX10_missing 28 = .ok (.invokevirtual 288, 3) := by decide +kernel
theorem dX10_missing_31 : decode cX10_missing 31 = .ok (.istore_n 3, 1) := by decide +kernel
theorem dX10_missing_32 : decode cX10_missing 32 = .ok (.iload_n 3, 1) := by decide +kernel
theorem dX10_missing_33 : decode cX10_missing 33 = .ok (.iconst (-1), 1) := by decide +kernel
theorem dX10_missing_34 : decode cX10_missing 34 = .ok (.if_icmp .eq 9, 3) := by decide +kernel
theorem dX10_missing_37 : decode cX10_missing 37 = .ok (.aload_n 0, 1) := by decide +kernel
theorem dX10_missing_38 : decode cX10_missing 38 = .ok (.iload_n 3, 1) := by decide +kernel
theorem dX10_missing_39 : decode cX10_missing 39 = .ok (.iconst 1, 1) := by decide +kernel
theorem dX10_missing_40 : decode cX10_missing 40 = .ok (.invokevirtual 291, 3) := by decide +kernel
theorem dX10_missing_43 : decode cX10_missing 43 = .ok (.iinc 2 1, 3) := by decide +kernel
theorem dX10_missing_46 : decode cX10_missing 46 = .ok (.goto (-29), 3) := by decide +kernel
theorem dX10_missing_49 : decode cX10_missing 49 = .ok (.aload_n 0, 1) := by decide +kernel
theorem dX10_missing_50 : decode cX10_missing 50 = .ok (.invokevirtual 294, 3) := by decide +kernel
theorem dX10_missing_53 : decode cX10_missing 53 = .ok (.ireturn, 1) := by decide +kernel
theorem dX10_rowsWith_0 : decode cX10_rowsWith 0 = .ok (.aload_n 0, 1) := by decide +kernel
theorem dX10_rowsWith_1 : decode cX10_rowsWith 1 = .ok (.iload_n 2, 1) := by decide +kernel
theorem dX10_rowsWith_2 : decode cX10_rowsWith 2 = .ok (.putfield 37, 3) := by decide +kernel
theorem dX10_rowsWith_5 : decode cX10_rowsWith 5 = .ok (.aload_n 0, 1) := by decide +kernel
theorem dX10_rowsWith_6 : decode cX10_rowsWith 6 = .ok (.iload_n 1, 1) := by decide +kernel
theorem dX10_rowsWith_7 : decode cX10_rowsWith 7 = .ok (.invokevirtual 404, 3) := by decide +kernel
theorem dX10_rowsWith_10 : decode cX10_rowsWith 10 = .ok (.aload_n 0, 1) := by decide +kernel
theorem dX10_rowsWith_11 : decode cX10_rowsWith 11 = .ok (.aload_n 0, 1) := by decide +kernel
theorem dX10_rowsWith_12 : decode cX10_rowsWith 12 = .ok (.getfield 276, 3) := by decide +kernel
theorem dX10_rowsWith_15 : decode cX10_rowsWith 15 = .ok (.invokevirtual 202, 3) := by decide +kernel
theorem dX10_rowsWith_18 : decode cX10_rowsWith 18 = .ok (.istore_n 3, 1) := by decide +kernel
theorem dX10_rowsWith_19 : decode cX10_rowsWith 19 = .ok (.aload_n 0, 1) := by decide +kernel
theorem dX10_rowsWith_20 : decode cX10_rowsWith 20 = .ok (.iconst (-1), 1) := by decide +kernel
theorem dX10_rowsWith_21 : decode cX10_rowsWith 21 = .ok (.putfield 37, 3) := by decide +kernel
theorem dX10_rowsWith_24 : decode cX10_rowsWith 24 = .ok (.iload_n 3, 1) := by decide +kernel
theorem dX10_rowsWith_25 : decode cX10_rowsWith 25 = .ok (.ireturn, 1) := by decide +kernel
theorem dX10_bestBuy_0 : decode cX10_bestBuy 0 = .ok (.aload_n 0, 1) := by decide +kernel
theorem dX10_bestBuy_1 : decode cX10_bestBuy 1 = .ok (.iload_n 1, 1) := by decide +kernel
theorem dX10_bestBuy_2 : decode cX10_bestBuy 2 = .ok (.invokevirtual 368, 3) := by decide +kernel
theorem dX10_bestBuy_5 : decode cX10_bestBuy 5 = .ok (.ifCond .eq 5, 3) := by decide +kernel
theorem dX10_bestBuy_8 : decode cX10_bestBuy 8 = .ok (.iconst 0, 1) := by decide +kernel
theorem dX10_bestBuy_9 : decode cX10_bestBuy 9 = .ok (.ireturn, 1) := by decide +kernel
theorem dX10_bestBuy_10 : decode cX10_bestBuy 10 = .ok (.iconst (-1), 1) := by decide +kernel
theorem dX10_bestBuy_11 : decode cX10_bestBuy 11 = .ok (.istore_n 2, 1) := by decide +kernel
theorem dX10_bestBuy_12 : decode cX10_bestBuy 12 = .ok (.aload_n 0, 1) := by decide +kernel
theorem dX10_bestBuy_13 : decode cX10_bestBuy 13 = .ok (.iload_n 1, 1) := by decide +kernel
theorem dX10_bestBuy_14 : decode cX10_bestBuy 14 = .ok (.iconst (-1), 1) := by decide +kernel
theorem dX10_bestBuy_15 : decode cX10_bestBuy 15 = .ok (.invokevirtual 410, 3) := by decide +kernel
theorem dX10_bestBuy_18 : decode cX10_bestBuy 18 = .ok (.istore_n 3, 1) := by decide +kernel
theorem dX10_bestBuy_19 : decode cX10_bestBuy 19 = .ok (.iconst 0, 1) := by decide +kernel
theorem dX10_bestBuy_20 : decode cX10_bestBuy 20 = .ok (.istore 4, 2) := by decide +kernel
theorem dX10_bestBuy_22 : decode cX10_bestBuy 22 = .ok (.iload 4, 2) := by decide +kernel
theorem dX10_bestBuy_24 : decode cX10_bestBuy 24 = .ok (.bipush 10, 2) := by decide +kernel
theorem dX10_bestBuy_26 : decode cX10_bestBuy 26 = .ok (.if_icmp .ge 33, 3) := by decide +kernel
theorem dX10_bestBuy_29 : decode cX10_bestBuy 29 = .ok (.aload_n 0, 1) := by decide +kernel
theorem dX10_bestBuy_30 : decode cX10_bestBuy 30 = .ok (.iload_n 1, 1) := by decide +kernel
theorem dX10_bestBuy_31 : decode cX10_bestBuy 31 = .ok (.iload 4, 2) := by decide +kernel
theorem dX10_bestBuy_33 : decode cX10_bestBuy 33 = .ok (.invokevirtual 410, 3) := by decide +kernel
theorem dX10_bestBuy_36 : decode cX10_bestBuy 36 = .ok (.istore 5, 2) := by decide +kernel
theorem dX10_bestBuy_38 : decode cX10_bestBuy 38 = .ok (.iload 5, 2) := by decide +kernel
theorem dX10_bestBuy_40 : decode cX10_bestBuy 40 = .ok (.iload_n 3, 1) := by decide +kernel
theorem dX10_bestBuy_41 : decode cX10_bestBuy 41 = .ok (.if_icmp .gt 6, 3) := by decide +kernel
theorem dX10_bestBuy_44 : decode cX10_bestBuy 44 = .ok (.goto 9, 3) := by decide +kernel
theorem dX10_bestBuy_47 : decode cX10_bestBuy 47 = .ok (.iload 4, 2) := by decide +kernel
theorem dX10_bestBuy_49 : decode cX10_bestBuy 49 = .ok (.istore_n 2, 1) := by decide +kernel
theorem dX10_bestBuy_50 : decode cX10_bestBuy 50 = .ok (.iload 5, 2) := by decide +kernel
theorem dX10_bestBuy_52 : decode cX10_bestBuy 52 = .ok (.istore_n 3, 1) := by decide +kernel
theorem dX10_bestBuy_53 : decode cX10_bestBuy 53 = .ok (.iinc 4 1, 3) := by decide +kernel
theorem dX10_bestBuy_56 : decode cX10_bestBuy 56 = .ok (.goto (-34), 3) := by decide +kernel
theorem dX10_bestBuy_59 : decode cX10_bestBuy 59 = .ok (.iload_n 2, 1) := by decide +kernel
theorem dX10_bestBuy_60 : decode cX10_bestBuy 60 = .ok (.ireturn, 1) := by decide +kernel
theorem dX10_firstOut_0 : decode cX10_firstOut 0 = .ok (.aload_n 0, 1) := by decide +kernel
theorem dX10_firstOut_1 : decode cX10_firstOut 1 = .ok (.iconst 0, 1) := by decide +kernel
theorem dX10_firstOut_2 : decode cX10_firstOut 2 = .ok (.putfield 58, 3) := by decide +kernel
theorem dX10_firstOut_5 : decode cX10_firstOut 5 = .ok (.iconst 0, 1) := by decide +kernel
theorem dX10_firstOut_6 : decode cX10_firstOut 6 = .ok (.istore_n 1, 1) := by decide +kernel
theorem dX10_firstOut_7 : decode cX10_firstOut 7 = .ok (.iload_n 1, 1) := by decide +kernel
theorem dX10_firstOut_8 : decode cX10_firstOut 8 = .ok (.aload_n 0, 1) := by decide +kernel
theorem dX10_firstOut_9 : decode cX10_firstOut 9 = .ok (.getfield 9, 3) := by decide +kernel
theorem dX10_firstOut_12 : decode cX10_firstOut 12 = .ok (.iconst 5, 1) := by decide +kernel
theorem dX10_firstOut_13 : decode cX10_firstOut 13 = .ok (.iaload, 1) := by decide +kernel
theorem dX10_firstOut_14 : decode cX10_firstOut 14 = .ok (.if_icmp .ge 27, 3) := by decide +kernel
theorem dX10_firstOut_17 : decode cX10_firstOut 17 = .ok (.aload_n 0, 1) := by decide +kernel
theorem dX10_firstOut_18 : decode cX10_firstOut 18 = .ok (.iload_n 1, 1) := by decide +kernel
theorem dX10_firstOut_19 : decode cX10_firstOut 19 = .ok (.invokevirtual 404, 3) := by decide +kernel
theorem dX10_firstOut_22 : decode cX10_firstOut 22 = .ok (.aload_n 0, 1) := by decide +kernel
theorem dX10_firstOut_23 : decode cX10_firstOut 23 = .ok (.aload_n 0, 1) := by decide +kernel
theorem dX10_firstOut_24 : decode cX10_firstOut 24 = .ok (.getfield 279, 3) := by decide +kernel
theorem dX10_firstOut_27 : decode cX10_firstOut 27 = .ok (.invokevirtual 202, 3) := by decide +kernel
theorem dX10_firstOut_30 : decode cX10_firstOut 30 = .ok (.ifCond .le 5, 3) := by decide +kernel
theorem dX10_firstOut_33 : decode cX10_firstOut 33 = .ok (.iload_n 1, 1) := by decide +kernel
theorem dX10_firstOut_34 : decode cX10_firstOut 34 = .ok (.ireturn, 1) := by decide +kernel
theorem dX10_firstOut_35 : decode cX10_firstOut 35 = .ok (.iinc 1 1, 3) := by decide +kernel
theorem dX10_firstOut_38 : decode cX10_firstOut 38 = .ok (.goto (-31), 3) := by decide +kernel
theorem dX10_firstOut_41 : decode cX10_firstOut 41 = .ok (.iconst (-1), 1) := by decide +kernel
theorem dX10_firstOut_42 : decode cX10_firstOut 42 = .ok (.ireturn, 1) := by decide +kernel
theorem dX10_workFrom_0 : decode cX10_workFrom 0 = .ok (.aload_n 0, 1) := by decide +kernel
theorem dX10_workFrom_1 : decode cX10_workFrom 1 = .ok (.aload_n 0, 1) := by decide +kernel
theorem dX10_workFrom_2 : decode cX10_workFrom 2 = .ok (.iload_n 1, 1) := by decide +kernel
theorem dX10_workFrom_3 : decode cX10_workFrom 3 = .ok (.invokevirtual 365, 3) := by decide +kernel
theorem dX10_workFrom_6 : decode cX10_workFrom 6 = .ok (.ifCond .eq 11, 3) := by decide +kernel
theorem dX10_workFrom_9 : decode cX10_workFrom 9 = .ok (.aload_n 0, 1) := by decide +kernel
theorem dX10_workFrom_10 : decode cX10_workFrom 10 = .ok (.iload_n 2, 1) := by decide +kernel
theorem dX10_workFrom_11 : decode cX10_workFrom 11 = .ok (.invokevirtual 365, 3) := by decide +kernel
theorem dX10_workFrom_14 : decode cX10_workFrom 14 = .ok (.ifCond .ne 7, 3) := by decide +kernel
theorem dX10_workFrom_17 : decode cX10_workFrom 17 = .ok (.iconst 1, 1) := by decide +kernel
theorem dX10_workFrom_18 : decode cX10_workFrom 18 = .ok (.goto 4, 3) := by decide +kernel
theorem dX10_workFrom_21 : decode cX10_workFrom 21 = .ok (.iconst 0, 1) := by decide +kernel
theorem dX10_workFrom_22 : decode cX10_workFrom 22 = .ok (.invokevirtual 321, 3) := by decide +kernel
theorem dX10_workFrom_25 : decode cX10_workFrom 25 = .ok (.ifCond .eq 5, 3) := by decide +kernel
theorem dX10_workFrom_28 : decode cX10_workFrom 28 = .ok (.iconst 0, 1) := by decide +kernel
theorem dX10_workFrom_29 : decode cX10_workFrom 29 = .ok (.ireturn, 1) := by decide +kernel
theorem dX10_workFrom_30 : decode cX10_workFrom 30 = .ok (.aload_n 0, 1) := by decide +kernel
theorem dX10_workFrom_31 : decode cX10_workFrom 31 = .ok (.iload_n 1, 1) := by decide +kernel
theorem dX10_workFrom_32 : decode cX10_workFrom 32 = .ok (.invokevirtual 404, 3) := by decide +kernel
theorem dX10_workFrom_35 : decode cX10_workFrom 35 = .ok (.aload_n 0, 1) := by decide +kernel
theorem dX10_workFrom_36 : decode cX10_workFrom 36 = .ok (.aload_n 0, 1) := by decide +kernel
theorem dX10_workFrom_37 : decode cX10_workFrom 37 = .ok (.iload_n 2, 1) := by decide +kernel
theorem dX10_workFrom_38 : decode cX10_workFrom 38 = .ok (.invokevirtual 399, 3) := by decide +kernel
theorem dX10_workFrom_41 : decode cX10_workFrom 41 = .ok (.invokevirtual 202, 3) := by decide +kernel
theorem dX10_workFrom_44 : decode cX10_workFrom 44 = .ok (.ireturn, 1) := by decide +kernel
theorem dX10_easiest_0 : decode cX10_easiest 0 = .ok (.aload_n 0, 1) := by decide +kernel
theorem dX10_easiest_1 : decode cX10_easiest 1 = .ok (.iconst 0, 1) := by decide +kernel
theorem dX10_easiest_2 : decode cX10_easiest 2 = .ok (.putfield 58, 3) := by decide +kernel
theorem dX10_easiest_5 : decode cX10_easiest 5 = .ok (.iconst (-1), 1) := by decide +kernel
theorem dX10_easiest_6 : decode cX10_easiest 6 = .ok (.istore_n 1, 1) := by decide +kernel
theorem dX10_easiest_7 : decode cX10_easiest 7 = .ok (.iconst 0, 1) := by decide +kernel
theorem dX10_easiest_8 : decode cX10_easiest 8 = .ok (.istore_n 2, 1) := by decide +kernel
theorem dX10_easiest_9 : decode cX10_easiest 9 = .ok (.iconst 0, 1) := by decide +kernel
theorem dX10_easiest_10 : decode cX10_easiest 10 = .ok (.istore_n 3, 1) := by decide +kernel
theorem dX10_easiest_11 : decode cX10_easiest 11 = .ok (.iload_n 3, 1) := by decide +kernel
theorem dX10_easiest_12 : decode cX10_easiest 12 = .ok (.aload_n 0, 1) := by decide +kernel
theorem dX10_easiest_13 : decode cX10_easiest 13 = .ok (.getfield 9, 3) := by decide +kernel
theorem dX10_easiest_16 : decode cX10_easiest 16 = .ok (.iconst 5, 1) := by decide +kernel
theorem dX10_easiest_17 : decode cX10_easiest 17 = .ok (.iaload, 1) := by decide +kernel
theorem dX10_easiest_18 : decode cX10_easiest 18 = .ok (.if_icmp .ge 43, 3) := by decide +kernel
theorem dX10_easiest_21 : decode cX10_easiest 21 = .ok (.aload_n 0, 1) := by decide +kernel
theorem dX10_easiest_22 : decode cX10_easiest 22 = .ok (.iload_n 3, 1) := by decide +kernel
theorem dX10_easiest_23 : decode cX10_easiest 23 = .ok (.invokevirtual 404, 3) := by decide +kernel
theorem dX10_easiest_26 : decode cX10_easiest 26 = .ok (.aload_n 0, 1) := by decide +kernel
theorem dX10_easiest_27 : decode cX10_easiest 27 = .ok (.aload_n 0, 1) := by decide +kernel
theorem dX10_easiest_28 : decode cX10_easiest 28 = .ok (.getfield 313, 3) := by decide +kernel
theorem dX10_easiest_31 : decode cX10_easiest 31 = .ok (.invokevirtual 202, 3) := by decide +kernel
theorem dX10_easiest_34 : decode cX10_easiest 34 = .ok (.istore 4, 2) := by decide +kernel
theorem dX10_easiest_36 : decode cX10_easiest 36 = .ok (.iload_n 1, 1) := by decide +kernel
theorem dX10_easiest_37 : decode cX10_easiest 37 = .ok (.iconst (-1), 1) := by decide +kernel
theorem dX10_easiest_38 : decode cX10_easiest 38 = .ok (.if_icmp .eq 12, 3) := by decide +kernel
theorem dX10_easiest_41 : decode cX10_easiest 41 = .ok (.iload 4, 2) := by decide +kernel
theorem dX10_easiest_43 : decode cX10_easiest 43 = .ok (.iload_n 2, 1) := by decide +kernel
theorem dX10_easiest_44 : decode cX10_easiest 44 = .ok (.if_icmp .lt 6, 3) := by decide +kernel
theorem dX10_easiest_47 : decode cX10_easiest 47 = .ok (.goto 8, 3) := by decide +kernel
theorem dX10_easiest_50 : decode cX10_easiest 50 = .ok (.iload_n 3, 1) := by decide +kernel
theorem dX10_easiest_51 : decode cX10_easiest 51 = .ok (.istore_n 1, 1) := by decide +kernel
theorem dX10_easiest_52 : decode cX10_easiest 52 = .ok (.iload 4, 2) := by decide +kernel
theorem dX10_easiest_54 : decode cX10_easiest 54 = .ok (.istore_n 2, 1) := by decide +kernel
theorem dX10_easiest_55 : decode cX10_easiest 55 = .ok (.iinc 3 1, 3) := by decide +kernel
theorem dX10_easiest_58 : decode cX10_easiest 58 = .ok (.goto (-47), 3) := by decide +kernel
theorem dX10_easiest_61 : decode cX10_easiest 61 = .ok (.iload_n 1, 1) := by decide +kernel
theorem dX10_easiest_62 : decode cX10_easiest 62 = .ok (.ireturn, 1) := by decide +kernel
theorem dX10_ends_0 : decode cX10_ends 0 = .ok (.aload_n 0, 1) := by decide +kernel
theorem dX10_ends_1 : decode cX10_ends 1 = .ok (.iload_n 1, 1) := by decide +kernel
theorem dX10_ends_2 : decode cX10_ends 2 = .ok (.iconst 0, 1) := by decide +kernel
theorem dX10_ends_3 : decode cX10_ends 3 = .ok (.invokevirtual 217, 3) := by decide +kernel
theorem dX10_ends_6 : decode cX10_ends 6 = .ok (.istore_n 2, 1) := by decide +kernel
theorem dX10_ends_7 : decode cX10_ends 7 = .ok (.aload_n 0, 1) := by decide +kernel
theorem dX10_ends_8 : decode cX10_ends 8 = .ok (.iload_n 1, 1) := by decide +kernel
theorem dX10_ends_9 : decode cX10_ends 9 = .ok (.iconst 1, 1) := by decide +kernel
theorem dX10_ends_10 : decode cX10_ends 10 = .ok (.invokevirtual 217, 3) := by decide +kernel
theorem dX10_ends_13 : decode cX10_ends 13 = .ok (.istore_n 3, 1) := by decide +kernel
theorem dX10_ends_14 : decode cX10_ends 14 = .ok (.aload_n 0, 1) := by decide +kernel
theorem dX10_ends_15 : decode cX10_ends 15 = .ok (.iload_n 2, 1) := by decide +kernel
theorem dX10_ends_16 : decode cX10_ends 16 = .ok (.iconst 1, 1) := by decide +kernel
theorem dX10_ends_17 : decode cX10_ends 17 = .ok (.iload_n 3, 1) := by decide +kernel
theorem dX10_ends_18 : decode cX10_ends 18 = .ok (.iadd, 1) := by decide +kernel
theorem dX10_ends_19 : decode cX10_ends 19 = .ok (.aload_n 0, 1) := by decide +kernel
theorem dX10_ends_20 : decode cX10_ends 20 = .ok (.iload_n 2, 1) := by decide +kernel
theorem dX10_ends_21 : decode cX10_ends 21 = .ok (.iconst 1, 1) := by decide +kernel
theorem dX10_ends_22 : decode cX10_ends 22 = .ok (.iload_n 3, 1) := by decide +kernel
theorem dX10_ends_23 : decode cX10_ends 23 = .ok (.iadd, 1) := by decide +kernel
theorem dX10_ends_24 : decode cX10_ends 24 = .ok (.invokevirtual 356, 3) := by decide +kernel
theorem dX10_ends_27 : decode cX10_ends 27 = .ok (.aload_n 0, 1) := by decide +kernel
theorem dX10_ends_28 : decode cX10_ends 28 = .ok (.iload_n 1, 1) := by decide +kernel
theorem dX10_ends_29 : decode cX10_ends 29 = .ok (.iconst 2, 1) := by decide +kernel
theorem dX10_ends_30 : decode cX10_ends 30 = .ok (.invokevirtual 217, 3) := by decide +kernel
theorem dX10_ends_33 : decode cX10_ends 33 = .ok (.iadd, 1) := by decide +kernel
theorem dX10_ends_34 : decode cX10_ends 34 = .ok (.invokevirtual 144, 3) := by decide +kernel
theorem dX10_ends_37 : decode cX10_ends 37 = .ok (.aload_n 0, 1) := by decide +kernel
theorem dX10_ends_38 : decode cX10_ends 38 = .ok (.getfield 9, 3) := by decide +kernel
theorem dX10_ends_41 : decode cX10_ends 41 = .ok (.bipush 6, 2) := by decide +kernel
theorem dX10_ends_43 : decode cX10_ends 43 = .ok (.dup2, 1) := by decide +kernel
theorem dX10_ends_44 : decode cX10_ends 44 = .ok (.iaload, 1) := by decide +kernel
theorem dX10_ends_45 : decode cX10_ends 45 = .ok (.iconst 1, 1) := by decide +kernel
theorem dX10_ends_46 : decode cX10_ends 46 = .ok (.isub, 1) := by decide +kernel
theorem dX10_ends_47 : decode cX10_ends 47 = .ok (.iastore, 1) := by decide +kernel
theorem dX10_ends_48 : decode cX10_ends 48 = .ok (.iload_n 1, 1) := by decide +kernel
theorem dX10_ends_49 : decode cX10_ends 49 = .ok (.iconst 0, 1) := by decide +kernel
theorem dX10_ends_50 : decode cX10_ends 50 = .ok (.invokestatic 208, 3) := by decide +kernel
theorem dX10_ends_53 : decode cX10_ends 53 = .ok (.istore 4, 2) := by decide +kernel
theorem dX10_ends_55 : decode cX10_ends 55 = .ok (.iload 4, 2) := by decide +kernel
theorem dX10_ends_57 : decode cX10_ends 57 = .ok (.aload_n 0, 1) := by decide +kernel
theorem dX10_ends_58 : decode cX10_ends 58 = .ok (.getfield 9, 3) := by decide +kernel
theorem dX10_ends_61 : decode cX10_ends 61 = .ok (.bipush 6, 2) := by decide +kernel
theorem dX10_ends_63 : decode cX10_ends 63 = .ok (.iaload, 1) := by decide +kernel
theorem dX10_ends_64 : decode cX10_ends 64 = .ok (.iconst 0, 1) := by decide +kernel
theorem dX10_ends_65 : decode cX10_ends 65 = .ok (.invokestatic 208, 3) := by decide +kernel
theorem dX10_ends_68 : decode cX10_ends 68 = .ok (.if_icmp .ge 25, 3) := by decide +kernel
theorem dX10_ends_71 : decode cX10_ends 71 = .ok (.aload_n 0, 1) := by decide +kernel
theorem dX10_ends_72 : decode cX10_ends 72 = .ok (.getfield 9, 3) := by decide +kernel
theorem dX10_ends_75 : decode cX10_ends 75 = .ok (.iload 4, 2) := by decide +kernel
theorem dX10_ends_77 : decode cX10_ends 77 = .ok (.aload_n 0, 1) := by decide +kernel
theorem dX10_ends_78 : decode cX10_ends 78 = .ok (.getfield 9, 3) := by decide +kernel
theorem dX10_ends_81 : decode cX10_ends 81 = .ok (.iload 4, 2) := by decide +kernel
theorem dX10_ends_83 : decode cX10_ends 83 = .ok (.iconst 4, 1) := by decide +kernel
theorem dX10_ends_84 : decode cX10_ends 84 = .ok (.iadd, 1) := by decide +kernel
theorem dX10_ends_85 : decode cX10_ends 85 = .ok (.iaload, 1) := by decide +kernel
theorem dX10_ends_86 : decode cX10_ends 86 = .ok (.iastore, 1) := by decide +kernel
theorem dX10_ends_87 : decode cX10_ends 87 = .ok (.iinc 4 1, 3) := by decide +kernel
theorem dX10_ends_90 : decode cX10_ends 90 = .ok (.goto (-35), 3) := by decide +kernel
theorem dX10_ends_93 : decode cX10_ends 93 = .ok (.return_, 1) := by decide +kernel
theorem dX10_holds_0 : decode cX10_holds 0 = .ok (.iconst 0, 1) := by decide +kernel
theorem dX10_holds_1 : decode cX10_holds 1 = .ok (.istore_n 1, 1) := by decide +kernel
theorem dX10_holds_2 : decode cX10_holds 2 = .ok (.iload_n 1, 1) := by decide +kernel
theorem dX10_holds_3 : decode cX10_holds 3 = .ok (.aload_n 0, 1) := by decide +kernel
theorem dX10_holds_4 : decode cX10_holds 4 = .ok (.getfield 9, 3) := by decide +kernel
theorem dX10_holds_7 : decode cX10_holds 7 = .ok (.bipush 6, 2) := by decide +kernel
theorem dX10_holds_9 : decode cX10_holds 9 = .ok (.iaload, 1) := by decide +kernel
theorem dX10_holds_10 : decode cX10_holds 10 = .ok (.if_icmp .ge 23, 3) := by decide +kernel
theorem dX10_holds_13 : decode cX10_holds 13 = .ok (.aload_n 0, 1) := by decide +kernel
theorem dX10_holds_14 : decode cX10_holds 14 = .ok (.getfield 9, 3) := by decide +kernel
theorem dX10_holds_17 : decode cX10_holds 17 = .ok (.iload_n 1, 1) := by decide +kernel
theorem dX10_holds_18 : decode cX10_holds 18 = .ok (.iconst 3, 1) := by decide +kernel
theorem dX10_holds_19 : decode cX10_holds 19 = .ok (.invokestatic 208, 3) := by decide +kernel
theorem dX10_holds_22 : decode cX10_holds 22 = .ok (.dup2, 1) := by decide +kernel
theorem dX10_holds_23 : decode cX10_holds 23 = .ok (.iaload, 1) := by decide +kernel
theorem dX10_holds_24 : decode cX10_holds 24 = .ok (.iconst 1, 1) := by decide +kernel
theorem dX10_holds_25 : decode cX10_holds 25 = .ok (.isub, 1) := by decide +kernel
theorem dX10_holds_26 : decode cX10_holds 26 = .ok (.iastore, 1) := by decide +kernel
theorem dX10_holds_27 : decode cX10_holds 27 = .ok (.iinc 1 1, 3) := by decide +kernel
theorem dX10_holds_30 : decode cX10_holds 30 = .ok (.goto (-28), 3) := by decide +kernel
theorem dX10_holds_33 : decode cX10_holds 33 = .ok (.aload_n 0, 1) := by decide +kernel
theorem dX10_holds_34 : decode cX10_holds 34 = .ok (.getfield 9, 3) := by decide +kernel
theorem dX10_holds_37 : decode cX10_holds 37 = .ok (.bipush 6, 2) := by decide +kernel
theorem dX10_holds_39 : decode cX10_holds 39 = .ok (.iaload, 1) := by decide +kernel
theorem dX10_holds_40 : decode cX10_holds 40 = .ok (.iconst 1, 1) := by decide +kernel
theorem dX10_holds_41 : decode cX10_holds 41 = .ok (.isub, 1) := by decide +kernel
theorem dX10_holds_42 : decode cX10_holds 42 = .ok (.istore_n 1, 1) := by decide +kernel
theorem dX10_holds_43 : decode cX10_holds 43 = .ok (.iload_n 1, 1) := by decide +kernel
theorem dX10_holds_44 : decode cX10_holds 44 = .ok (.ifCond .lt 23, 3) := by decide +kernel
theorem dX10_holds_47 : decode cX10_holds 47 = .ok (.aload_n 0, 1) := by decide +kernel
theorem dX10_holds_48 : decode cX10_holds 48 = .ok (.iload_n 1, 1) := by decide +kernel
theorem dX10_holds_49 : decode cX10_holds 49 = .ok (.iconst 3, 1) := by decide +kernel
theorem dX10_holds_50 : decode cX10_holds 50 = .ok (.invokevirtual 217, 3) := by decide +kernel
theorem dX10_holds_53 : decode cX10_holds 53 = .ok (.ifCond .ne 8, 3) := by decide +kernel
theorem dX10_holds_56 : decode cX10_holds 56 = .ok (.aload_n 0, 1) := by decide +kernel
theorem dX10_holds_57 : decode cX10_holds 57 = .ok (.iload_n 1, 1) := by decide +kernel
theorem dX10_holds_58 : decode cX10_holds 58 = .ok (.invokevirtual 413, 3) := by decide +kernel
theorem dX10_holds_61 : decode cX10_holds 61 = .ok (.iinc 1 (-1), 3) := by decide +kernel
theorem dX10_holds_64 : decode cX10_holds 64 = .ok (.goto (-21), 3) := by decide +kernel
theorem dX10_holds_67 : decode cX10_holds 67 = .ok (.aload_n 0, 1) := by decide +kernel
theorem dX10_holds_68 : decode cX10_holds 68 = .ok (.getfield 9, 3) := by decide +kernel
theorem dX10_holds_71 : decode cX10_holds 71 = .ok (.bipush 8, 2) := by decide +kernel
theorem dX10_holds_73 : decode cX10_holds 73 = .ok (.dup2, 1) := by decide +kernel
theorem dX10_holds_74 : decode cX10_holds 74 = .ok (.iaload, 1) := by decide +kernel
theorem dX10_holds_75 : decode cX10_holds 75 = .ok (.iconst 1, 1) := by decide +kernel
theorem dX10_holds_76 : decode cX10_holds 76 = .ok (.iadd, 1) := by decide +kernel
theorem dX10_holds_77 : decode cX10_holds 77 = .ok (.iastore, 1) := by decide +kernel
theorem dX10_holds_78 : decode cX10_holds 78 = .ok (.aload_n 0, 1) := by decide +kernel
theorem dX10_holds_79 : decode cX10_holds 79 = .ok (.invokevirtual 416, 3) := by decide +kernel
theorem dX10_holds_82 : decode cX10_holds 82 = .ok (.ireturn, 1) := by decide +kernel
theorem dX10_wouldFall_0 : decode cX10_wouldFall 0 = .ok (.aload_n 0, 1) := by decide +kernel
theorem dX10_wouldFall_1 : decode cX10_wouldFall 1 = .ok (.iconst 0, 1) := by decide +kernel
theorem dX10_wouldFall_2 : decode cX10_wouldFall 2 = .ok (.putfield 58, 3) := by decide +kernel
theorem dX10_wouldFall_5 : decode cX10_wouldFall 5 = .ok (.aload_n 0, 1) := by decide +kernel
theorem dX10_wouldFall_6 : decode cX10_wouldFall 6 = .ok (.getfield 9, 3) := by decide +kernel
theorem dX10_wouldFall_9 : decode cX10_wouldFall 9 = .ok (.bipush 7, 2) := by decide +kernel
theorem dX10_wouldFall_11 : decode cX10_wouldFall 11 = .ok (.iaload, 1) := by decide +kernel
theorem dX10_wouldFall_12 : decode cX10_wouldFall 12 = .ok (.iconst (-1), 1) := by decide +kernel
theorem dX10_wouldFall_13 : decode cX10_wouldFall 13 = .ok (.if_icmp .ne 5, 3) := by decide +kernel
theorem dX10_wouldFall_16 : decode cX10_wouldFall 16 = .ok (.iconst 0, 1) := by decide +kernel
theorem dX10_wouldFall_17 : decode cX10_wouldFall 17 = .ok (.ireturn, 1) := by decide +kernel
theorem dX10_wouldFall_18 : decode cX10_wouldFall 18 = .ok (.aload_n 0, 1) := by decide +kernel
theorem dX10_wouldFall_19 : decode cX10_wouldFall 19 = .ok (.invokevirtual 196, 3) := by decide +kernel
theorem dX10_wouldFall_22 : decode cX10_wouldFall 22 = .ok (.aload_n 0, 1) := by decide +kernel
theorem dX10_wouldFall_23 : decode cX10_wouldFall 23 = .ok (.aload_n 0, 1) := by decide +kernel
theorem dX10_wouldFall_24 : decode cX10_wouldFall 24 = .ok (.invokevirtual 419, 3) := by decide +kernel
theorem dX10_wouldFall_27 : decode cX10_wouldFall 27 = .ok (.invokevirtual 202, 3) := by decide +kernel
theorem dX10_wouldFall_30 : decode cX10_wouldFall 30 = .ok (.ireturn, 1) := by decide +kernel
theorem dX10_lenders_0 : decode cX10_lenders 0 = .ok (.aload_n 0, 1) := by decide +kernel
theorem dX10_lenders_1 : decode cX10_lenders 1 = .ok (.iload_n 1, 1) := by decide +kernel
theorem dX10_lenders_2 : decode cX10_lenders 2 = .ok (.invokevirtual 382, 3) := by decide +kernel
theorem dX10_lenders_5 : decode cX10_lenders 5 = .ok (.ifCond .eq 5, 3) := by decide +kernel
theorem dX10_lenders_8 : decode cX10_lenders 8 = .ok (.iconst 0, 1) := by decide +kernel
theorem dX10_lenders_9 : decode cX10_lenders 9 = .ok (.ireturn, 1) := by decide +kernel
theorem dX10_lenders_10 : decode cX10_lenders 10 = .ok (.iconst 0, 1) := by decide +kernel
theorem dX10_lenders_11 : decode cX10_lenders 11 = .ok (.istore_n 2, 1) := by decide +kernel
theorem dX10_lenders_12 : decode cX10_lenders 12 = .ok (.iconst 0, 1) := by decide +kernel
theorem dX10_lenders_13 : decode cX10_lenders 13 = .ok (.istore_n 3, 1) := by decide +kernel
theorem dX10_lenders_14 : decode cX10_lenders 14 = .ok (.iload_n 3, 1) := by decide +kernel
theorem dX10_lenders_15 : decode cX10_lenders 15 = .ok (.aload_n 0, 1) := by decide +kernel
theorem dX10_lenders_16 : decode cX10_lenders 16 = .ok (.getfield 9, 3) := by decide +kernel
theorem dX10_lenders_19 : decode cX10_lenders 19 = .ok (.iconst 4, 1) := by decide +kernel
theorem dX10_lenders_20 : decode cX10_lenders 20 = .ok (.iaload, 1) := by decide +kernel
theorem dX10_lenders_21 : decode cX10_lenders 21 = .ok (.if_icmp .ge 30, 3) := by decide +kernel
theorem dX10_lenders_24 : decode cX10_lenders 24 = .ok (.iload_n 2, 1) := by decide +kernel
theorem dX10_lenders_25 : decode cX10_lenders 25 = .ok (.aload_n 0, 1) := by decide +kernel
theorem dX10_lenders_26 : decode cX10_lenders 26 = .ok (.iload_n 3, 1) := by decide +kernel
theorem dX10_lenders_27 : decode cX10_lenders 27 = .ok (.iconst 1, 1) := by decide +kernel
theorem dX10_lenders_28 : decode cX10_lenders 28 = .ok (.iload_n 1, 1) := by decide +kernel
theorem dX10_lenders_29 : decode cX10_lenders 29 = .ok (.iadd, 1) := by decide +kernel
theorem dX10_lenders_30 : decode cX10_lenders 30 = .ok (.invokevirtual 356, 3) := by decide +kernel
theorem dX10_lenders_33 : decode cX10_lenders 33 = .ok (.ifCond .le 9, 3) := by decide +kernel
theorem dX10_lenders_36 : decode cX10_lenders 36 = .ok (.iconst 1, 1) := by decide +kernel
theorem dX10_lenders_37 : decode cX10_lenders 37 = .ok (.iload_n 3, 1) := by decide +kernel
theorem dX10_lenders_38 : decode cX10_lenders 38 = .ok (.ishl, 1) := by decide +kernel
theorem dX10_lenders_39 : decode cX10_lenders 39 = .ok (.goto 4, 3) := by decide +kernel
theorem dX10_lenders_42 : decode cX10_lenders 42 = .ok (.iconst 0, 1) := by decide +kernel
theorem dX10_lenders_43 : decode cX10_lenders 43 = .ok (.ior, 1) := by decide +kernel
theorem dX10_lenders_44 : decode cX10_lenders 44 = .ok (.istore_n 2, 1) := by decide +kernel
theorem dX10_lenders_45 : decode cX10_lenders 45 = .ok (.iinc 3 1, 3) := by decide +kernel
theorem dX10_lenders_48 : decode cX10_lenders 48 = .ok (.goto (-34), 3) := by decide +kernel
theorem dX10_lenders_51 : decode cX10_lenders 51 = .ok (.iload_n 2, 1) := by decide +kernel
theorem dX10_lenders_52 : decode cX10_lenders 52 = .ok (.ireturn, 1) := by decide +kernel
theorem dX10_hang_0 : decode cX10_hang 0 = .ok (.aload_n 0, 1) := by decide +kernel
theorem dX10_hang_1 : decode cX10_hang 1 = .ok (.iload_n 1, 1) := by decide +kernel
theorem dX10_hang_2 : decode cX10_hang 2 = .ok (.invokevirtual 368, 3) := by decide +kernel
theorem dX10_hang_5 : decode cX10_hang 5 = .ok (.ifCond .eq 5, 3) := by decide +kernel
theorem dX10_hang_8 : decode cX10_hang 8 = .ok (.iconst 0, 1) := by decide +kernel
theorem dX10_hang_9 : decode cX10_hang 9 = .ok (.ireturn, 1) := by decide +kernel
theorem dX10_hang_10 : decode cX10_hang 10 = .ok (.aload_n 0, 1) := by decide +kernel
theorem dX10_hang_11 : decode cX10_hang 11 = .ok (.invokevirtual 422, 3) := by decide +kernel
theorem dX10_hang_14 : decode cX10_hang 14 = .ok (.aload_n 0, 1) := by decide +kernel
theorem dX10_hang_15 : decode cX10_hang 15 = .ok (.iload_n 1, 1) := by decide +kernel
theorem dX10_hang_16 : decode cX10_hang 16 = .ok (.invokevirtual 399, 3) := by decide +kernel
theorem dX10_hang_19 : decode cX10_hang 19 = .ok (.ireturn, 1) := by decide +kernel
theorem dX10_hold_0 : decode cX10_hold 0 = .ok (.aload_n 0, 1) := by decide +kernel
theorem dX10_hold_1 : decode cX10_hold 1 = .ok (.iconst 0, 1) := by decide +kernel
theorem dX10_hold_2 : decode cX10_hold 2 = .ok (.putfield 58, 3) := by decide +kernel
theorem dX10_hold_5 : decode cX10_hold 5 = .ok (.aload_n 0, 1) := by decide +kernel
theorem dX10_hold_6 : decode cX10_hold 6 = .ok (.getfield 9, 3) := by decide +kernel
theorem dX10_hold_9 : decode cX10_hold 9 = .ok (.bipush 7, 2) := by decide +kernel
theorem dX10_hold_11 : decode cX10_hold 11 = .ok (.iaload, 1) := by decide +kernel
theorem dX10_hold_12 : decode cX10_hold 12 = .ok (.iconst (-1), 1) := by decide +kernel
theorem dX10_hold_13 : decode cX10_hold 13 = .ok (.if_icmp .ne 6, 3) := by decide +kernel
theorem dX10_hold_16 : decode cX10_hold 16 = .ok (.bipush (-3), 2) := by decide +kernel
theorem dX10_hold_18 : decode cX10_hold 18 = .ok (.ireturn, 1) := by decide +kernel
theorem dX10_hold_19 : decode cX10_hold 19 = .ok (.aload_n 0, 1) := by decide +kernel
theorem dX10_hold_20 : decode cX10_hold 20 = .ok (.invokevirtual 422, 3) := by decide +kernel
theorem dX10_hold_23 : decode cX10_hold 23 = .ok (.aload_n 0, 1) := by decide +kernel
theorem dX10_hold_24 : decode cX10_hold 24 = .ok (.invokevirtual 419, 3) := by decide +kernel
theorem dX10_hold_27 : decode cX10_hold 27 = .ok (.ireturn, 1) := by decide +kernel
theorem dX10_clear_0 : decode cX10_clear 0 = .ok (.aload_n 0, 1) := by decide +kernel
theorem dX10_clear_1 : decode cX10_clear 1 = .ok (.iconst 0, 1) := by decide +kernel
theorem dX10_clear_2 : decode cX10_clear 2 = .ok (.putfield 58, 3) := by decide +kernel
theorem dX10_clear_5 : decode cX10_clear 5 = .ok (.aload_n 0, 1) := by decide +kernel
theorem dX10_clear_6 : decode cX10_clear 6 = .ok (.invokevirtual 422, 3) := by decide +kernel
theorem dX10_clear_9 : decode cX10_clear 9 = .ok (.aload_n 0, 1) := by decide +kernel
theorem dX10_clear_10 : decode cX10_clear 10 = .ok (.invokevirtual 325, 3) := by decide +kernel
theorem dX10_clear_13 : decode cX10_clear 13 = .ok (.istore_n 1, 1) := by decide +kernel
theorem dX10_clear_14 : decode cX10_clear 14 = .ok (.aload_n 0, 1) := by decide +kernel
theorem dX10_clear_15 : decode cX10_clear 15 = .ok (.invokevirtual 61, 3) := by decide +kernel
theorem dX10_clear_18 : decode cX10_clear 18 = .ok (.iload_n 1, 1) := by decide +kernel
theorem dX10_clear_19 : decode cX10_clear 19 = .ok (.ireturn, 1) := by decide +kernel
theorem dX10_borrow_0 : decode cX10_borrow 0 = .ok (.aload_n 0, 1) := by decide +kernel
theorem dX10_borrow_1 : decode cX10_borrow 1 = .ok (.iload_n 1, 1) := by decide +kernel
theorem dX10_borrow_2 : decode cX10_borrow 2 = .ok (.invokevirtual 353, 3) := by decide +kernel
theorem dX10_borrow_5 : decode cX10_borrow 5 = .ok (.ifCond .ne 35, 3) := by decide +kernel
theorem dX10_borrow_8 : decode cX10_borrow 8 = .ok (.aload_n 0, 1) := by decide +kernel
theorem dX10_borrow_9 : decode cX10_borrow 9 = .ok (.iload_n 2, 1) := by decide +kernel
theorem dX10_borrow_10 : decode cX10_borrow 10 = .ok (.invokestatic 347, 3) := by decide +kernel
theorem dX10_borrow_13 : decode cX10_borrow 13 = .ok (.ifCond .eq 15, 3) := by decide +kernel
theorem dX10_borrow_16 : decode cX10_borrow 16 = .ok (.iload_n 3, 1) := by decide +kernel
theorem dX10_borrow_17 : decode cX10_borrow 17 = .ok (.i2l, 1) := by decide +kernel
theorem dX10_borrow_18 : decode cX10_borrow 18 = .ok (.lconst 1, 1) := by decide +kernel
theorem dX10_borrow_19 : decode cX10_borrow 19 = .ok (.ldc2_w 425, 3) := by decide +kernel
theorem dX10_borrow_22 : decode cX10_borrow 22 = .ok (.invokestatic 92, 3) := by decide +kernel
theorem dX10_borrow_25 : decode cX10_borrow 25 = .ok (.ifCond .ne 7, 3) := by decide +kernel
theorem dX10_borrow_28 : decode cX10_borrow 28 = .ok (.iconst 1, 1) := by decide +kernel
theorem dX10_borrow_29 : decode cX10_borrow 29 = .ok (.goto 4, 3) := by decide +kernel
theorem dX10_borrow_32 : decode cX10_borrow 32 = .ok (.iconst 0, 1) := by decide +kernel
theorem dX10_borrow_33 : decode cX10_borrow 33 = .ok (.iconst 2, 1) := by decide +kernel
theorem dX10_borrow_34 : decode cX10_borrow 34 = .ok (.invokevirtual 340, 3) := by decide +kernel
theorem dX10_borrow_37 : decode cX10_borrow 37 = .ok (.ifCond .eq 5, 3) := by decide +kernel
theorem dX10_borrow_40 : decode cX10_borrow 40 = .ok (.iconst 0, 1) := by decide +kernel
theorem dX10_borrow_41 : decode cX10_borrow 41 = .ok (.ireturn, 1) := by decide +kernel
theorem dX10_borrow_42 : decode cX10_borrow 42 = .ok (.aload_n 0, 1) := by decide +kernel
theorem dX10_borrow_43 : decode cX10_borrow 43 = .ok (.iload_n 1, 1) := by decide +kernel
theorem dX10_borrow_44 : decode cX10_borrow 44 = .ok (.iconst 1, 1) := by decide +kernel
theorem dX10_borrow_45 : decode cX10_borrow 45 = .ok (.iload_n 2, 1) := by decide +kernel
theorem dX10_borrow_46 : decode cX10_borrow 46 = .ok (.iadd, 1) := by decide +kernel
theorem dX10_borrow_47 : decode cX10_borrow 47 = .ok (.invokevirtual 356, 3) := by decide +kernel
theorem dX10_borrow_50 : decode cX10_borrow 50 = .ok (.istore 4, 2) := by decide +kernel
theorem dX10_borrow_52 : decode cX10_borrow 52 = .ok (.iload 4, 2) := by decide +kernel
theorem dX10_borrow_54 : decode cX10_borrow 54 = .ok (.iload_n 3, 1) := by decide +kernel
theorem dX10_borrow_55 : decode cX10_borrow 55 = .ok (.if_icmp .ge 6, 3) := by decide +kernel
theorem dX10_borrow_58 : decode cX10_borrow 58 = .ok (.bipush (-3), 2) := by decide +kernel
theorem dX10_borrow_60 : decode cX10_borrow 60 = .ok (.ireturn, 1) := by decide +kernel
theorem dX10_borrow_61 : decode cX10_borrow 61 = .ok (.aload_n 0, 1) := by decide +kernel
theorem dX10_borrow_62 : decode cX10_borrow 62 = .ok (.getfield 9, 3) := by decide +kernel
theorem dX10_borrow_65 : decode cX10_borrow 65 = .ok (.bipush 6, 2) := by decide +kernel
theorem dX10_borrow_67 : decode cX10_borrow 67 = .ok (.iaload, 1) := by decide +kernel
theorem dX10_borrow_68 : decode cX10_borrow 68 = .ok (.istore 5, 2) := by decide +kernel
theorem dX10_borrow_70 : decode cX10_borrow 70 = .ok (.iload 5, 2) := by decide +kernel
theorem dX10_borrow_72 : decode cX10_borrow 72 = .ok (.bipush 12, 2) := by decide +kernel
theorem dX10_borrow_74 : decode cX10_borrow 74 = .ok (.if_icmp .ne 6, 3) := by decide +kernel
theorem dX10_borrow_77 : decode cX10_borrow 77 = .ok (.bipush (-2), 2) := by decide +kernel
theorem dX10_borrow_79 : decode cX10_borrow 79 = .ok (.ireturn, 1) := by decide +kernel
theorem dX10_borrow_80 : decode cX10_borrow 80 = .ok (.aload_n 0, 1) := by decide +kernel
theorem dX10_borrow_81 : decode cX10_borrow 81 = .ok (.invokevirtual 422, 3) := by decide +kernel
theorem dX10_borrow_84 : decode cX10_borrow 84 = .ok (.aload_n 0, 1) := by decide +kernel
theorem dX10_borrow_85 : decode cX10_borrow 85 = .ok (.iload_n 1, 1) := by decide +kernel
theorem dX10_borrow_86 : decode cX10_borrow 86 = .ok (.iconst 1, 1) := by decide +kernel
theorem dX10_borrow_87 : decode cX10_borrow 87 = .ok (.iload_n 2, 1) := by decide +kernel
theorem dX10_borrow_88 : decode cX10_borrow 88 = .ok (.iadd, 1) := by decide +kernel
theorem dX10_borrow_89 : decode cX10_borrow 89 = .ok (.iload 4, 2) := by decide +kernel
theorem dX10_borrow_91 : decode cX10_borrow 91 = .ok (.iload_n 3, 1) := by decide +kernel
theorem dX10_borrow_92 : decode cX10_borrow 92 = .ok (.isub, 1) := by decide +kernel
theorem dX10_borrow_93 : decode cX10_borrow 93 = .ok (.invokevirtual 144, 3) := by decide +kernel
theorem dX10_borrow_96 : decode cX10_borrow 96 = .ok (.aload_n 0, 1) := by decide +kernel
theorem dX10_borrow_97 : decode cX10_borrow 97 = .ok (.getfield 9, 3) := by decide +kernel
theorem dX10_borrow_100 : decode cX10_borrow 100 = .ok (.iload 5, 2) := by decide +kernel
theorem dX10_borrow_102 : decode cX10_borrow 102 = .ok (.iconst 0, 1) := by decide +kernel
theorem dX10_borrow_103 : decode cX10_borrow 103 = .ok (.invokestatic 208, 3) := by decide +kernel
theorem dX10_borrow_106 : decode cX10_borrow 106 = .ok (.iload_n 1, 1) := by decide +kernel
theorem dX10_borrow_107 : decode cX10_borrow 107 = .ok (.iastore, 1) := by decide +kernel
theorem dX10_borrow_108 : decode cX10_borrow 108 = .ok (.aload_n 0, 1) := by decide +kernel
theorem dX10_borrow_109 : decode cX10_borrow 109 = .ok (.getfield 9, 3) := by decide +kernel
theorem dX10_borrow_112 : decode cX10_borrow 112 = .ok (.iload 5, 2) := by decide +kernel
theorem dX10_borrow_114 : decode cX10_borrow 114 = .ok (.iconst 1, 1) := by decide +kernel
theorem dX10_borrow_115 : decode cX10_borrow 115 = .ok (.invokestatic 208, 3) := by decide +kernel
theorem dX10_borrow_118 : decode cX10_borrow 118 = .ok (.iload_n 2, 1) := by decide +kernel
theorem dX10_borrow_119 : decode cX10_borrow 119 = .ok (.iastore, 1) := by decide +kernel
theorem dX10_borrow_120 : decode cX10_borrow 120 = .ok (.aload_n 0, 1) := by decide +kernel
theorem dX10_borrow_121 : decode cX10_borrow 121 = .ok (.getfield 9, 3) := by decide +kernel
theorem dX10_borrow_124 : decode cX10_borrow 124 = .ok (.iload 5, 2) := by decide +kernel
theorem dX10_borrow_126 : decode cX10_borrow 126 = .ok (.iconst 2, 1) := by decide +kernel
theorem dX10_borrow_127 : decode cX10_borrow 127 = .ok (.invokestatic 208, 3) := by decide +kernel
theorem dX10_borrow_130 : decode cX10_borrow 130 = .ok (.iload_n 3, 1) := by decide +kernel
theorem dX10_borrow_131 : decode cX10_borrow 131 = .ok (.iastore, 1) := by decide +kernel
theorem dX10_borrow_132 : decode cX10_borrow 132 = .ok (.aload_n 0, 1) := by decide +kernel
theorem dX10_borrow_133 : decode cX10_borrow 133 = .ok (.getfield 9, 3) := by decide +kernel
theorem dX10_borrow_136 : decode cX10_borrow 136 = .ok (.iload 5, 2) := by decide +kernel
theorem dX10_borrow_138 : decode cX10_borrow 138 = .ok (.iconst 3, 1) := by decide +kernel
theorem dX10_borrow_139 : decode cX10_borrow 139 = .ok (.invokestatic 208, 3) := by decide +kernel
theorem dX10_borrow_142 : decode cX10_borrow 142 = .ok (.aload_n 0, 1) := by decide +kernel
theorem dX10_borrow_143 : decode cX10_borrow 143 = .ok (.iload_n 1, 1) := by decide +kernel
theorem dX10_borrow_144 : decode cX10_borrow 144 = .ok (.iconst 0, 1) := by decide +kernel
theorem dX10_borrow_145 : decode cX10_borrow 145 = .ok (.invokevirtual 356, 3) := by decide +kernel
theorem dX10_borrow_148 : decode cX10_borrow 148 = .ok (.iastore, 1) := by decide +kernel
theorem dX10_borrow_149 : decode cX10_borrow 149 = .ok (.aload_n 0, 1) := by decide +kernel
theorem dX10_borrow_150 : decode cX10_borrow 150 = .ok (.getfield 9, 3) := by decide +kernel
theorem dX10_borrow_153 : decode cX10_borrow 153 = .ok (.bipush 6, 2) := by decide +kernel
theorem dX10_borrow_155 : decode cX10_borrow 155 = .ok (.dup2, 1) := by decide +kernel
theorem dX10_borrow_156 : decode cX10_borrow 156 = .ok (.iaload, 1) := by decide +kernel
theorem dX10_borrow_157 : decode cX10_borrow 157 = .ok (.iconst 1, 1) := by decide +kernel
theorem dX10_borrow_158 : decode cX10_borrow 158 = .ok (.iadd, 1) := by decide +kernel
theorem dX10_borrow_159 : decode cX10_borrow 159 = .ok (.iastore, 1) := by decide +kernel
theorem dX10_borrow_160 : decode cX10_borrow 160 = .ok (.iload 5, 2) := by decide +kernel
theorem dX10_borrow_162 : decode cX10_borrow 162 = .ok (.ireturn, 1) := by decide +kernel
theorem dX10_giveBack_0 : decode cX10_giveBack 0 = .ok (.aload_n 0, 1) := by decide +kernel
theorem dX10_giveBack_1 : decode cX10_giveBack 1 = .ok (.iload_n 1, 1) := by decide +kernel
theorem dX10_giveBack_2 : decode cX10_giveBack 2 = .ok (.invokevirtual 359, 3) := by decide +kernel
theorem dX10_giveBack_5 : decode cX10_giveBack 5 = .ok (.ifCond .eq 5, 3) := by decide +kernel
theorem dX10_giveBack_8 : decode cX10_giveBack 8 = .ok (.iconst 0, 1) := by decide +kernel
theorem dX10_giveBack_9 : decode cX10_giveBack 9 = .ok (.ireturn, 1) := by decide +kernel
theorem dX10_giveBack_10 : decode cX10_giveBack 10 = .ok (.aload_n 0, 1) := by decide +kernel
theorem dX10_giveBack_11 : decode cX10_giveBack 11 = .ok (.invokevirtual 422, 3) := by decide +kernel
theorem dX10_giveBack_14 : decode cX10_giveBack 14 = .ok (.aload_n 0, 1) := by decide +kernel
theorem dX10_giveBack_15 : decode cX10_giveBack 15 = .ok (.iload_n 1, 1) := by decide +kernel
theorem dX10_giveBack_16 : decode cX10_giveBack 16 = .ok (.invokevirtual 413, 3) := by decide +kernel
theorem dX10_giveBack_19 : decode cX10_giveBack 19 = .ok (.aload_n 0, 1) := by decide +kernel
theorem dX10_giveBack_20 : decode cX10_giveBack 20 = .ok (.invokevirtual 416, 3) := by decide +kernel
theorem dX10_giveBack_23 : decode cX10_giveBack 23 = .ok (.ireturn, 1) := by decide +kernel
theorem dX10_noOwn_0 : decode cX10_noOwn 0 = .ok (.aload_n 0, 1) := by decide +kernel
theorem dX10_noOwn_1 : decode cX10_noOwn 1 = .ok (.aload_n 0, 1) := by decide +kernel
theorem dX10_noOwn_2 : decode cX10_noOwn 2 = .ok (.iload_n 1, 1) := by decide +kernel
theorem dX10_noOwn_3 : decode cX10_noOwn 3 = .ok (.invokevirtual 328, 3) := by decide +kernel
theorem dX10_noOwn_6 : decode cX10_noOwn 6 = .ok (.ifCond .ne 7, 3) := by decide +kernel
theorem dX10_noOwn_9 : decode cX10_noOwn 9 = .ok (.iconst 1, 1) := by decide +kernel
theorem dX10_noOwn_10 : decode cX10_noOwn 10 = .ok (.goto 4, 3) := by decide +kernel
theorem dX10_noOwn_13 : decode cX10_noOwn 13 = .ok (.iconst 0, 1) := by decide +kernel
theorem dX10_noOwn_14 : decode cX10_noOwn 14 = .ok (.invokevirtual 321, 3) := by decide +kernel
theorem dX10_noOwn_17 : decode cX10_noOwn 17 = .ok (.ireturn, 1) := by decide +kernel
theorem dX10_buy_0 : decode cX10_buy 0 = .ok (.aload_n 0, 1) := by decide +kernel
theorem dX10_buy_1 : decode cX10_buy 1 = .ok (.iload_n 1, 1) := by decide +kernel
theorem dX10_buy_2 : decode cX10_buy 2 = .ok (.invokevirtual 427, 3) := by decide +kernel
theorem dX10_buy_5 : decode cX10_buy 5 = .ok (.ifCond .ne 28, 3) := by decide +kernel
theorem dX10_buy_8 : decode cX10_buy 8 = .ok (.aload_n 0, 1) := by decide +kernel
theorem dX10_buy_9 : decode cX10_buy 9 = .ok (.iload_n 2, 1) := by decide +kernel
theorem dX10_buy_10 : decode cX10_buy 10 = .ok (.i2l, 1) := by decide +kernel
theorem dX10_buy_11 : decode cX10_buy 11 = .ok (.lconst 1, 1) := by decide +kernel
theorem dX10_buy_12 : decode cX10_buy 12 = .ok (.ldc2_w 425, 3) := by decide +kernel
theorem dX10_buy_15 : decode cX10_buy 15 = .ok (.invokestatic 92, 3) := by decide +kernel
theorem dX10_buy_18 : decode cX10_buy 18 = .ok (.ifCond .ne 7, 3) := by decide +kernel
theorem dX10_buy_21 : decode cX10_buy 21 = .ok (.iconst 1, 1) := by decide +kernel
theorem dX10_buy_22 : decode cX10_buy 22 = .ok (.goto 4, 3) := by decide +kernel
theorem dX10_buy_25 : decode cX10_buy 25 = .ok (.iconst 0, 1) := by decide +kernel
theorem dX10_buy_26 : decode cX10_buy 26 = .ok (.iconst 2, 1) := by decide +kernel
theorem dX10_buy_27 : decode cX10_buy 27 = .ok (.invokevirtual 340, 3) := by decide +kernel
theorem dX10_buy_30 : decode cX10_buy 30 = .ok (.ifCond .eq 5, 3) := by decide +kernel
theorem dX10_buy_33 : decode cX10_buy 33 = .ok (.iconst 0, 1) := by decide +kernel
theorem dX10_buy_34 : decode cX10_buy 34 = .ok (.ireturn, 1) := by decide +kernel
theorem dX10_buy_35 : decode cX10_buy 35 = .ok (.aload_n 0, 1) := by decide +kernel
theorem dX10_buy_36 : decode cX10_buy 36 = .ok (.getfield 9, 3) := by decide +kernel
theorem dX10_buy_39 : decode cX10_buy 39 = .ok (.iload_n 1, 1) := by decide +kernel
theorem dX10_buy_40 : decode cX10_buy 40 = .ok (.iconst 2, 1) := by decide +kernel
theorem dX10_buy_41 : decode cX10_buy 41 = .ok (.invokestatic 205, 3) := by decide +kernel
theorem dX10_buy_44 : decode cX10_buy 44 = .ok (.iaload, 1) := by decide +kernel
theorem dX10_buy_45 : decode cX10_buy 45 = .ok (.iload_n 2, 1) := by decide +kernel
theorem dX10_buy_46 : decode cX10_buy 46 = .ok (.iadd, 1) := by decide +kernel
theorem dX10_buy_47 : decode cX10_buy 47 = .ok (.istore_n 3, 1) := by decide +kernel
theorem dX10_buy_48 : decode cX10_buy 48 = .ok (.iload_n 3, 1) := by decide +kernel
theorem dX10_buy_49 : decode cX10_buy 49 = .ok (.bipush 60, 2) := by decide +kernel
theorem dX10_buy_51 : decode cX10_buy 51 = .ok (.if_icmp .le 6, 3) := by decide +kernel
theorem dX10_buy_54 : decode cX10_buy 54 = .ok (.bipush (-2), 2) := by decide +kernel
theorem dX10_buy_56 : decode cX10_buy 56 = .ok (.ireturn, 1) := by decide +kernel
theorem dX10_buy_57 : decode cX10_buy 57 = .ok (.aload_n 0, 1) := by decide +kernel
theorem dX10_buy_58 : decode cX10_buy 58 = .ok (.invokevirtual 422, 3) := by decide +kernel
theorem dX10_buy_61 : decode cX10_buy 61 = .ok (.aload_n 0, 1) := by decide +kernel
theorem dX10_buy_62 : decode cX10_buy 62 = .ok (.getfield 9, 3) := by decide +kernel
theorem dX10_buy_65 : decode cX10_buy 65 = .ok (.iload_n 1, 1) := by decide +kernel
theorem dX10_buy_66 : decode cX10_buy 66 = .ok (.iconst 2, 1) := by decide +kernel
theorem dX10_buy_67 : decode cX10_buy 67 = .ok (.invokestatic 205, 3) := by decide +kernel
theorem dX10_buy_70 : decode cX10_buy 70 = .ok (.iload_n 3, 1) := by decide +kernel
theorem dX10_buy_71 : decode cX10_buy 71 = .ok (.iastore, 1) := by decide +kernel
theorem dX10_buy_72 : decode cX10_buy 72 = .ok (.iload_n 3, 1) := by decide +kernel
theorem dX10_buy_73 : decode cX10_buy 73 = .ok (.ireturn, 1) := by decide +kernel
theorem dX10_lose_0 : decode cX10_lose 0 = .ok (.aload_n 0, 1) := by decide +kernel
theorem dX10_lose_1 : decode cX10_lose 1 = .ok (.iload_n 1, 1) := by decide +kernel
theorem dX10_lose_2 : decode cX10_lose 2 = .ok (.invokevirtual 427, 3) := by decide +kernel
theorem dX10_lose_5 : decode cX10_lose 5 = .ok (.ifCond .ne 28, 3) := by decide +kernel
theorem dX10_lose_8 : decode cX10_lose 8 = .ok (.aload_n 0, 1) := by decide +kernel
theorem dX10_lose_9 : decode cX10_lose 9 = .ok (.iload_n 2, 1) := by decide +kernel
theorem dX10_lose_10 : decode cX10_lose 10 = .ok (.i2l, 1) := by decide +kernel
theorem dX10_lose_11 : decode cX10_lose 11 = .ok (.lconst 1, 1) := by decide +kernel
theorem dX10_lose_12 : decode cX10_lose 12 = .ok (.ldc2_w 425, 3) := by decide +kernel
theorem dX10_lose_15 : decode cX10_lose 15 = .ok (.invokestatic 92, 3) := by decide +kernel
theorem dX10_lose_18 : decode cX10_lose 18 = .ok (.ifCond .ne 7, 3) := by decide +kernel
theorem dX10_lose_21 : decode cX10_lose 21 = .ok (.iconst 1, 1) := by decide +kernel
theorem dX10_lose_22 : decode cX10_lose 22 = .ok (.goto 4, 3) := by decide +kernel
theorem dX10_lose_25 : decode cX10_lose 25 = .ok (.iconst 0, 1) := by decide +kernel
theorem dX10_lose_26 : decode cX10_lose 26 = .ok (.iconst 2, 1) := by decide +kernel
theorem dX10_lose_27 : decode cX10_lose 27 = .ok (.invokevirtual 340, 3) := by decide +kernel
theorem dX10_lose_30 : decode cX10_lose 30 = .ok (.ifCond .eq 5, 3) := by decide +kernel
theorem dX10_lose_33 : decode cX10_lose 33 = .ok (.iconst 0, 1) := by decide +kernel
theorem dX10_lose_34 : decode cX10_lose 34 = .ok (.ireturn, 1) := by decide +kernel
theorem dX10_lose_35 : decode cX10_lose 35 = .ok (.aload_n 0, 1) := by decide +kernel
theorem dX10_lose_36 : decode cX10_lose 36 = .ok (.getfield 9, 3) := by decide +kernel
theorem dX10_lose_39 : decode cX10_lose 39 = .ok (.iload_n 1, 1) := by decide +kernel
theorem dX10_lose_40 : decode cX10_lose 40 = .ok (.iconst 2, 1) := by decide +kernel
theorem dX10_lose_41 : decode cX10_lose 41 = .ok (.invokestatic 205, 3) := by decide +kernel
theorem dX10_lose_44 : decode cX10_lose 44 = .ok (.iaload, 1) := by decide +kernel
theorem dX10_lose_45 : decode cX10_lose 45 = .ok (.iload_n 2, 1) := by decide +kernel
theorem dX10_lose_46 : decode cX10_lose 46 = .ok (.isub, 1) := by decide +kernel
theorem dX10_lose_47 : decode cX10_lose 47 = .ok (.istore_n 3, 1) := by decide +kernel
theorem dX10_lose_48 : decode cX10_lose 48 = .ok (.iload_n 3, 1) := by decide +kernel
theorem dX10_lose_49 : decode cX10_lose 49 = .ok (.ifCond .ge 6, 3) := by decide +kernel
theorem dX10_lose_52 : decode cX10_lose 52 = .ok (.bipush (-3), 2) := by decide +kernel
theorem dX10_lose_54 : decode cX10_lose 54 = .ok (.ireturn, 1) := by decide +kernel
theorem dX10_lose_55 : decode cX10_lose 55 = .ok (.aload_n 0, 1) := by decide +kernel
theorem dX10_lose_56 : decode cX10_lose 56 = .ok (.invokevirtual 422, 3) := by decide +kernel
theorem dX10_lose_59 : decode cX10_lose 59 = .ok (.aload_n 0, 1) := by decide +kernel
theorem dX10_lose_60 : decode cX10_lose 60 = .ok (.getfield 9, 3) := by decide +kernel
theorem dX10_lose_63 : decode cX10_lose 63 = .ok (.iload_n 1, 1) := by decide +kernel
theorem dX10_lose_64 : decode cX10_lose 64 = .ok (.iconst 2, 1) := by decide +kernel
theorem dX10_lose_65 : decode cX10_lose 65 = .ok (.invokestatic 205, 3) := by decide +kernel
theorem dX10_lose_68 : decode cX10_lose 68 = .ok (.iload_n 3, 1) := by decide +kernel
theorem dX10_lose_69 : decode cX10_lose 69 = .ok (.iastore, 1) := by decide +kernel
theorem dX10_lose_70 : decode cX10_lose 70 = .ok (.aload_n 0, 1) := by decide +kernel
theorem dX10_lose_71 : decode cX10_lose 71 = .ok (.iload_n 1, 1) := by decide +kernel
theorem dX10_lose_72 : decode cX10_lose 72 = .ok (.invokevirtual 255, 3) := by decide +kernel
theorem dX10_lose_75 : decode cX10_lose 75 = .ok (.ireturn, 1) := by decide +kernel
theorem dX10_addCard_0 : decode cX10_addCard 0 = .ok (.aload_n 0, 1) := by decide +kernel
theorem dX10_addCard_1 : decode cX10_addCard 1 = .ok (.iload_n 1, 1) := by decide +kernel
theorem dX10_addCard_2 : decode cX10_addCard 2 = .ok (.invokestatic 347, 3) := by decide +kernel
theorem dX10_addCard_5 : decode cX10_addCard 5 = .ok (.ifCond .eq 29, 3) := by decide +kernel
theorem dX10_addCard_8 : decode cX10_addCard 8 = .ok (.iload_n 2, 1) := by decide +kernel
theorem dX10_addCard_9 : decode cX10_addCard 9 = .ok (.i2l, 1) := by decide +kernel
theorem dX10_addCard_10 : decode cX10_addCard 10 = .ok (.ldc2_w 430, 3) := by decide +kernel
theorem dX10_addCard_13 : decode cX10_addCard 13 = .ok (.ldc2_w 333, 3) := by decide +kernel
theorem dX10_addCard_16 : decode cX10_addCard 16 = .ok (.invokestatic 92, 3) := by decide +kernel
theorem dX10_addCard_19 : decode cX10_addCard 19 = .ok (.ifCond .eq 15, 3) := by decide +kernel
theorem dX10_addCard_22 : decode cX10_addCard 22 = .ok (.iload_n 3, 1) := by decide +kernel
theorem dX10_addCard_23 : decode cX10_addCard 23 = .ok (.i2l, 1) := by decide +kernel
theorem dX10_addCard_24 : decode cX10_addCard 24 = .ok (.lconst 0, 1) := by decide +kernel
theorem dX10_addCard_25 : decode cX10_addCard 25 = .ok (.ldc2_w 425, 3) := by decide +kernel
theorem dX10_addCard_28 : decode cX10_addCard 28 = .ok (.invokestatic 92, 3) := by decide +kernel
theorem dX10_addCard_31 : decode cX10_addCard 31 = .ok (.ifCond .ne 7, 3) := by decide +kernel
theorem dX10_addCard_34 : decode cX10_addCard 34 = .ok (.iconst 1, 1) := by decide +kernel
theorem dX10_addCard_35 : decode cX10_addCard 35 = .ok (.goto 4, 3) := by decide +kernel
theorem dX10_addCard_38 : decode cX10_addCard 38 = .ok (.iconst 0, 1) := by decide +kernel
theorem dX10_addCard_39 : decode cX10_addCard 39 = .ok (.invokevirtual 321, 3) := by decide +kernel
theorem dX10_addCard_42 : decode cX10_addCard 42 = .ok (.ifCond .eq 5, 3) := by decide +kernel
theorem dX10_addCard_45 : decode cX10_addCard 45 = .ok (.iconst 0, 1) := by decide +kernel
theorem dX10_addCard_46 : decode cX10_addCard 46 = .ok (.ireturn, 1) := by decide +kernel
theorem dX10_addCard_47 : decode cX10_addCard 47 = .ok (.aload_n 0, 1) := by decide +kernel
theorem dX10_addCard_48 : decode cX10_addCard 48 = .ok (.getfield 9, 3) := by decide +kernel
theorem dX10_addCard_51 : decode cX10_addCard 51 = .ok (.iconst 3, 1) := by decide +kernel
theorem dX10_addCard_52 : decode cX10_addCard 52 = .ok (.iaload, 1) := by decide +kernel
theorem dX10_addCard_53 : decode cX10_addCard 53 = .ok (.bipush 12, 2) := by decide +kernel
theorem dX10_addCard_55 : decode cX10_addCard 55 = .ok (.if_icmp .ne 6, 3) := by decide +kernel
theorem dX10_addCard_58 : decode cX10_addCard 58 = .ok (.bipush (-2), 2) := by decide +kernel
theorem dX10_addCard_60 : decode cX10_addCard 60 = .ok (.ireturn, 1) := by decide +kernel
theorem dX10_addCard_61 : decode cX10_addCard 61 = .ok (.aload_n 0, 1) := by decide +kernel
theorem dX10_addCard_62 : decode cX10_addCard 62 = .ok (.invokevirtual 422, 3) := by decide +kernel
theorem dX10_addCard_65 : decode cX10_addCard 65 = .ok (.aload_n 0, 1) := by decide +kernel
theorem dX10_addCard_66 : decode cX10_addCard 66 = .ok (.iload_n 1, 1) := by decide +kernel
theorem dX10_addCard_67 : decode cX10_addCard 67 = .ok (.iload_n 2, 1) := by decide +kernel
theorem dX10_addCard_68 : decode cX10_addCard 68 = .ok (.iload_n 3, 1) := by decide +kernel
theorem dX10_addCard_69 : decode cX10_addCard 69 = .ok (.invokevirtual 140, 3) := by decide +kernel
theorem dX10_addCard_72 : decode cX10_addCard 72 = .ok (.ireturn, 1) := by decide +kernel
theorem dX10_swaps_0 : decode cX10_swaps 0 = .ok (.aload_n 0, 1) := by decide +kernel
theorem dX10_swaps_1 : decode cX10_swaps 1 = .ok (.invokevirtual 422, 3) := by decide +kernel
theorem dX10_swaps_4 : decode cX10_swaps 4 = .ok (.aload_n 0, 1) := by decide +kernel
theorem dX10_swaps_5 : decode cX10_swaps 5 = .ok (.getfield 9, 3) := by decide +kernel
theorem dX10_swaps_8 : decode cX10_swaps 8 = .ok (.iload_n 1, 1) := by decide +kernel
theorem dX10_swaps_9 : decode cX10_swaps 9 = .ok (.iaload, 1) := by decide +kernel
theorem dX10_swaps_10 : decode cX10_swaps 10 = .ok (.istore_n 3, 1) := by decide +kernel
theorem dX10_swaps_11 : decode cX10_swaps 11 = .ok (.aload_n 0, 1) := by decide +kernel
theorem dX10_swaps_12 : decode cX10_swaps 12 = .ok (.getfield 9, 3) := by decide +kernel
theorem dX10_swaps_15 : decode cX10_swaps 15 = .ok (.iload_n 1, 1) := by decide +kernel
theorem dX10_swaps_16 : decode cX10_swaps 16 = .ok (.iload_n 2, 1) := by decide +kernel
theorem dX10_swaps_17 : decode cX10_swaps 17 = .ok (.iastore, 1) := by decide +kernel
theorem dX10_swaps_18 : decode cX10_swaps 18 = .ok (.iload_n 3, 1) := by decide +kernel
theorem dX10_swaps_19 : decode cX10_swaps 19 = .ok (.ireturn, 1) := by decide +kernel
theorem dX10_setTurn_0 : decode cX10_setTurn 0 = .ok (.aload_n 0, 1) := by decide +kernel
theorem dX10_setTurn_1 : decode cX10_setTurn 1 = .ok (.iconst 0, 1) := by decide +kernel
theorem dX10_setTurn_2 : decode cX10_setTurn 2 = .ok (.putfield 58, 3) := by decide +kernel
theorem dX10_setTurn_5 : decode cX10_setTurn 5 = .ok (.aload_n 0, 1) := by decide +kernel
theorem dX10_setTurn_6 : decode cX10_setTurn 6 = .ok (.iconst 1, 1) := by decide +kernel
theorem dX10_setTurn_7 : decode cX10_setTurn 7 = .ok (.iload_n 1, 1) := by decide +kernel
theorem dX10_setTurn_8 : decode cX10_setTurn 8 = .ok (.ifCond .eq 7, 3) := by decide +kernel
theorem dX10_setTurn_11 : decode cX10_setTurn 11 = .ok (.iconst 1, 1) := by decide +kernel
theorem dX10_setTurn_12 : decode cX10_setTurn 12 = .ok (.goto 4, 3) := by decide +kernel
theorem dX10_setTurn_15 : decode cX10_setTurn 15 = .ok (.iconst 0, 1) := by decide +kernel
theorem dX10_setTurn_16 : decode cX10_setTurn 16 = .ok (.invokevirtual 432, 3) := by decide +kernel
theorem dX10_setTurn_19 : decode cX10_setTurn 19 = .ok (.iconst 1, 1) := by decide +kernel
theorem dX10_setTurn_20 : decode cX10_setTurn 20 = .ok (.if_icmp .ne 7, 3) := by decide +kernel
theorem dX10_setTurn_23 : decode cX10_setTurn 23 = .ok (.iconst 1, 1) := by decide +kernel
theorem dX10_setTurn_24 : decode cX10_setTurn 24 = .ok (.goto 4, 3) := by decide +kernel
theorem dX10_setTurn_27 : decode cX10_setTurn 27 = .ok (.iconst 0, 1) := by decide +kernel
theorem dX10_setTurn_28 : decode cX10_setTurn 28 = .ok (.ireturn, 1) := by decide +kernel
theorem dX10_setSplit_0 : decode cX10_setSplit 0 = .ok (.aload_n 0, 1) := by decide +kernel
theorem dX10_setSplit_1 : decode cX10_setSplit 1 = .ok (.iconst 0, 1) := by decide +kernel
theorem dX10_setSplit_2 : decode cX10_setSplit 2 = .ok (.putfield 58, 3) := by decide +kernel
theorem dX10_setSplit_5 : decode cX10_setSplit 5 = .ok (.aload_n 0, 1) := by decide +kernel
theorem dX10_setSplit_6 : decode cX10_setSplit 6 = .ok (.iconst 2, 1) := by decide +kernel
theorem dX10_setSplit_7 : decode cX10_setSplit 7 = .ok (.iload_n 1, 1) := by decide +kernel
theorem dX10_setSplit_8 : decode cX10_setSplit 8 = .ok (.ifCond .eq 7, 3) := by decide +kernel
theorem dX10_setSplit_11 : decode cX10_setSplit 11 = .ok (.iconst 1, 1) := by decide +kernel
theorem dX10_setSplit_12 : decode cX10_setSplit 12 = .ok (.goto 4, 3) := by decide +kernel
theorem dX10_setSplit_15 : decode cX10_setSplit 15 = .ok (.iconst 0, 1) := by decide +kernel
theorem dX10_setSplit_16 : decode cX10_setSplit 16 = .ok (.invokevirtual 432, 3) := by decide +kernel
theorem dX10_setSplit_19 : decode cX10_setSplit 19 = .ok (.iconst 1, 1) := by decide +kernel
theorem dX10_setSplit_20 : decode cX10_setSplit 20 = .ok (.if_icmp .ne 7, 3) := by decide +kernel
theorem dX10_setSplit_23 : decode cX10_setSplit 23 = .ok (.iconst 1, 1) := by decide +kernel
theorem dX10_setSplit_24 : decode cX10_setSplit 24 = .ok (.goto 4, 3) := by decide +kernel
theorem dX10_setSplit_27 : decode cX10_setSplit 27 = .ok (.iconst 0, 1) := by decide +kernel
theorem dX10_setSplit_28 : decode cX10_setSplit 28 = .ok (.ireturn, 1) := by decide +kernel
theorem dX10_setHymn_0 : decode cX10_setHymn 0 = .ok (.aload_n 0, 1) := by decide +kernel
theorem dX10_setHymn_1 : decode cX10_setHymn 1 = .ok (.iload_n 1, 1) := by decide +kernel
theorem dX10_setHymn_2 : decode cX10_setHymn 2 = .ok (.invokevirtual 368, 3) := by decide +kernel
theorem dX10_setHymn_5 : decode cX10_setHymn 5 = .ok (.ifCond .ne 23, 3) := by decide +kernel
theorem dX10_setHymn_8 : decode cX10_setHymn 8 = .ok (.aload_n 0, 1) := by decide +kernel
theorem dX10_setHymn_9 : decode cX10_setHymn 9 = .ok (.iload_n 3, 1) := by decide +kernel
theorem dX10_setHymn_10 : decode cX10_setHymn 10 = .ok (.invokestatic 387, 3) := by decide +kernel
theorem dX10_setHymn_13 : decode cX10_setHymn 13 = .ok (.ifCond .ne 7, 3) := by decide +kernel
theorem dX10_setHymn_16 : decode cX10_setHymn 16 = .ok (.iconst 1, 1) := by decide +kernel
theorem dX10_setHymn_17 : decode cX10_setHymn 17 = .ok (.goto 4, 3) := by decide +kernel
theorem dX10_setHymn_20 : decode cX10_setHymn 20 = .ok (.iconst 0, 1) := by decide +kernel
theorem dX10_setHymn_21 : decode cX10_setHymn 21 = .ok (.iconst 2, 1) := by decide +kernel
theorem dX10_setHymn_22 : decode cX10_setHymn 22 = .ok (.invokevirtual 340, 3) := by decide +kernel
theorem dX10_setHymn_25 : decode cX10_setHymn 25 = .ok (.ifCond .eq 5, 3) := by decide +kernel
theorem dX10_setHymn_28 : decode cX10_setHymn 28 = .ok (.iconst 0, 1) := by decide +kernel
theorem dX10_setHymn_29 : decode cX10_setHymn 29 = .ok (.ireturn, 1) := by decide +kernel
theorem dX10_setHymn_30 : decode cX10_setHymn 30 = .ok (.iload_n 2, 1) := by decide +kernel
theorem dX10_setHymn_31 : decode cX10_setHymn 31 = .ok (.i2l, 1) := by decide +kernel
theorem dX10_setHymn_32 : decode cX10_setHymn 32 = .ok (.lconst 0, 1) := by decide +kernel
theorem dX10_setHymn_33 : decode cX10_setHymn 33 = .ok (.aload_n 0, 1) := by decide +kernel
theorem dX10_setHymn_34 : decode cX10_setHymn 34 = .ok (.iload_n 1, 1) := by decide +kernel
theorem dX10_setHymn_35 : decode cX10_setHymn 35 = .ok (.invokevirtual 148, 3) := by decide +kernel
theorem dX10_setHymn_38 : decode cX10_setHymn 38 = .ok (.iconst 1, 1) := by decide +kernel
theorem dX10_setHymn_39 : decode cX10_setHymn 39 = .ok (.isub, 1) := by decide +kernel
theorem dX10_setHymn_40 : decode cX10_setHymn 40 = .ok (.i2l, 1) := by decide +kernel
theorem dX10_setHymn_41 : decode cX10_setHymn 41 = .ok (.invokestatic 92, 3) := by decide +kernel
theorem dX10_setHymn_44 : decode cX10_setHymn 44 = .ok (.ifCond .ne 6, 3) := by decide +kernel
theorem dX10_setHymn_47 : decode cX10_setHymn 47 = .ok (.bipush (-3), 2) := by decide +kernel
theorem dX10_setHymn_49 : decode cX10_setHymn 49 = .ok (.ireturn, 1) := by decide +kernel
theorem dX10_setHymn_50 : decode cX10_setHymn 50 = .ok (.aload_n 0, 1) := by decide +kernel
theorem dX10_setHymn_51 : decode cX10_setHymn 51 = .ok (.iload_n 1, 1) := by decide +kernel
theorem dX10_setHymn_52 : decode cX10_setHymn 52 = .ok (.iconst 1, 1) := by decide +kernel
theorem dX10_setHymn_53 : decode cX10_setHymn 53 = .ok (.iload_n 2, 1) := by decide +kernel
theorem dX10_setHymn_54 : decode cX10_setHymn 54 = .ok (.iadd, 1) := by decide +kernel
theorem dX10_setHymn_55 : decode cX10_setHymn 55 = .ok (.invokestatic 159, 3) := by decide +kernel
theorem dX10_setHymn_58 : decode cX10_setHymn 58 = .ok (.iload_n 3, 1) := by decide +kernel
theorem dX10_setHymn_59 : decode cX10_setHymn 59 = .ok (.invokevirtual 432, 3) := by decide +kernel
theorem dX10_setHymn_62 : decode cX10_setHymn 62 = .ok (.ireturn, 1) := by decide +kernel
theorem dX10_addHymn_0 : decode cX10_addHymn 0 = .ok (.aload_n 0, 1) := by decide +kernel
theorem dX10_addHymn_1 : decode cX10_addHymn 1 = .ok (.iload_n 1, 1) := by decide +kernel
theorem dX10_addHymn_2 : decode cX10_addHymn 2 = .ok (.invokevirtual 368, 3) := by decide +kernel
theorem dX10_addHymn_5 : decode cX10_addHymn 5 = .ok (.ifCond .ne 23, 3) := by decide +kernel
theorem dX10_addHymn_8 : decode cX10_addHymn 8 = .ok (.aload_n 0, 1) := by decide +kernel
theorem dX10_addHymn_9 : decode cX10_addHymn 9 = .ok (.iload_n 2, 1) := by decide +kernel
theorem dX10_addHymn_10 : decode cX10_addHymn 10 = .ok (.invokestatic 387, 3) := by decide +kernel
theorem dX10_addHymn_13 : decode cX10_addHymn 13 = .ok (.ifCond .ne 7, 3) := by decide +kernel
theorem dX10_addHymn_16 : decode cX10_addHymn 16 = .ok (.iconst 1, 1) := by decide +kernel
theorem dX10_addHymn_17 : decode cX10_addHymn 17 = .ok (.goto 4, 3) := by decide +kernel
theorem dX10_addHymn_20 : decode cX10_addHymn 20 = .ok (.iconst 0, 1) := by decide +kernel
theorem dX10_addHymn_21 : decode cX10_addHymn 21 = .ok (.iconst 2, 1) := by decide +kernel
theorem dX10_addHymn_22 : decode cX10_addHymn 22 = .ok (.invokevirtual 340, 3) := by decide +kernel
theorem dX10_addHymn_25 : decode cX10_addHymn 25 = .ok (.ifCond .eq 5, 3) := by decide +kernel
theorem dX10_addHymn_28 : decode cX10_addHymn 28 = .ok (.iconst 0, 1) := by decide +kernel
theorem dX10_addHymn_29 : decode cX10_addHymn 29 = .ok (.ireturn, 1) := by decide +kernel
theorem dX10_addHymn_30 : decode cX10_addHymn 30 = .ok (.aload_n 0, 1) := by decide +kernel
theorem dX10_addHymn_31 : decode cX10_addHymn 31 = .ok (.iload_n 1, 1) := by decide +kernel
theorem dX10_addHymn_32 : decode cX10_addHymn 32 = .ok (.invokevirtual 148, 3) := by decide +kernel
theorem dX10_addHymn_35 : decode cX10_addHymn 35 = .ok (.bipush 8, 2) := by decide +kernel
theorem dX10_addHymn_37 : decode cX10_addHymn 37 = .ok (.if_icmp .ne 6, 3) := by decide +kernel
theorem dX10_addHymn_40 : decode cX10_addHymn 40 = .ok (.bipush (-2), 2) := by decide +kernel
theorem dX10_addHymn_42 : decode cX10_addHymn 42 = .ok (.ireturn, 1) := by decide +kernel
theorem dX10_addHymn_43 : decode cX10_addHymn 43 = .ok (.aload_n 0, 1) := by decide +kernel
theorem dX10_addHymn_44 : decode cX10_addHymn 44 = .ok (.invokevirtual 422, 3) := by decide +kernel
theorem dX10_addHymn_47 : decode cX10_addHymn 47 = .ok (.aload_n 0, 1) := by decide +kernel
theorem dX10_addHymn_48 : decode cX10_addHymn 48 = .ok (.iload_n 1, 1) := by decide +kernel
theorem dX10_addHymn_49 : decode cX10_addHymn 49 = .ok (.iload_n 2, 1) := by decide +kernel
theorem dX10_addHymn_50 : decode cX10_addHymn 50 = .ok (.invokevirtual 162, 3) := by decide +kernel
theorem dX10_addHymn_53 : decode cX10_addHymn 53 = .ok (.aload_n 0, 1) := by decide +kernel
theorem dX10_addHymn_54 : decode cX10_addHymn 54 = .ok (.iload_n 1, 1) := by decide +kernel
theorem dX10_addHymn_55 : decode cX10_addHymn 55 = .ok (.invokevirtual 148, 3) := by decide +kernel
theorem dX10_addHymn_58 : decode cX10_addHymn 58 = .ok (.ireturn, 1) := by decide +kernel
theorem dX10_addService_0 : decode cX10_addService 0 = .ok (.aload_n 0, 1) := by decide +kernel
theorem dX10_addService_1 : decode cX10_addService 1 = .ok (.iload_n 1, 1) := by decide +kernel
theorem dX10_addService_2 : decode cX10_addService 2 = .ok (.invokestatic 387, 3) := by decide +kernel
theorem dX10_addService_5 : decode cX10_addService 5 = .ok (.ifCond .ne 7, 3) := by decide +kernel
theorem dX10_addService_8 : decode cX10_addService 8 = .ok (.iconst 1, 1) := by decide +kernel
theorem dX10_addService_9 : decode cX10_addService 9 = .ok (.goto 4, 3) := by decide +kernel
theorem dX10_addService_12 : decode cX10_addService 12 = .ok (.iconst 0, 1) := by decide +kernel
theorem dX10_addService_13 : decode cX10_addService 13 = .ok (.invokevirtual 321, 3) := by decide +kernel
theorem dX10_addService_16 : decode cX10_addService 16 = .ok (.ifCond .eq 5, 3) := by decide +kernel
theorem dX10_addService_19 : decode cX10_addService 19 = .ok (.iconst 0, 1) := by decide +kernel
theorem dX10_addService_20 : decode cX10_addService 20 = .ok (.ireturn, 1) := by decide +kernel
theorem dX10_addService_21 : decode cX10_addService 21 = .ok (.aload_n 0, 1) := by decide +kernel
theorem dX10_addService_22 : decode cX10_addService 22 = .ok (.getfield 9, 3) := by decide +kernel
theorem dX10_addService_25 : decode cX10_addService 25 = .ok (.iconst 5, 1) := by decide +kernel
theorem dX10_addService_26 : decode cX10_addService 26 = .ok (.iaload, 1) := by decide +kernel
theorem dX10_addService_27 : decode cX10_addService 27 = .ok (.istore_n 2, 1) := by decide +kernel
theorem dX10_addService_28 : decode cX10_addService 28 = .ok (.iload_n 2, 1) := by decide +kernel
theorem dX10_addService_29 : decode cX10_addService 29 = .ok (.bipush 16, 2) := by decide +kernel
theorem dX10_addService_31 : decode cX10_addService 31 = .ok (.if_icmp .ne 6, 3) := by decide +kernel
theorem dX10_addService_34 : decode cX10_addService 34 = .ok (.bipush (-2), 2) := by decide +kernel
theorem dX10_addService_36 : decode cX10_addService 36 = .ok (.ireturn, 1) := by decide +kernel
theorem dX10_addService_37 : decode cX10_addService 37 = .ok (.aload_n 0, 1) := by decide +kernel
theorem dX10_addService_38 : decode cX10_addService 38 = .ok (.invokevirtual 422, 3) := by decide +kernel
theorem dX10_addService_41 : decode cX10_addService 41 = .ok (.aload_n 0, 1) := by decide +kernel
theorem dX10_addService_42 : decode cX10_addService 42 = .ok (.getfield 9, 3) := by decide +kernel
theorem dX10_addService_45 : decode cX10_addService 45 = .ok (.iload_n 2, 1) := by decide +kernel
theorem dX10_addService_46 : decode cX10_addService 46 = .ok (.iconst 0, 1) := by decide +kernel
theorem dX10_addService_47 : decode cX10_addService 47 = .ok (.invokestatic 159, 3) := by decide +kernel
theorem dX10_addService_50 : decode cX10_addService 50 = .ok (.iconst 0, 1) := by decide +kernel
theorem dX10_addService_51 : decode cX10_addService 51 = .ok (.iastore, 1) := by decide +kernel
theorem dX10_addService_52 : decode cX10_addService 52 = .ok (.aload_n 0, 1) := by decide +kernel
theorem dX10_addService_53 : decode cX10_addService 53 = .ok (.iload_n 2, 1) := by decide +kernel
theorem dX10_addService_54 : decode cX10_addService 54 = .ok (.iload_n 1, 1) := by decide +kernel
theorem dX10_addService_55 : decode cX10_addService 55 = .ok (.invokevirtual 162, 3) := by decide +kernel
theorem dX10_addService_58 : decode cX10_addService 58 = .ok (.aload_n 0, 1) := by decide +kernel
theorem dX10_addService_59 : decode cX10_addService 59 = .ok (.getfield 9, 3) := by decide +kernel
theorem dX10_addService_62 : decode cX10_addService 62 = .ok (.iconst 5, 1) := by decide +kernel
theorem dX10_addService_63 : decode cX10_addService 63 = .ok (.dup2, 1) := by decide +kernel
theorem dX10_addService_64 : decode cX10_addService 64 = .ok (.iaload, 1) := by decide +kernel
theorem dX10_addService_65 : decode cX10_addService 65 = .ok (.iconst 1, 1) := by decide +kernel
theorem dX10_addService_66 : decode cX10_addService 66 = .ok (.iadd, 1) := by decide +kernel
theorem dX10_addService_67 : decode cX10_addService 67 = .ok (.iastore, 1) := by decide +kernel
theorem dX10_addService_68 : decode cX10_addService 68 = .ok (.iload_n 2, 1) := by decide +kernel
theorem dX10_addService_69 : decode cX10_addService 69 = .ok (.ireturn, 1) := by decide +kernel
theorem dX10_luck_0 : decode cX10_luck 0 = .ok (.aload_n 0, 1) := by decide +kernel
theorem dX10_luck_1 : decode cX10_luck 1 = .ok (.iconst 0, 1) := by decide +kernel
theorem dX10_luck_2 : decode cX10_luck 2 = .ok (.putfield 58, 3) := by decide +kernel
theorem dX10_luck_5 : decode cX10_luck 5 = .ok (.aload_n 0, 1) := by decide +kernel
theorem dX10_luck_6 : decode cX10_luck 6 = .ok (.getfield 9, 3) := by decide +kernel
theorem dX10_luck_9 : decode cX10_luck 9 = .ok (.bipush 10, 2) := by decide +kernel
theorem dX10_luck_11 : decode cX10_luck 11 = .ok (.iaload, 1) := by decide +kernel
theorem dX10_luck_12 : decode cX10_luck 12 = .ok (.aload_n 0, 1) := by decide +kernel
theorem dX10_luck_13 : decode cX10_luck 13 = .ok (.getfield 9, 3) := by decide +kernel
theorem dX10_luck_16 : decode cX10_luck 16 = .ok (.bipush 11, 2) := by decide +kernel
theorem dX10_luck_18 : decode cX10_luck 18 = .ok (.iaload, 1) := by decide +kernel
theorem dX10_luck_19 : decode cX10_luck 19 = .ok (.iadd, 1) := by decide +kernel
theorem dX10_luck_20 : decode cX10_luck 20 = .ok (.istore_n 1, 1) := by decide +kernel
theorem dX10_luck_21 : decode cX10_luck 21 = .ok (.iload_n 1, 1) := by decide +kernel
theorem dX10_luck_22 : decode cX10_luck 22 = .ok (.ifCond .ne 7, 3) := by decide +kernel
theorem dX10_luck_25 : decode cX10_luck 25 = .ok (.dconst 0, 1) := by decide +kernel
theorem dX10_luck_26 : decode cX10_luck 26 = .ok (.goto 14, 3) := by decide +kernel
theorem dX10_luck_29 : decode cX10_luck 29 = .ok (.aload_n 0, 1) := by decide +kernel
theorem dX10_luck_30 : decode cX10_luck 30 = .ok (.getfield 9, 3) := by decide +kernel
theorem dX10_luck_33 : decode cX10_luck 33 = .ok (.bipush 10, 2) := by decide +kernel
theorem dX10_luck_35 : decode cX10_luck 35 = .ok (.iaload, 1) := by decide +kernel
theorem dX10_luck_36 : decode cX10_luck 36 = .ok (.i2d, 1) := by decide +kernel
theorem dX10_luck_37 : decode cX10_luck 37 = .ok (.iload_n 1, 1) := by decide +kernel
theorem dX10_luck_38 : decode cX10_luck 38 = .ok (.i2d, 1) := by decide +kernel
theorem dX10_luck_39 : decode cX10_luck 39 = .ok (.ddiv, 1) := by decide +kernel
theorem dX10_luck_40 : decode cX10_luck 40 = .ok (.dreturn, 1) := by decide +kernel
theorem dX10_turned_0 : decode cX10_turned 0 = .ok (.aload_n 0, 1) := by decide +kernel
theorem dX10_turned_1 : decode cX10_turned 1 = .ok (.iconst 0, 1) := by decide +kernel
theorem dX10_turned_2 : decode cX10_turned 2 = .ok (.putfield 58, 3) := by decide +kernel
theorem dX10_turned_5 : decode cX10_turned 5 = .ok (.aload_n 0, 1) := by decide +kernel
theorem dX10_turned_6 : decode cX10_turned 6 = .ok (.invokevirtual 325, 3) := by decide +kernel
theorem dX10_turned_9 : decode cX10_turned 9 = .ok (.istore_n 1, 1) := by decide +kernel
theorem dX10_turned_10 : decode cX10_turned 10 = .ok (.iload_n 1, 1) := by decide +kernel
theorem dX10_turned_11 : decode cX10_turned 11 = .ok (.ifCond .ne 7, 3) := by decide +kernel
theorem dX10_turned_14 : decode cX10_turned 14 = .ok (.fconst 0, 1) := by decide +kernel
theorem dX10_turned_15 : decode cX10_turned 15 = .ok (.goto 11, 3) := by decide +kernel
theorem dX10_turned_18 : decode cX10_turned 18 = .ok (.aload_n 0, 1) := by decide +kernel
theorem dX10_turned_19 : decode cX10_turned 19 = .ok (.invokevirtual 390, 3) := by decide +kernel
theorem dX10_turned_22 : decode cX10_turned 22 = .ok (.i2f, 1) := by decide +kernel
theorem dX10_turned_23 : decode cX10_turned 23 = .ok (.iload_n 1, 1) := by decide +kernel
theorem dX10_turned_24 : decode cX10_turned 24 = .ok (.i2f, 1) := by decide +kernel
theorem dX10_turned_25 : decode cX10_turned 25 = .ok (.fdiv, 1) := by decide +kernel
theorem dX10_turned_26 : decode cX10_turned 26 = .ok (.freturn, 1) := by decide +kernel
theorem dX10_says_0 : decode cX10_says 0 = .ok (.aload_n 0, 1) := by decide +kernel
theorem dX10_says_1 : decode cX10_says 1 = .ok (.getfield 52, 3) := by decide +kernel
theorem dX10_says_4 : decode cX10_says 4 = .ok (.aload_n 0, 1) := by decide +kernel
theorem dX10_says_5 : decode cX10_says 5 = .ok (.getfield 435, 3) := by decide +kernel
theorem dX10_says_8 : decode cX10_says 8 = .ok (.iload_n 1, 1) := by decide +kernel
theorem dX10_says_9 : decode cX10_says 9 = .ok (.iastore, 1) := by decide +kernel
theorem dX10_says_10 : decode cX10_says 10 = .ok (.aload_n 0, 1) := by decide +kernel
theorem dX10_says_11 : decode cX10_says 11 = .ok (.dup, 1) := by decide +kernel
theorem dX10_says_12 : decode cX10_says 12 = .ok (.getfield 435, 3) := by decide +kernel
theorem dX10_says_15 : decode cX10_says 15 = .ok (.iconst 1, 1) := by decide +kernel
theorem dX10_says_16 : decode cX10_says 16 = .ok (.iadd, 1) := by decide +kernel
theorem dX10_says_17 : decode cX10_says 17 = .ok (.putfield 435, 3) := by decide +kernel
theorem dX10_says_20 : decode cX10_says 20 = .ok (.return_, 1) := by decide +kernel
theorem dX10_saysNumber_0 : decode cX10_saysNumber 0 = .ok (.iload_n 1, 1) := by decide +kernel
theorem dX10_saysNumber_1 : decode cX10_saysNumber 1 = .ok (.bipush 100, 2) := by decide +kernel
theorem dX10_saysNumber_3 : decode cX10_saysNumber 3 = .ok (.if_icmp .lt 14, 3) := by decide +kernel
theorem dX10_saysNumber_6 : decode cX10_saysNumber 6 = .ok (.aload_n 0, 1) := by decide +kernel
theorem dX10_saysNumber_7 : decode cX10_saysNumber 7 = .ok (.bipush 48, 2) := by decide +kernel
theorem dX10_saysNumber_9 : decode cX10_saysNumber 9 = .ok (.iload_n 1, 1) := by decide +kernel
theorem dX10_saysNumber_10 : decode cX10_saysNumber 10 = .ok (.bipush 100, 2) := by decide +kernel
theorem dX10_saysNumber_12 : decode cX10_saysNumber 12 = .ok (.idiv, 1) := by decide +kernel
theorem dX10_saysNumber_13 : decode cX10_saysNumber 13 = .ok (.iadd, 1) := by decide +kernel
theorem dX10_saysNumber_14 : decode cX10_saysNumber 14 = .ok (.invokevirtual 438, 3) := by decide +kernel
theorem dX10_saysNumber_17 : decode cX10_saysNumber 17 = .ok (.iload_n 1, 1) := by decide +kernel
theorem dX10_saysNumber_18 : decode cX10_saysNumber 18 = .ok (.bipush 10, 2) := by decide +kernel
theorem dX10_saysNumber_20 : decode cX10_saysNumber 20 = .ok (.if_icmp .lt 17, 3) := by decide +kernel
theorem dX10_saysNumber_23 : decode cX10_saysNumber 23 = .ok (.aload_n 0, 1) := by decide +kernel
theorem dX10_saysNumber_24 : decode cX10_saysNumber 24 = .ok (.bipush 48, 2) := by decide +kernel
theorem dX10_saysNumber_26 : decode cX10_saysNumber 26 = .ok (.iload_n 1, 1) := by decide +kernel
theorem dX10_saysNumber_27 : decode cX10_saysNumber 27 = .ok (.bipush 10, 2) := by decide +kernel
theorem dX10_saysNumber_29 : decode cX10_saysNumber 29 = .ok (.idiv, 1) := by decide +kernel
theorem dX10_saysNumber_30 : decode cX10_saysNumber 30 = .ok (.bipush 10, 2) := by decide +kernel
theorem dX10_saysNumber_32 : decode cX10_saysNumber 32 = .ok (.irem, 1) := by decide +kernel
theorem dX10_saysNumber_33 : decode cX10_saysNumber 33 = .ok (.iadd, 1) := by decide +kernel
theorem dX10_saysNumber_34 : decode cX10_saysNumber 34 = .ok (.invokevirtual 438, 3) := by decide +kernel
theorem dX10_saysNumber_37 : decode cX10_saysNumber 37 = .ok (.aload_n 0, 1) := by decide +kernel
theorem dX10_saysNumber_38 : decode cX10_saysNumber 38 = .ok (.bipush 48, 2) := by decide +kernel
theorem dX10_saysNumber_40 : decode cX10_saysNumber 40 = .ok (.iload_n 1, 1) := by decide +kernel
theorem dX10_saysNumber_41 : decode cX10_saysNumber 41 = .ok (.bipush 10, 2) := by decide +kernel
theorem dX10_saysNumber_43 : decode cX10_saysNumber 43 = .ok (.irem, 1) := by decide +kernel
theorem dX10_saysNumber_44 : decode cX10_saysNumber 44 = .ok (.iadd, 1) := by decide +kernel
theorem dX10_saysNumber_45 : decode cX10_saysNumber 45 = .ok (.invokevirtual 438, 3) := by decide +kernel
theorem dX10_saysNumber_48 : decode cX10_saysNumber 48 = .ok (.return_, 1) := by decide +kernel
theorem dX10_saysRow_0 : decode cX10_saysRow 0 = .ok (.iconst 0, 1) := by decide +kernel
theorem dX10_saysRow_1 : decode cX10_saysRow 1 = .ok (.istore_n 2, 1) := by decide +kernel
theorem dX10_saysRow_2 : decode cX10_saysRow 2 = .ok (.iload_n 2, 1) := by decide +kernel
theorem dX10_saysRow_3 : decode cX10_saysRow 3 = .ok (.iconst 3, 1) := by decide +kernel
theorem dX10_saysRow_4 : decode cX10_saysRow 4 = .ok (.if_icmp .ge 45, 3) := by decide +kernel
theorem dX10_saysRow_7 : decode cX10_saysRow 7 = .ok (.iconst 3, 1) := by decide +kernel
theorem dX10_saysRow_8 : decode cX10_saysRow 8 = .ok (.iload_n 1, 1) := by decide +kernel
theorem dX10_saysRow_9 : decode cX10_saysRow 9 = .ok (.imul, 1) := by decide +kernel
theorem dX10_saysRow_10 : decode cX10_saysRow 10 = .ok (.iload_n 2, 1) := by decide +kernel
theorem dX10_saysRow_11 : decode cX10_saysRow 11 = .ok (.iadd, 1) := by decide +kernel
theorem dX10_saysRow_12 : decode cX10_saysRow 12 = .ok (.istore_n 3, 1) := by decide +kernel
theorem dX10_saysRow_13 : decode cX10_saysRow 13 = .ok (.aload_n 0, 1) := by decide +kernel
theorem dX10_saysRow_14 : decode cX10_saysRow 14 = .ok (.aload_n 0, 1) := by decide +kernel
theorem dX10_saysRow_15 : decode cX10_saysRow 15 = .ok (.iload_n 3, 1) := by decide +kernel
theorem dX10_saysRow_16 : decode cX10_saysRow 16 = .ok (.invokevirtual 237, 3) := by decide +kernel
theorem dX10_saysRow_19 : decode cX10_saysRow 19 = .ok (.ifCond .eq 19, 3) := by decide +kernel
theorem dX10_saysRow_22 : decode cX10_saysRow 22 = .ok (.bipush 48, 2) := by decide +kernel
theorem dX10_saysRow_24 : decode cX10_saysRow 24 = .ok (.aload_n 0, 1) := by decide +kernel
theorem dX10_saysRow_25 : decode cX10_saysRow 25 = .ok (.getfield 9, 3) := by decide +kernel
theorem dX10_saysRow_28 : decode cX10_saysRow 28 = .ok (.iload_n 3, 1) := by decide +kernel
theorem dX10_saysRow_29 : decode cX10_saysRow 29 = .ok (.iconst 0, 1) := by decide +kernel
theorem dX10_saysRow_30 : decode cX10_saysRow 30 = .ok (.invokestatic 234, 3) := by decide +kernel
theorem dX10_saysRow_33 : decode cX10_saysRow 33 = .ok (.iaload, 1) := by decide +kernel
theorem dX10_saysRow_34 : decode cX10_saysRow 34 = .ok (.iadd, 1) := by decide +kernel
theorem dX10_saysRow_35 : decode cX10_saysRow 35 = .ok (.goto 5, 3) := by decide +kernel
theorem dX10_saysRow_38 : decode cX10_saysRow 38 = .ok (.bipush 46, 2) := by decide +kernel
theorem dX10_saysRow_40 : decode cX10_saysRow 40 = .ok (.invokevirtual 438, 3) := by decide +kernel
theorem dX10_saysRow_43 : decode cX10_saysRow 43 = .ok (.iinc 2 1, 3) := by decide +kernel
theorem dX10_saysRow_46 : decode cX10_saysRow 46 = .ok (.goto (-44), 3) := by decide +kernel
theorem dX10_saysRow_49 : decode cX10_saysRow 49 = .ok (.return_, 1) := by decide +kernel
theorem dX10_write_0 : decode cX10_write 0 = .ok (.aload_n 0, 1) := by decide +kernel
theorem dX10_write_1 : decode cX10_write 1 = .ok (.iconst 0, 1) := by decide +kernel
theorem dX10_write_2 : decode cX10_write 2 = .ok (.putfield 58, 3) := by decide +kernel
theorem dX10_write_5 : decode cX10_write 5 = .ok (.aload_n 0, 1) := by decide +kernel
theorem dX10_write_6 : decode cX10_write 6 = .ok (.iconst 0, 1) := by decide +kernel
theorem dX10_write_7 : decode cX10_write 7 = .ok (.putfield 435, 3) := by decide +kernel
theorem dX10_write_10 : decode cX10_write 10 = .ok (.iconst 0, 1) := by decide +kernel
theorem dX10_write_11 : decode cX10_write 11 = .ok (.istore_n 1, 1) := by decide +kernel
theorem dX10_write_12 : decode cX10_write 12 = .ok (.iload_n 1, 1) := by decide +kernel
theorem dX10_write_13 : decode cX10_write 13 = .ok (.aload_n 0, 1) := by decide +kernel
theorem dX10_write_14 : decode cX10_write 14 = .ok (.getfield 9, 3) := by decide +kernel
theorem dX10_write_17 : decode cX10_write 17 = .ok (.iconst 0, 1) := by decide +kernel
theorem dX10_write_18 : decode cX10_write 18 = .ok (.iaload, 1) := by decide +kernel
theorem dX10_write_19 : decode cX10_write 19 = .ok (.if_icmp .ge 61, 3) := by decide +kernel
theorem dX10_write_22 : decode cX10_write 22 = .ok (.iload_n 1, 1) := by decide +kernel
theorem dX10_write_23 : decode cX10_write 23 = .ok (.ifCond .le 9, 3) := by decide +kernel
theorem dX10_write_26 : decode cX10_write 26 = .ok (.aload_n 0, 1) := by decide +kernel
theorem dX10_write_27 : decode cX10_write 27 = .ok (.bipush 32, 2) := by decide +kernel
theorem dX10_write_29 : decode cX10_write 29 = .ok (.invokevirtual 438, 3) := by decide +kernel
theorem dX10_write_32 : decode cX10_write 32 = .ok (.iconst 0, 1) := by decide +kernel
theorem dX10_write_33 : decode cX10_write 33 = .ok (.istore_n 2, 1) := by decide +kernel
theorem dX10_write_34 : decode cX10_write 34 = .ok (.iload_n 2, 1) := by decide +kernel
theorem dX10_write_35 : decode cX10_write 35 = .ok (.aload_n 0, 1) := by decide +kernel
theorem dX10_write_36 : decode cX10_write 36 = .ok (.getfield 9, 3) := by decide +kernel
theorem dX10_write_39 : decode cX10_write 39 = .ok (.bipush 12, 2) := by decide +kernel
theorem dX10_write_41 : decode cX10_write 41 = .ok (.iload_n 1, 1) := by decide +kernel
theorem dX10_write_42 : decode cX10_write 42 = .ok (.iadd, 1) := by decide +kernel
theorem dX10_write_43 : decode cX10_write 43 = .ok (.iaload, 1) := by decide +kernel
theorem dX10_write_44 : decode cX10_write 44 = .ok (.if_icmp .ge 30, 3) := by decide +kernel
theorem dX10_write_47 : decode cX10_write 47 = .ok (.iload_n 2, 1) := by decide +kernel
theorem dX10_write_48 : decode cX10_write 48 = .ok (.ifCond .le 9, 3) := by decide +kernel
theorem dX10_write_51 : decode cX10_write 51 = .ok (.aload_n 0, 1) := by decide +kernel
theorem dX10_write_52 : decode cX10_write 52 = .ok (.bipush 47, 2) := by decide +kernel
theorem dX10_write_54 : decode cX10_write 54 = .ok (.invokevirtual 438, 3) := by decide +kernel
theorem dX10_write_57 : decode cX10_write 57 = .ok (.aload_n 0, 1) := by decide +kernel
theorem dX10_write_58 : decode cX10_write 58 = .ok (.aload_n 0, 1) := by decide +kernel
theorem dX10_write_59 : decode cX10_write 59 = .ok (.iload_n 1, 1) := by decide +kernel
theorem dX10_write_60 : decode cX10_write 60 = .ok (.invokevirtual 270, 3) := by decide +kernel
theorem dX10_write_63 : decode cX10_write 63 = .ok (.iload_n 2, 1) := by decide +kernel
theorem dX10_write_64 : decode cX10_write 64 = .ok (.iadd, 1) := by decide +kernel
theorem dX10_write_65 : decode cX10_write 65 = .ok (.invokevirtual 441, 3) := by decide +kernel
theorem dX10_write_68 : decode cX10_write 68 = .ok (.iinc 2 1, 3) := by decide +kernel
theorem dX10_write_71 : decode cX10_write 71 = .ok (.goto (-37), 3) := by decide +kernel
theorem dX10_write_74 : decode cX10_write 74 = .ok (.iinc 1 1, 3) := by decide +kernel
theorem dX10_write_77 : decode cX10_write 77 = .ok (.goto (-65), 3) := by decide +kernel
theorem dX10_write_80 : decode cX10_write 80 = .ok (.aload_n 0, 1) := by decide +kernel
theorem dX10_write_81 : decode cX10_write 81 = .ok (.getfield 435, 3) := by decide +kernel
theorem dX10_write_84 : decode cX10_write 84 = .ok (.ireturn, 1) := by decide +kernel
theorem dX10_writeService_0 : decode cX10_writeService 0 = .ok (.aload_n 0, 1) := by decide +kernel
theorem dX10_writeService_1 : decode cX10_writeService 1 = .ok (.iload_n 1, 1) := by decide +kernel
theorem dX10_writeService_2 : decode cX10_writeService 2 = .ok (.invokevirtual 368, 3) := by decide +kernel
theorem dX10_writeService_5 : decode cX10_writeService 5 = .ok (.ifCond .eq 5, 3) := by decide +kernel
theorem dX10_writeService_8 : decode cX10_writeService 8 = .ok (.iconst 0, 1) := by decide +kernel
theorem dX10_writeService_9 : decode cX10_writeService 9 = .ok (.ireturn, 1) := by decide +kernel
theorem dX10_writeService_10 : decode cX10_writeService 10 = .ok (.aload_n 0, 1) := by decide +kernel
theorem dX10_writeService_11 : decode cX10_writeService 11 = .ok (.iconst 0, 1) := by decide +kernel
theorem dX10_writeService_12 : decode cX10_writeService 12 = .ok (.putfield 435, 3) := by decide +kernel
theorem dX10_writeService_15 : decode cX10_writeService 15 = .ok (.iconst 0, 1) := by decide +kernel
theorem dX10_writeService_16 : decode cX10_writeService 16 = .ok (.istore_n 2, 1) := by decide +kernel
theorem dX10_writeService_17 : decode cX10_writeService 17 = .ok (.iload_n 2, 1) := by decide +kernel
theorem dX10_writeService_18 : decode cX10_writeService 18 = .ok (.aload_n 0, 1) := by decide +kernel
theorem dX10_writeService_19 : decode cX10_writeService 19 = .ok (.iload_n 1, 1) := by decide +kernel
theorem dX10_writeService_20 : decode cX10_writeService 20 = .ok (.invokevirtual 148, 3) := by decide +kernel
theorem dX10_writeService_23 : decode cX10_writeService 23 = .ok (.if_icmp .ge 29, 3) := by decide +kernel
theorem dX10_writeService_26 : decode cX10_writeService 26 = .ok (.iload_n 2, 1) := by decide +kernel
theorem dX10_writeService_27 : decode cX10_writeService 27 = .ok (.ifCond .le 9, 3) := by decide +kernel
theorem dX10_writeService_30 : decode cX10_writeService 30 = .ok (.aload_n 0, 1) := by decide +kernel
theorem dX10_writeService_31 : decode cX10_writeService 31 = .ok (.bipush 32, 2) := by decide +kernel
theorem dX10_writeService_33 : decode cX10_writeService 33 = .ok (.invokevirtual 438, 3) := by decide +kernel
theorem dX10_writeService_36 : decode cX10_writeService 36 = .ok (.aload_n 0, 1) := by decide +kernel
theorem dX10_writeService_37 : decode cX10_writeService 37 = .ok (.aload_n 0, 1) := by decide +kernel
theorem dX10_writeService_38 : decode cX10_writeService 38 = .ok (.iload_n 1, 1) := by decide +kernel
theorem dX10_writeService_39 : decode cX10_writeService 39 = .ok (.iload_n 2, 1) := by decide +kernel
theorem dX10_writeService_40 : decode cX10_writeService 40 = .ok (.invokevirtual 152, 3) := by decide +kernel
theorem dX10_writeService_43 : decode cX10_writeService 43 = .ok (.invokevirtual 444, 3) := by decide +kernel
theorem dX10_writeService_46 : decode cX10_writeService 46 = .ok (.iinc 2 1, 3) := by decide +kernel
theorem dX10_writeService_49 : decode cX10_writeService 49 = .ok (.goto (-32), 3) := by decide +kernel
theorem dX10_writeService_52 : decode cX10_writeService 52 = .ok (.aload_n 0, 1) := by decide +kernel
theorem dX10_writeService_53 : decode cX10_writeService 53 = .ok (.getfield 435, 3) := by decide +kernel
theorem dX10_writeService_56 : decode cX10_writeService 56 = .ok (.ireturn, 1) := by decide +kernel
theorem dX10_outputByte_0 : decode cX10_outputByte 0 = .ok (.aload_n 0, 1) := by decide +kernel
theorem dX10_outputByte_1 : decode cX10_outputByte 1 = .ok (.iconst 0, 1) := by decide +kernel
theorem dX10_outputByte_2 : decode cX10_outputByte 2 = .ok (.putfield 58, 3) := by decide +kernel
theorem dX10_outputByte_5 : decode cX10_outputByte 5 = .ok (.iload_n 1, 1) := by decide +kernel
theorem dX10_outputByte_6 : decode cX10_outputByte 6 = .ok (.i2l, 1) := by decide +kernel
theorem dX10_outputByte_7 : decode cX10_outputByte 7 = .ok (.lconst 0, 1) := by decide +kernel
theorem dX10_outputByte_8 : decode cX10_outputByte 8 = .ok (.aload_n 0, 1) := by decide +kernel
theorem dX10_outputByte_9 : decode cX10_outputByte 9 = .ok (.getfield 435, 3) := by decide +kernel
theorem dX10_outputByte_12 : decode cX10_outputByte 12 = .ok (.iconst 1, 1) := by decide +kernel
theorem dX10_outputByte_13 : decode cX10_outputByte 13 = .ok (.isub, 1) := by decide +kernel
theorem dX10_outputByte_14 : decode cX10_outputByte 14 = .ok (.i2l, 1) := by decide +kernel
theorem dX10_outputByte_15 : decode cX10_outputByte 15 = .ok (.invokestatic 92, 3) := by decide +kernel
theorem dX10_outputByte_18 : decode cX10_outputByte 18 = .ok (.ifCond .eq 12, 3) := by decide +kernel
theorem dX10_outputByte_21 : decode cX10_outputByte 21 = .ok (.aload_n 0, 1) := by decide +kernel
theorem dX10_outputByte_22 : decode cX10_outputByte 22 = .ok (.getfield 52, 3) := by decide +kernel
theorem dX10_outputByte_25 : decode cX10_outputByte 25 = .ok (.iload_n 1, 1) := by decide +kernel
theorem dX10_outputByte_26 : decode cX10_outputByte 26 = .ok (.iaload, 1) := by decide +kernel
theorem dX10_outputByte_27 : decode cX10_outputByte 27 = .ok (.goto 4, 3) := by decide +kernel
theorem dX10_outputByte_30 : decode cX10_outputByte 30 = .ok (.iconst (-1), 1) := by decide +kernel
theorem dX10_outputByte_31 : decode cX10_outputByte 31 = .ok (.ireturn, 1) := by decide +kernel
theorem dX10_undo_0 : decode cX10_undo 0 = .ok (.aload_n 0, 1) := by decide +kernel
theorem dX10_undo_1 : decode cX10_undo 1 = .ok (.iconst 0, 1) := by decide +kernel
theorem dX10_undo_2 : decode cX10_undo 2 = .ok (.putfield 58, 3) := by decide +kernel
theorem dX10_undo_5 : decode cX10_undo 5 = .ok (.aload_n 0, 1) := by decide +kernel
theorem dX10_undo_6 : decode cX10_undo 6 = .ok (.getfield 64, 3) := by decide +kernel
theorem dX10_undo_9 : decode cX10_undo 9 = .ok (.ifCond .ne 5, 3) := by decide +kernel
theorem dX10_undo_12 : decode cX10_undo 12 = .ok (.iconst (-1), 1) := by decide +kernel
theorem dX10_undo_13 : decode cX10_undo 13 = .ok (.ireturn, 1) := by decide +kernel
theorem dX10_undo_14 : decode cX10_undo 14 = .ok (.aload_n 0, 1) := by decide +kernel
theorem dX10_undo_15 : decode cX10_undo 15 = .ok (.dup, 1) := by decide +kernel
theorem dX10_undo_16 : decode cX10_undo 16 = .ok (.getfield 64, 3) := by decide +kernel
theorem dX10_undo_19 : decode cX10_undo 19 = .ok (.iconst 1, 1) := by decide +kernel
theorem dX10_undo_20 : decode cX10_undo 20 = .ok (.isub, 1) := by decide +kernel
theorem dX10_undo_21 : decode cX10_undo 21 = .ok (.putfield 64, 3) := by decide +kernel
theorem dX10_undo_24 : decode cX10_undo 24 = .ok (.iconst 0, 1) := by decide +kernel
theorem dX10_undo_25 : decode cX10_undo 25 = .ok (.istore_n 1, 1) := by decide +kernel
theorem dX10_undo_26 : decode cX10_undo 26 = .ok (.iload_n 1, 1) := by decide +kernel
theorem dX10_undo_27 : decode cX10_undo 27 = .ok (.sipush 456, 3) := by decide +kernel
theorem dX10_undo_30 : decode cX10_undo 30 = .ok (.if_icmp .ge 30, 3) := by decide +kernel
theorem dX10_undo_33 : decode cX10_undo 33 = .ok (.aload_n 0, 1) := by decide +kernel
theorem dX10_undo_34 : decode cX10_undo 34 = .ok (.getfield 9, 3) := by decide +kernel
theorem dX10_undo_37 : decode cX10_undo 37 = .ok (.iload_n 1, 1) := by decide +kernel
theorem dX10_undo_38 : decode cX10_undo 38 = .ok (.aload_n 0, 1) := by decide +kernel
theorem dX10_undo_39 : decode cX10_undo 39 = .ok (.getfield 23, 3) := by decide +kernel
theorem dX10_undo_42 : decode cX10_undo 42 = .ok (.sipush 456, 3) := by decide +kernel
theorem dX10_undo_45 : decode cX10_undo 45 = .ok (.aload_n 0, 1) := by decide +kernel
theorem dX10_undo_46 : decode cX10_undo 46 = .ok (.getfield 64, 3) := by decide +kernel
theorem dX10_undo_49 : decode cX10_undo 49 = .ok (.imul, 1) := by decide +kernel
theorem dX10_undo_50 : decode cX10_undo 50 = .ok (.iload_n 1, 1) := by decide +kernel
theorem dX10_undo_51 : decode cX10_undo 51 = .ok (.iadd, 1) := by decide +kernel
theorem dX10_undo_52 : decode cX10_undo 52 = .ok (.iaload, 1) := by decide +kernel
theorem dX10_undo_53 : decode cX10_undo 53 = .ok (.iastore, 1) := by decide +kernel
theorem dX10_undo_54 : decode cX10_undo 54 = .ok (.iinc 1 1, 3) := by decide +kernel
theorem dX10_undo_57 : decode cX10_undo 57 = .ok (.goto (-31), 3) := by decide +kernel
theorem dX10_undo_60 : decode cX10_undo 60 = .ok (.aload_n 0, 1) := by decide +kernel
theorem dX10_undo_61 : decode cX10_undo 61 = .ok (.getfield 64, 3) := by decide +kernel
theorem dX10_undo_64 : decode cX10_undo 64 = .ok (.ireturn, 1) := by decide +kernel
theorem dX10_saveSnapshot_0 : decode cX10_saveSnapshot 0 = .ok (.aload_n 0, 1) := by decide +kernel
theorem dX10_saveSnapshot_1 : decode cX10_saveSnapshot 1 = .ok (.iload_n 1, 1) := by decide +kernel
theorem dX10_saveSnapshot_2 : decode cX10_saveSnapshot 2 = .ok (.i2l, 1) := by decide +kernel
theorem dX10_saveSnapshot_3 : decode cX10_saveSnapshot 3 = .ok (.lconst 0, 1) := by decide +kernel
theorem dX10_saveSnapshot_4 : decode cX10_saveSnapshot 4 = .ok (.lconst 1, 1) := by decide +kernel
theorem dX10_saveSnapshot_5 : decode cX10_saveSnapshot 5 = .ok (.invokestatic 92, 3) := by decide +kernel
theorem dX10_saveSnapshot_8 : decode cX10_saveSnapshot 8 = .ok (.ifCond .ne 7, 3) := by decide +kernel
theorem dX10_saveSnapshot_11 : decode cX10_saveSnapshot 11 = .ok (.iconst 1, 1) := by decide +kernel
theorem dX10_saveSnapshot_12 : decode cX10_saveSnapshot 12 = .ok (.goto 4, 3) := by decide +kernel
theorem dX10_saveSnapshot_15 : decode cX10_saveSnapshot 15 = .ok (.iconst 0, 1) := by decide +kernel
theorem dX10_saveSnapshot_16 : decode cX10_saveSnapshot 16 = .ok (.invokevirtual 321, 3) := by decide +kernel
theorem dX10_saveSnapshot_19 : decode cX10_saveSnapshot 19 = .ok (.ifCond .eq 5, 3) := by decide +kernel
theorem dX10_saveSnapshot_22 : decode cX10_saveSnapshot 22 = .ok (.iconst 0, 1) := by decide +kernel
theorem dX10_saveSnapshot_23 : decode cX10_saveSnapshot 23 = .ok (.ireturn, 1) := by decide +kernel
theorem dX10_saveSnapshot_24 : decode cX10_saveSnapshot 24 = .ok (.iconst 0, 1) := by decide +kernel
theorem dX10_saveSnapshot_25 : decode cX10_saveSnapshot 25 = .ok (.istore_n 2, 1) := by decide +kernel
theorem dX10_saveSnapshot_26 : decode cX10_saveSnapshot 26 = .ok (.iload_n 2, 1) := by decide +kernel
theorem dX10_saveSnapshot_27 : decode cX10_saveSnapshot 27 = .ok (.sipush 456, 3) := by decide +kernel
theorem dX10_saveSnapshot_30 : decode cX10_saveSnapshot 30 = .ok (.if_icmp .ge 27, 3) := by decide +kernel
theorem dX10_saveSnapshot_33 : decode cX10_saveSnapshot 33 = .ok (.aload_n 0, 1) := by decide +kernel
theorem dX10_saveSnapshot_34 : decode cX10_saveSnapshot 34 = .ok (.getfield 16, 3) := by decide +kernel
theorem dX10_saveSnapshot_37 : decode cX10_saveSnapshot 37 = .ok (.sipush 456, 3) := by decide +kernel
theorem dX10_saveSnapshot_40 : decode cX10_saveSnapshot 40 = .ok (.iload_n 1, 1) := by decide +kernel
theorem dX10_saveSnapshot_41 : decode cX10_saveSnapshot 41 = .ok (.imul, 1) := by decide +kernel
theorem dX10_saveSnapshot_42 : decode cX10_saveSnapshot 42 = .ok (.iload_n 2, 1) := by decide +kernel
theorem dX10_saveSnapshot_43 : decode cX10_saveSnapshot 43 = .ok (.iadd, 1) := by decide +kernel
theorem dX10_saveSnapshot_44 : decode cX10_saveSnapshot 44 = .ok (.aload_n 0, 1) := by decide +kernel
theorem dX10_saveSnapshot_45 : decode cX10_saveSnapshot 45 = .ok (.getfield 9, 3) := by decide +kernel
theorem dX10_saveSnapshot_48 : decode cX10_saveSnapshot 48 = .ok (.iload_n 2, 1) := by decide +kernel
theorem dX10_saveSnapshot_49 : decode cX10_saveSnapshot 49 = .ok (.iaload, 1) := by decide +kernel
theorem dX10_saveSnapshot_50 : decode cX10_saveSnapshot 50 = .ok (.iastore, 1) := by decide +kernel
theorem dX10_saveSnapshot_51 : decode cX10_saveSnapshot 51 = .ok (.iinc 2 1, 3) := by decide +kernel
theorem dX10_saveSnapshot_54 : decode cX10_saveSnapshot 54 = .ok (.goto (-28), 3) := by decide +kernel
theorem dX10_saveSnapshot_57 : decode cX10_saveSnapshot 57 = .ok (.aload_n 0, 1) := by decide +kernel
theorem dX10_saveSnapshot_58 : decode cX10_saveSnapshot 58 = .ok (.getfield 19, 3) := by decide +kernel
theorem dX10_saveSnapshot_61 : decode cX10_saveSnapshot 61 = .ok (.iload_n 1, 1) := by decide +kernel
theorem dX10_saveSnapshot_62 : decode cX10_saveSnapshot 62 = .ok (.iconst 1, 1) := by decide +kernel
theorem dX10_saveSnapshot_63 : decode cX10_saveSnapshot 63 = .ok (.bastore, 1) := by decide +kernel
theorem dX10_saveSnapshot_64 : decode cX10_saveSnapshot 64 = .ok (.aload_n 0, 1) := by decide +kernel
theorem dX10_saveSnapshot_65 : decode cX10_saveSnapshot 65 = .ok (.getfield 9, 3) := by decide +kernel
theorem dX10_saveSnapshot_68 : decode cX10_saveSnapshot 68 = .ok (.bipush 8, 2) := by decide +kernel
theorem dX10_saveSnapshot_70 : decode cX10_saveSnapshot 70 = .ok (.iaload, 1) := by decide +kernel
theorem dX10_saveSnapshot_71 : decode cX10_saveSnapshot 71 = .ok (.ireturn, 1) := by decide +kernel
theorem dX10_restoreSnapshot_0 : decode cX10_restoreSnapshot 0 = .ok (.aload_n 0, 1) := by decide +kernel
theorem dX10_restoreSnapshot_1 : decode cX10_restoreSnapshot 1 = .ok (.iload_n 1, 1) := by decide +kernel
theorem dX10_restoreSnapshot_2 : decode cX10_restoreSnapshot 2 = .ok (.i2l, 1) := by decide +kernel
theorem dX10_restoreSnapshot_3 : decode cX10_restoreSnapshot 3 = .ok (.lconst 0, 1) := by decide +kernel
theorem dX10_restoreSnapshot_4 : decode cX10_restoreSnapshot 4 = .ok (.lconst 1, 1) := by decide +kernel
theorem dX10_restoreSnapshot_5 : decode cX10_restoreSnapshot 5 = .ok (.invokestatic 92, 3) := by decide +kernel
theorem dX10_restoreSnapshot_8 : decode cX10_restoreSnapshot 8 = .ok (.ifCond .ne 7, 3) := by decide +kernel
theorem dX10_restoreSnapshot_11 : decode cX10_restoreSnapshot 11 = .ok (.iconst 1, 1) := by decide +kernel
theorem dX10_restoreSnapshot_12 : decode cX10_restoreSnapshot 12 = .ok (.goto 4, 3) := by decide +kernel
theorem dX10_restoreSnapshot_15 : decode cX10_restoreSnapshot 15 = .ok (.iconst 0, 1) := by decide +kernel
theorem dX10_restoreSnapshot_16 : decode cX10_restoreSnapshot 16 = .ok (.invokevirtual 321, 3) := by decide +kernel
theorem dX10_restoreSnapshot_19 : decode cX10_restoreSnapshot 19 = .ok (.ifCond .eq 5, 3) := by decide +kernel
theorem dX10_restoreSnapshot_22 : decode cX10_restoreSnapshot 22 = .ok (.iconst 0, 1) := by decide +kernel
theorem dX10_restoreSnapshot_23 : decode cX10_restoreSnapshot 23 = .ok (.ireturn, 1) := by decide +kernel
theorem dX10_restoreSnapshot_24 : decode cX10_restoreSnapshot 24 = .ok (.aload_n 0, 1) := by decide +kernel
theorem dX10_restoreSnapshot_25 : decode cX10_restoreSnapshot 25 = .ok (.getfield 19, 3) := by decide +kernel
theorem dX10_restoreSnapshot_28 : decode cX10_restoreSnapshot 28 = .ok (.iload_n 1, 1) := by decide +kernel
theorem dX10_restoreSnapshot_29 : decode cX10_restoreSnapshot 29 = .ok (.baload, 1) := by decide +kernel
theorem dX10_restoreSnapshot_30 : decode cX10_restoreSnapshot 30 = .ok (.ifCond .ne 5, 3) := by decide +kernel
theorem dX10_restoreSnapshot_33 : decode cX10_restoreSnapshot 33 = .ok (.iconst (-1), 1) := by decide +kernel
theorem dX10_restoreSnapshot_34 : decode cX10_restoreSnapshot 34 = .ok (.ireturn, 1) := by decide +kernel
theorem dX10_restoreSnapshot_35 : decode cX10_restoreSnapshot 35 = .ok (.iconst 0, 1) := by decide +kernel
theorem dX10_restoreSnapshot_36 : decode cX10_restoreSnapshot 36 = .ok (.istore_n 2, 1) := by decide +kernel
theorem dX10_restoreSnapshot_37 : decode cX10_restoreSnapshot 37 = .ok (.iload_n 2, 1) := by decide +kernel
theorem dX10_restoreSnapshot_38 : decode cX10_restoreSnapshot 38 = .ok (.sipush 456, 3) := by decide +kernel
theorem dX10_restoreSnapshot_41 : decode cX10_restoreSnapshot 41 = .ok (.if_icmp .ge 27, 3) := by decide +kernel
theorem dX10_restoreSnapshot_44 : decode cX10_restoreSnapshot 44 = .ok (.aload_n 0, 1) := by decide +kernel
theorem dX10_restoreSnapshot_45 : decode cX10_restoreSnapshot 45 = .ok (.getfield 9, 3) := by decide +kernel
theorem dX10_restoreSnapshot_48 : decode cX10_restoreSnapshot 48 = .ok (.iload_n 2, 1) := by decide +kernel
theorem dX10_restoreSnapshot_49 : decode cX10_restoreSnapshot 49 = .ok (.aload_n 0, 1) := by decide +kernel
theorem dX10_restoreSnapshot_50 : decode cX10_restoreSnapshot 50 = .ok (.getfield 16, 3) := by decide +kernel
theorem dX10_restoreSnapshot_53 : decode cX10_restoreSnapshot 53 = .ok (.sipush 456, 3) := by decide +kernel
theorem dX10_restoreSnapshot_56 : decode cX10_restoreSnapshot 56 = .ok (.iload_n 1, 1) := by decide +kernel
theorem dX10_restoreSnapshot_57 : decode cX10_restoreSnapshot 57 = .ok (.imul, 1) := by decide +kernel
theorem dX10_restoreSnapshot_58 : decode cX10_restoreSnapshot 58 = .ok (.iload_n 2, 1) := by decide +kernel
theorem dX10_restoreSnapshot_59 : decode cX10_restoreSnapshot 59 = .ok (.iadd, 1) := by decide +kernel
theorem dX10_restoreSnapshot_60 : decode cX10_restoreSnapshot 60 = .ok (.iaload, 1) := by decide +kernel
theorem dX10_restoreSnapshot_61 : decode cX10_restoreSnapshot 61 = .ok (.iastore, 1) := by decide +kernel
theorem dX10_restoreSnapshot_62 : decode cX10_restoreSnapshot 62 = .ok (.iinc 2 1, 3) := by decide +kernel
theorem dX10_restoreSnapshot_65 : decode cX10_restoreSnapshot 65 = .ok (.goto (-28), 3) := by decide +kernel
theorem dX10_restoreSnapshot_68 : decode cX10_restoreSnapshot 68 = .ok (.aload_n 0, 1) := by decide +kernel
theorem dX10_restoreSnapshot_69 : decode cX10_restoreSnapshot 69 = .ok (.iconst 0, 1) := by decide +kernel
theorem dX10_restoreSnapshot_70 : decode cX10_restoreSnapshot 70 = .ok (.putfield 64, 3) := by decide +kernel
theorem dX10_restoreSnapshot_73 : decode cX10_restoreSnapshot 73 = .ok (.aload_n 0, 1) := by decide +kernel
theorem dX10_restoreSnapshot_74 : decode cX10_restoreSnapshot 74 = .ok (.getfield 9, 3) := by decide +kernel
theorem dX10_restoreSnapshot_77 : decode cX10_restoreSnapshot 77 = .ok (.bipush 8, 2) := by decide +kernel
theorem dX10_restoreSnapshot_79 : decode cX10_restoreSnapshot 79 = .ok (.iaload, 1) := by decide +kernel
theorem dX10_restoreSnapshot_80 : decode cX10_restoreSnapshot 80 = .ok (.ireturn, 1) := by decide +kernel
