theorem dX5_init_0 : decode cX5_init 0 = .ok (.aload_n 0, 1) := by decide +kernel
theorem dX5_init_1 : decode cX5_init 1 = .ok (.invokespecial 3, 3) := by decide +kernel
theorem dX5_init_4 : decode cX5_init 4 = .ok (.aload_n 0, 1) := by decide +kernel
theorem dX5_init_5 : decode cX5_init 5 = .ok (.sipush 500, 3) := by decide +kernel
theorem dX5_init_8 : decode cX5_init 8 = .ok (.newarray .int, 2) := by decide +kernel
theorem dX5_init_10 : decode cX5_init 10 = .ok (.putfield 9, 3) := by decide +kernel
theorem dX5_init_13 : decode cX5_init 13 = .ok (.aload_n 0, 1) := by decide +kernel
theorem dX5_init_14 : decode cX5_init 14 = .ok (.iconst 3, 1) := by decide +kernel
theorem dX5_init_15 : decode cX5_init 15 = .ok (.newarray .int, 2) := by decide +kernel
theorem dX5_init_17 : decode cX5_init 17 = .ok (.putfield 15, 3) := by decide +kernel
theorem dX5_init_20 : decode cX5_init 20 = .ok (.return_, 1) := by decide +kernel
theorem dX5_takeBytes_0 : decode cX5_takeBytes 0 = .ok (.iconst 0, 1) := by decide +kernel
theorem dX5_takeBytes_1 : decode cX5_takeBytes 1 = .ok (.istore_n 3, 1) := by decide +kernel
theorem dX5_takeBytes_2 : decode cX5_takeBytes 2 = .ok (.bipush 56, 2) := by decide +kernel
theorem dX5_takeBytes_4 : decode cX5_takeBytes 4 = .ok (.istore 4, 2) := by decide +kernel
theorem dX5_takeBytes_6 : decode cX5_takeBytes 6 = .ok (.iload 4, 2) := by decide +kernel
theorem dX5_takeBytes_8 : decode cX5_takeBytes 8 = .ok (.ifCond .lt 25, 3) := by decide +kernel
theorem dX5_takeBytes_11 : decode cX5_takeBytes 11 = .ok (.lload_n 1, 1) := by decide +kernel
theorem dX5_takeBytes_12 : decode cX5_takeBytes 12 = .ok (.iload 4, 2) := by decide +kernel
theorem dX5_takeBytes_14 : decode cX5_takeBytes 14 = .ok (.lushr, 1) := by decide +kernel
theorem dX5_takeBytes_15 : decode cX5_takeBytes 15 = .ok (.ldc2_w 18, 3) := by decide +kernel
theorem dX5_takeBytes_18 : decode cX5_takeBytes 18 = .ok (.land, 1) := by decide +kernel
theorem dX5_takeBytes_19 : decode cX5_takeBytes 19 = .ok (.lconst 0, 1) := by decide +kernel
theorem dX5_takeBytes_20 : decode cX5_takeBytes 20 = .ok (.lcmp, 1) := by decide +kernel
theorem dX5_takeBytes_21 : decode cX5_takeBytes 21 = .ok (.ifCond .eq 6, 3) := by decide +kernel
theorem dX5_takeBytes_24 : decode cX5_takeBytes 24 = .ok (.iinc 3 1, 3) := by decide +kernel
theorem dX5_takeBytes_27 : decode cX5_takeBytes 27 = .ok (.iinc 4 (-8), 3) := by decide +kernel
theorem dX5_takeBytes_30 : decode cX5_takeBytes 30 = .ok (.goto (-24), 3) := by decide +kernel
theorem dX5_takeBytes_33 : decode cX5_takeBytes 33 = .ok (.aload_n 0, 1) := by decide +kernel
theorem dX5_takeBytes_34 : decode cX5_takeBytes 34 = .ok (.getfield 20, 3) := by decide +kernel
theorem dX5_takeBytes_37 : decode cX5_takeBytes 37 = .ok (.iload_n 3, 1) := by decide +kernel
theorem dX5_takeBytes_38 : decode cX5_takeBytes 38 = .ok (.iadd, 1) := by decide +kernel
theorem dX5_takeBytes_39 : decode cX5_takeBytes 39 = .ok (.sipush 500, 3) := by decide +kernel
theorem dX5_takeBytes_42 : decode cX5_takeBytes 42 = .ok (.if_icmp .le 6, 3) := by decide +kernel
theorem dX5_takeBytes_45 : decode cX5_takeBytes 45 = .ok (.bipush (-2), 2) := by decide +kernel
theorem dX5_takeBytes_47 : decode cX5_takeBytes 47 = .ok (.ireturn, 1) := by decide +kernel
theorem dX5_takeBytes_48 : decode cX5_takeBytes 48 = .ok (.bipush 56, 2) := by decide +kernel
theorem dX5_takeBytes_50 : decode cX5_takeBytes 50 = .ok (.istore 4, 2) := by decide +kernel
theorem dX5_takeBytes_52 : decode cX5_takeBytes 52 = .ok (.iload 4, 2) := by decide +kernel
theorem dX5_takeBytes_54 : decode cX5_takeBytes 54 = .ok (.ifCond .lt 46, 3) := by decide +kernel
theorem dX5_takeBytes_57 : decode cX5_takeBytes 57 = .ok (.lload_n 1, 1) := by decide +kernel
theorem dX5_takeBytes_58 : decode cX5_takeBytes 58 = .ok (.iload 4, 2) := by decide +kernel
theorem dX5_takeBytes_60 : decode cX5_takeBytes 60 = .ok (.lushr, 1) := by decide +kernel
theorem dX5_takeBytes_61 : decode cX5_takeBytes 61 = .ok (.ldc2_w 18, 3) := by decide +kernel
theorem dX5_takeBytes_64 : decode cX5_takeBytes 64 = .ok (.land, 1) := by decide +kernel
theorem dX5_takeBytes_65 : decode cX5_takeBytes 65 = .ok (.l2i, 1) := by decide +kernel
theorem dX5_takeBytes_66 : decode cX5_takeBytes 66 = .ok (.istore 5, 2) := by decide +kernel
theorem dX5_takeBytes_68 : decode cX5_takeBytes 68 = .ok (.iload 5, 2) := by decide +kernel
theorem dX5_takeBytes_70 : decode cX5_takeBytes 70 = .ok (.ifCond .eq 24, 3) := by decide +kernel
theorem dX5_takeBytes_73 : decode cX5_takeBytes 73 = .ok (.aload_n 0, 1) := by decide +kernel
theorem dX5_takeBytes_74 : decode cX5_takeBytes 74 = .ok (.getfield 9, 3) := by decide +kernel
theorem dX5_takeBytes_77 : decode cX5_takeBytes 77 = .ok (.aload_n 0, 1) := by decide +kernel
theorem dX5_takeBytes_78 : decode cX5_takeBytes 78 = .ok (.getfield 20, 3) := by decide +kernel
theorem dX5_takeBytes_81 : decode cX5_takeBytes 81 = .ok (.iload 5, 2) := by decide +kernel
theorem dX5_takeBytes_83 : decode cX5_takeBytes 83 = .ok (.iastore, 1) := by decide +kernel
theorem dX5_takeBytes_84 : decode cX5_takeBytes 84 = .ok (.aload_n 0, 1) := by decide +kernel
theorem dX5_takeBytes_85 : decode cX5_takeBytes 85 = .ok (.dup, 1) := by decide +kernel
theorem dX5_takeBytes_86 : decode cX5_takeBytes 86 = .ok (.getfield 20, 3) := by decide +kernel
theorem dX5_takeBytes_89 : decode cX5_takeBytes 89 = .ok (.iconst 1, 1) := by decide +kernel
theorem dX5_takeBytes_90 : decode cX5_takeBytes 90 = .ok (.iadd, 1) := by decide +kernel
theorem dX5_takeBytes_91 : decode cX5_takeBytes 91 = .ok (.putfield 20, 3) := by decide +kernel
theorem dX5_takeBytes_94 : decode cX5_takeBytes 94 = .ok (.iinc 4 (-8), 3) := by decide +kernel
theorem dX5_takeBytes_97 : decode cX5_takeBytes 97 = .ok (.goto (-45), 3) := by decide +kernel
theorem dX5_takeBytes_100 : decode cX5_takeBytes 100 = .ok (.aload_n 0, 1) := by decide +kernel
theorem dX5_takeBytes_101 : decode cX5_takeBytes 101 = .ok (.getfield 20, 3) := by decide +kernel
theorem dX5_takeBytes_104 : decode cX5_takeBytes 104 = .ok (.ireturn, 1) := by decide +kernel
theorem dX5_readInto_0 : decode cX5_readInto 0 = .ok (.aload_n 1, 1) := by decide +kernel
theorem dX5_readInto_1 : decode cX5_readInto 1 = .ok (.invokevirtual 24, 3) := by decide +kernel
theorem dX5_readInto_4 : decode cX5_readInto 4 = .ok (.aload_n 0, 1) := by decide +kernel
theorem dX5_readInto_5 : decode cX5_readInto 5 = .ok (.iconst 0, 1) := by decide +kernel
theorem dX5_readInto_6 : decode cX5_readInto 6 = .ok (.putfield 29, 3) := by decide +kernel
theorem dX5_readInto_9 : decode cX5_readInto 9 = .ok (.aload_n 0, 1) := by decide +kernel
theorem dX5_readInto_10 : decode cX5_readInto 10 = .ok (.iconst 0, 1) := by decide +kernel
theorem dX5_readInto_11 : decode cX5_readInto 11 = .ok (.putfield 32, 3) := by decide +kernel
theorem dX5_readInto_14 : decode cX5_readInto 14 = .ok (.aload_n 0, 1) := by decide +kernel
theorem dX5_readInto_15 : decode cX5_readInto 15 = .ok (.iconst 0, 1) := by decide +kernel
theorem dX5_readInto_16 : decode cX5_readInto 16 = .ok (.putfield 35, 3) := by decide +kernel
theorem dX5_readInto_19 : decode cX5_readInto 19 = .ok (.aload_n 0, 1) := by decide +kernel
theorem dX5_readInto_20 : decode cX5_readInto 20 = .ok (.iconst 0, 1) := by decide +kernel
theorem dX5_readInto_21 : decode cX5_readInto 21 = .ok (.putfield 38, 3) := by decide +kernel
theorem dX5_readInto_24 : decode cX5_readInto 24 = .ok (.aload_n 0, 1) := by decide +kernel
theorem dX5_readInto_25 : decode cX5_readInto 25 = .ok (.invokevirtual 41, 3) := by decide +kernel
theorem dX5_readInto_28 : decode cX5_readInto 28 = .ok (.aload_n 0, 1) := by decide +kernel
theorem dX5_readInto_29 : decode cX5_readInto 29 = .ok (.aload_n 1, 1) := by decide +kernel
theorem dX5_readInto_30 : decode cX5_readInto 30 = .ok (.invokevirtual 44, 3) := by decide +kernel
theorem dX5_readInto_33 : decode cX5_readInto 33 = .ok (.ifCond .ne 5, 3) := by decide +kernel
theorem dX5_readInto_36 : decode cX5_readInto 36 = .ok (.iconst 0, 1) := by decide +kernel
theorem dX5_readInto_37 : decode cX5_readInto 37 = .ok (.ireturn, 1) := by decide +kernel
theorem dX5_readInto_38 : decode cX5_readInto 38 = .ok (.iconst 0, 1) := by decide +kernel
theorem dX5_readInto_39 : decode cX5_readInto 39 = .ok (.istore_n 2, 1) := by decide +kernel
theorem dX5_readInto_40 : decode cX5_readInto 40 = .ok (.iload_n 2, 1) := by decide +kernel
theorem dX5_readInto_41 : decode cX5_readInto 41 = .ok (.aload_n 0, 1) := by decide +kernel
theorem dX5_readInto_42 : decode cX5_readInto 42 = .ok (.getfield 20, 3) := by decide +kernel
theorem dX5_readInto_45 : decode cX5_readInto 45 = .ok (.if_icmp .ge 42, 3) := by decide +kernel
theorem dX5_readInto_48 : decode cX5_readInto 48 = .ok (.aload_n 0, 1) := by decide +kernel
theorem dX5_readInto_49 : decode cX5_readInto 49 = .ok (.bipush 59, 2) := by decide +kernel
theorem dX5_readInto_51 : decode cX5_readInto 51 = .ok (.invokevirtual 48, 3) := by decide +kernel
theorem dX5_readInto_54 : decode cX5_readInto 54 = .ok (.ifCond .eq 33, 3) := by decide +kernel
theorem dX5_readInto_57 : decode cX5_readInto 57 = .ok (.aload_n 0, 1) := by decide +kernel
theorem dX5_readInto_58 : decode cX5_readInto 58 = .ok (.dup, 1) := by decide +kernel
theorem dX5_readInto_59 : decode cX5_readInto 59 = .ok (.getfield 35, 3) := by decide +kernel
theorem dX5_readInto_62 : decode cX5_readInto 62 = .ok (.iconst 1, 1) := by decide +kernel
theorem dX5_readInto_63 : decode cX5_readInto 63 = .ok (.iadd, 1) := by decide +kernel
theorem dX5_readInto_64 : decode cX5_readInto 64 = .ok (.putfield 35, 3) := by decide +kernel
theorem dX5_readInto_67 : decode cX5_readInto 67 = .ok (.aload_n 0, 1) := by decide +kernel
theorem dX5_readInto_68 : decode cX5_readInto 68 = .ok (.invokevirtual 41, 3) := by decide +kernel
theorem dX5_readInto_71 : decode cX5_readInto 71 = .ok (.aload_n 0, 1) := by decide +kernel
theorem dX5_readInto_72 : decode cX5_readInto 72 = .ok (.aload_n 1, 1) := by decide +kernel
theorem dX5_readInto_73 : decode cX5_readInto 73 = .ok (.invokevirtual 52, 3) := by decide +kernel
theorem dX5_readInto_76 : decode cX5_readInto 76 = .ok (.ifCond .ne 5, 3) := by decide +kernel
theorem dX5_readInto_79 : decode cX5_readInto 79 = .ok (.iconst 0, 1) := by decide +kernel
theorem dX5_readInto_80 : decode cX5_readInto 80 = .ok (.ireturn, 1) := by decide +kernel
theorem dX5_readInto_81 : decode cX5_readInto 81 = .ok (.iinc 2 1, 3) := by decide +kernel
theorem dX5_readInto_84 : decode cX5_readInto 84 = .ok (.goto (-44), 3) := by decide +kernel
theorem dX5_readInto_87 : decode cX5_readInto 87 = .ok (.aload_n 0, 1) := by decide +kernel
theorem dX5_readInto_88 : decode cX5_readInto 88 = .ok (.getfield 55, 3) := by decide +kernel
theorem dX5_readInto_91 : decode cX5_readInto 91 = .ok (.ifCond .eq 11, 3) := by decide +kernel
theorem dX5_readInto_94 : decode cX5_readInto 94 = .ok (.aload_n 0, 1) := by decide +kernel
theorem dX5_readInto_95 : decode cX5_readInto 95 = .ok (.iconst 1, 1) := by decide +kernel
theorem dX5_readInto_96 : decode cX5_readInto 96 = .ok (.invokevirtual 58, 3) := by decide +kernel
theorem dX5_readInto_99 : decode cX5_readInto 99 = .ok (.ifCond .eq 7, 3) := by decide +kernel
theorem dX5_readInto_102 : decode cX5_readInto 102 = .ok (.iconst 1, 1) := by decide +kernel
theorem dX5_readInto_103 : decode cX5_readInto 103 = .ok (.goto 4, 3) := by decide +kernel
theorem dX5_readInto_106 : decode cX5_readInto 106 = .ok (.iconst 0, 1) := by decide +kernel
theorem dX5_readInto_107 : decode cX5_readInto 107 = .ok (.ireturn, 1) := by decide +kernel
theorem dX5_fail_0 : decode cX5_fail 0 = .ok (.aload_n 0, 1) := by decide +kernel
theorem dX5_fail_1 : decode cX5_fail 1 = .ok (.iload_n 1, 1) := by decide +kernel
theorem dX5_fail_2 : decode cX5_fail 2 = .ok (.putfield 29, 3) := by decide +kernel
theorem dX5_fail_5 : decode cX5_fail 5 = .ok (.aload_n 0, 1) := by decide +kernel
theorem dX5_fail_6 : decode cX5_fail 6 = .ok (.aload_n 0, 1) := by decide +kernel
theorem dX5_fail_7 : decode cX5_fail 7 = .ok (.getfield 61, 3) := by decide +kernel
theorem dX5_fail_10 : decode cX5_fail 10 = .ok (.putfield 32, 3) := by decide +kernel
theorem dX5_fail_13 : decode cX5_fail 13 = .ok (.iconst 0, 1) := by decide +kernel
theorem dX5_fail_14 : decode cX5_fail 14 = .ok (.ireturn, 1) := by decide +kernel
theorem dX5_readStatement_0 : decode cX5_readStatement 0 = .ok (.aload_n 0, 1) := by decide +kernel
theorem dX5_readStatement_1 : decode cX5_readStatement 1 = .ok (.ldc 64, 2) := by decide +kernel
theorem dX5_readStatement_3 : decode cX5_readStatement 3 = .ok (.invokevirtual 66, 3) := by decide +kernel
theorem dX5_readStatement_6 : decode cX5_readStatement 6 = .ok (.ifCond .eq 12, 3) := by decide +kernel
theorem dX5_readStatement_9 : decode cX5_readStatement 9 = .ok (.aload_n 0, 1) := by decide +kernel
theorem dX5_readStatement_10 : decode cX5_readStatement 10 = .ok (.aload_n 1, 1) := by decide +kernel
theorem dX5_readStatement_11 : decode cX5_readStatement 11 = .ok (.getfield 70, 3) := by decide +kernel
theorem dX5_readStatement_14 : decode cX5_readStatement 14 = .ok (.invokevirtual 74, 3) := by decide +kernel
theorem dX5_readStatement_17 : decode cX5_readStatement 17 = .ok (.ireturn, 1) := by decide +kernel
theorem dX5_readStatement_18 : decode cX5_readStatement 18 = .ok (.aload_n 0, 1) := by decide +kernel
theorem dX5_readStatement_19 : decode cX5_readStatement 19 = .ok (.ldc 78, 2) := by decide +kernel
theorem dX5_readStatement_21 : decode cX5_readStatement 21 = .ok (.invokevirtual 66, 3) := by decide +kernel
theorem dX5_readStatement_24 : decode cX5_readStatement 24 = .ok (.ifCond .eq 12, 3) := by decide +kernel
theorem dX5_readStatement_27 : decode cX5_readStatement 27 = .ok (.aload_n 0, 1) := by decide +kernel
theorem dX5_readStatement_28 : decode cX5_readStatement 28 = .ok (.aload_n 1, 1) := by decide +kernel
theorem dX5_readStatement_29 : decode cX5_readStatement 29 = .ok (.getfield 70, 3) := by decide +kernel
theorem dX5_readStatement_32 : decode cX5_readStatement 32 = .ok (.invokevirtual 80, 3) := by decide +kernel
theorem dX5_readStatement_35 : decode cX5_readStatement 35 = .ok (.ireturn, 1) := by decide +kernel
theorem dX5_readStatement_36 : decode cX5_readStatement 36 = .ok (.aload_n 0, 1) := by decide +kernel
theorem dX5_readStatement_37 : decode cX5_readStatement 37 = .ok (.ldc 83, 2) := by decide +kernel
theorem dX5_readStatement_39 : decode cX5_readStatement 39 = .ok (.invokevirtual 66, 3) := by decide +kernel
theorem dX5_readStatement_42 : decode cX5_readStatement 42 = .ok (.ifCond .eq 12, 3) := by decide +kernel
theorem dX5_readStatement_45 : decode cX5_readStatement 45 = .ok (.aload_n 0, 1) := by decide +kernel
theorem dX5_readStatement_46 : decode cX5_readStatement 46 = .ok (.aload_n 1, 1) := by decide +kernel
theorem dX5_readStatement_47 : decode cX5_readStatement 47 = .ok (.getfield 85, 3) := by decide +kernel
theorem dX5_readStatement_50 : decode cX5_readStatement 50 = .ok (.invokevirtual 89, 3) := by decide +kernel
theorem dX5_readStatement_53 : decode cX5_readStatement 53 = .ok (.ireturn, 1) := by decide +kernel
theorem dX5_readStatement_54 : decode cX5_readStatement 54 = .ok (.aload_n 0, 1) := by decide +kernel
theorem dX5_readStatement_55 : decode cX5_readStatement 55 = .ok (.iconst 1, 1) := by decide +kernel
theorem dX5_readStatement_56 : decode cX5_readStatement 56 = .ok (.invokevirtual 58, 3) := by decide +kernel
theorem dX5_readStatement_59 : decode cX5_readStatement 59 = .ok (.ireturn, 1) := by decide +kernel
theorem dX5_readBoards_0 : decode cX5_readBoards 0 = .ok (.aload_n 0, 1) := by decide +kernel
theorem dX5_readBoards_1 : decode cX5_readBoards 1 = .ok (.ldc 93, 2) := by decide +kernel
theorem dX5_readBoards_3 : decode cX5_readBoards 3 = .ok (.invokevirtual 66, 3) := by decide +kernel
theorem dX5_readBoards_6 : decode cX5_readBoards 6 = .ok (.ifCond .ne 9, 3) := by decide +kernel
theorem dX5_readBoards_9 : decode cX5_readBoards 9 = .ok (.aload_n 0, 1) := by decide +kernel
theorem dX5_readBoards_10 : decode cX5_readBoards 10 = .ok (.iconst 1, 1) := by decide +kernel
theorem dX5_readBoards_11 : decode cX5_readBoards 11 = .ok (.invokevirtual 58, 3) := by decide +kernel
theorem dX5_readBoards_14 : decode cX5_readBoards 14 = .ok (.ireturn, 1) := by decide +kernel
theorem dX5_readBoards_15 : decode cX5_readBoards 15 = .ok (.aload_n 0, 1) := by decide +kernel
theorem dX5_readBoards_16 : decode cX5_readBoards 16 = .ok (.invokevirtual 41, 3) := by decide +kernel
theorem dX5_readBoards_19 : decode cX5_readBoards 19 = .ok (.iconst 0, 1) := by decide +kernel
theorem dX5_readBoards_20 : decode cX5_readBoards 20 = .ok (.istore_n 2, 1) := by decide +kernel
theorem dX5_readBoards_21 : decode cX5_readBoards 21 = .ok (.iload_n 2, 1) := by decide +kernel
theorem dX5_readBoards_22 : decode cX5_readBoards 22 = .ok (.ifCond .eq 16, 3) := by decide +kernel
theorem dX5_readBoards_25 : decode cX5_readBoards 25 = .ok (.iload_n 2, 1) := by decide +kernel
theorem dX5_readBoards_26 : decode cX5_readBoards 26 = .ok (.iconst 3, 1) := by decide +kernel
theorem dX5_readBoards_27 : decode cX5_readBoards 27 = .ok (.if_icmp .gt 64, 3) := by decide +kernel
theorem dX5_readBoards_30 : decode cX5_readBoards 30 = .ok (.aload_n 0, 1) := by decide +kernel
theorem dX5_readBoards_31 : decode cX5_readBoards 31 = .ok (.getfield 55, 3) := by decide +kernel
theorem dX5_readBoards_34 : decode cX5_readBoards 34 = .ok (.iconst 2, 1) := by decide +kernel
theorem dX5_readBoards_35 : decode cX5_readBoards 35 = .ok (.if_icmp .ne 56, 3) := by decide +kernel
theorem dX5_readBoards_38 : decode cX5_readBoards 38 = .ok (.aload_n 0, 1) := by decide +kernel
theorem dX5_readBoards_39 : decode cX5_readBoards 39 = .ok (.iconst 1, 1) := by decide +kernel
theorem dX5_readBoards_40 : decode cX5_readBoards 40 = .ok (.bipush 6, 2) := by decide +kernel
theorem dX5_readBoards_42 : decode cX5_readBoards 42 = .ok (.invokevirtual 95, 3) := by decide +kernel
theorem dX5_readBoards_45 : decode cX5_readBoards 45 = .ok (.ifCond .ne 5, 3) := by decide +kernel
theorem dX5_readBoards_48 : decode cX5_readBoards 48 = .ok (.iconst 0, 1) := by decide +kernel
theorem dX5_readBoards_49 : decode cX5_readBoards 49 = .ok (.ireturn, 1) := by decide +kernel
theorem dX5_readBoards_50 : decode cX5_readBoards 50 = .ok (.iload_n 2, 1) := by decide +kernel
theorem dX5_readBoards_51 : decode cX5_readBoards 51 = .ok (.iconst 3, 1) := by decide +kernel
theorem dX5_readBoards_52 : decode cX5_readBoards 52 = .ok (.if_icmp .ne 9, 3) := by decide +kernel
theorem dX5_readBoards_55 : decode cX5_readBoards 55 = .ok (.aload_n 0, 1) := by decide +kernel
theorem dX5_readBoards_56 : decode cX5_readBoards 56 = .ok (.iconst 3, 1) := by decide +kernel
theorem dX5_readBoards_57 : decode cX5_readBoards 57 = .ok (.invokevirtual 58, 3) := by decide +kernel
theorem dX5_readBoards_60 : decode cX5_readBoards 60 = .ok (.ireturn, 1) := by decide +kernel
theorem dX5_readBoards_61 : decode cX5_readBoards 61 = .ok (.aload_n 1, 1) := by decide +kernel
theorem dX5_readBoards_62 : decode cX5_readBoards 62 = .ok (.getfield 99, 3) := by decide +kernel
theorem dX5_readBoards_65 : decode cX5_readBoards 65 = .ok (.iload_n 2, 1) := by decide +kernel
theorem dX5_readBoards_66 : decode cX5_readBoards 66 = .ok (.aload_n 0, 1) := by decide +kernel
theorem dX5_readBoards_67 : decode cX5_readBoards 67 = .ok (.getfield 102, 3) := by decide +kernel
theorem dX5_readBoards_70 : decode cX5_readBoards 70 = .ok (.iastore, 1) := by decide +kernel
theorem dX5_readBoards_71 : decode cX5_readBoards 71 = .ok (.aload_n 1, 1) := by decide +kernel
theorem dX5_readBoards_72 : decode cX5_readBoards 72 = .ok (.dup, 1) := by decide +kernel
theorem dX5_readBoards_73 : decode cX5_readBoards 73 = .ok (.getfield 105, 3) := by decide +kernel
theorem dX5_readBoards_76 : decode cX5_readBoards 76 = .ok (.iconst 1, 1) := by decide +kernel
theorem dX5_readBoards_77 : decode cX5_readBoards 77 = .ok (.iadd, 1) := by decide +kernel
theorem dX5_readBoards_78 : decode cX5_readBoards 78 = .ok (.putfield 105, 3) := by decide +kernel
theorem dX5_readBoards_81 : decode cX5_readBoards 81 = .ok (.aload_n 0, 1) := by decide +kernel
theorem dX5_readBoards_82 : decode cX5_readBoards 82 = .ok (.invokevirtual 41, 3) := by decide +kernel
theorem dX5_readBoards_85 : decode cX5_readBoards 85 = .ok (.iinc 2 1, 3) := by decide +kernel
theorem dX5_readBoards_88 : decode cX5_readBoards 88 = .ok (.goto (-67), 3) := by decide +kernel
theorem dX5_readBoards_91 : decode cX5_readBoards 91 = .ok (.aload_n 0, 1) := by decide +kernel
theorem dX5_readBoards_92 : decode cX5_readBoards 92 = .ok (.ldc 108, 2) := by decide +kernel
theorem dX5_readBoards_94 : decode cX5_readBoards 94 = .ok (.invokevirtual 66, 3) := by decide +kernel
theorem dX5_readBoards_97 : decode cX5_readBoards 97 = .ok (.ifCond .eq 15, 3) := by decide +kernel
theorem dX5_readBoards_100 : decode cX5_readBoards 100 = .ok (.aload_n 1, 1) := by decide +kernel
theorem dX5_readBoards_101 : decode cX5_readBoards 101 = .ok (.getfield 70, 3) := by decide +kernel
theorem dX5_readBoards_104 : decode cX5_readBoards 104 = .ok (.iconst 1, 1) := by decide +kernel
theorem dX5_readBoards_105 : decode cX5_readBoards 105 = .ok (.putfield 110, 3) := by decide +kernel
theorem dX5_readBoards_108 : decode cX5_readBoards 108 = .ok (.aload_n 0, 1) := by decide +kernel
theorem dX5_readBoards_109 : decode cX5_readBoards 109 = .ok (.invokevirtual 41, 3) := by decide +kernel
theorem dX5_readBoards_112 : decode cX5_readBoards 112 = .ok (.aload_n 0, 1) := by decide +kernel
theorem dX5_readBoards_113 : decode cX5_readBoards 113 = .ok (.ldc 115, 2) := by decide +kernel
theorem dX5_readBoards_115 : decode cX5_readBoards 115 = .ok (.invokevirtual 66, 3) := by decide +kernel
theorem dX5_readBoards_118 : decode cX5_readBoards 118 = .ok (.ifCond .eq 12, 3) := by decide +kernel
theorem dX5_readBoards_121 : decode cX5_readBoards 121 = .ok (.aload_n 1, 1) := by decide +kernel
theorem dX5_readBoards_122 : decode cX5_readBoards 122 = .ok (.iconst 1, 1) := by decide +kernel
theorem dX5_readBoards_123 : decode cX5_readBoards 123 = .ok (.putfield 117, 3) := by decide +kernel
theorem dX5_readBoards_126 : decode cX5_readBoards 126 = .ok (.aload_n 0, 1) := by decide +kernel
theorem dX5_readBoards_127 : decode cX5_readBoards 127 = .ok (.invokevirtual 41, 3) := by decide +kernel
theorem dX5_readBoards_130 : decode cX5_readBoards 130 = .ok (.iconst 1, 1) := by decide +kernel
theorem dX5_readBoards_131 : decode cX5_readBoards 131 = .ok (.ireturn, 1) := by decide +kernel
theorem dX5_readCard_0 : decode cX5_readCard 0 = .ok (.aload_n 1, 1) := by decide +kernel
theorem dX5_readCard_1 : decode cX5_readCard 1 = .ok (.getfield 119, 3) := by decide +kernel
theorem dX5_readCard_4 : decode cX5_readCard 4 = .ok (.bipush 12, 2) := by decide +kernel
theorem dX5_readCard_6 : decode cX5_readCard 6 = .ok (.if_icmp .ne 9, 3) := by decide +kernel
theorem dX5_readCard_9 : decode cX5_readCard 9 = .ok (.aload_n 0, 1) := by decide +kernel
theorem dX5_readCard_10 : decode cX5_readCard 10 = .ok (.iconst 3, 1) := by decide +kernel
theorem dX5_readCard_11 : decode cX5_readCard 11 = .ok (.invokevirtual 58, 3) := by decide +kernel
theorem dX5_readCard_14 : decode cX5_readCard 14 = .ok (.ireturn, 1) := by decide +kernel
theorem dX5_readCard_15 : decode cX5_readCard 15 = .ok (.aload_n 0, 1) := by decide +kernel
theorem dX5_readCard_16 : decode cX5_readCard 16 = .ok (.invokevirtual 41, 3) := by decide +kernel
theorem dX5_readCard_19 : decode cX5_readCard 19 = .ok (.aload_n 0, 1) := by decide +kernel
theorem dX5_readCard_20 : decode cX5_readCard 20 = .ok (.iconst 0, 1) := by decide +kernel
theorem dX5_readCard_21 : decode cX5_readCard 21 = .ok (.bipush 9, 2) := by decide +kernel
theorem dX5_readCard_23 : decode cX5_readCard 23 = .ok (.invokevirtual 95, 3) := by decide +kernel
theorem dX5_readCard_26 : decode cX5_readCard 26 = .ok (.ifCond .ne 5, 3) := by decide +kernel
theorem dX5_readCard_29 : decode cX5_readCard 29 = .ok (.iconst 0, 1) := by decide +kernel
theorem dX5_readCard_30 : decode cX5_readCard 30 = .ok (.ireturn, 1) := by decide +kernel
theorem dX5_readCard_31 : decode cX5_readCard 31 = .ok (.aload_n 0, 1) := by decide +kernel
theorem dX5_readCard_32 : decode cX5_readCard 32 = .ok (.getfield 102, 3) := by decide +kernel
theorem dX5_readCard_35 : decode cX5_readCard 35 = .ok (.istore_n 2, 1) := by decide +kernel
theorem dX5_readCard_36 : decode cX5_readCard 36 = .ok (.iconst (-1), 1) := by decide +kernel
theorem dX5_readCard_37 : decode cX5_readCard 37 = .ok (.istore_n 3, 1) := by decide +kernel
theorem dX5_readCard_38 : decode cX5_readCard 38 = .ok (.aload_n 0, 1) := by decide +kernel
theorem dX5_readCard_39 : decode cX5_readCard 39 = .ok (.invokevirtual 41, 3) := by decide +kernel
theorem dX5_readCard_42 : decode cX5_readCard 42 = .ok (.aload_n 0, 1) := by decide +kernel
theorem dX5_readCard_43 : decode cX5_readCard 43 = .ok (.ldc 122, 2) := by decide +kernel
theorem dX5_readCard_45 : decode cX5_readCard 45 = .ok (.invokevirtual 66, 3) := by decide +kernel
theorem dX5_readCard_48 : decode cX5_readCard 48 = .ok (.ifCond .eq 28, 3) := by decide +kernel
theorem dX5_readCard_51 : decode cX5_readCard 51 = .ok (.aload_n 0, 1) := by decide +kernel
theorem dX5_readCard_52 : decode cX5_readCard 52 = .ok (.invokevirtual 41, 3) := by decide +kernel
theorem dX5_readCard_55 : decode cX5_readCard 55 = .ok (.aload_n 0, 1) := by decide +kernel
theorem dX5_readCard_56 : decode cX5_readCard 56 = .ok (.iconst 0, 1) := by decide +kernel
theorem dX5_readCard_57 : decode cX5_readCard 57 = .ok (.bipush 9, 2) := by decide +kernel
theorem dX5_readCard_59 : decode cX5_readCard 59 = .ok (.invokevirtual 95, 3) := by decide +kernel
theorem dX5_readCard_62 : decode cX5_readCard 62 = .ok (.ifCond .ne 5, 3) := by decide +kernel
theorem dX5_readCard_65 : decode cX5_readCard 65 = .ok (.iconst 0, 1) := by decide +kernel
theorem dX5_readCard_66 : decode cX5_readCard 66 = .ok (.ireturn, 1) := by decide +kernel
theorem dX5_readCard_67 : decode cX5_readCard 67 = .ok (.aload_n 0, 1) := by decide +kernel
theorem dX5_readCard_68 : decode cX5_readCard 68 = .ok (.getfield 102, 3) := by decide +kernel
theorem dX5_readCard_71 : decode cX5_readCard 71 = .ok (.istore_n 3, 1) := by decide +kernel
theorem dX5_readCard_72 : decode cX5_readCard 72 = .ok (.aload_n 0, 1) := by decide +kernel
theorem dX5_readCard_73 : decode cX5_readCard 73 = .ok (.invokevirtual 41, 3) := by decide +kernel
theorem dX5_readCard_76 : decode cX5_readCard 76 = .ok (.aload_n 0, 1) := by decide +kernel
theorem dX5_readCard_77 : decode cX5_readCard 77 = .ok (.iconst 0, 1) := by decide +kernel
theorem dX5_readCard_78 : decode cX5_readCard 78 = .ok (.bipush 60, 2) := by decide +kernel
theorem dX5_readCard_80 : decode cX5_readCard 80 = .ok (.invokevirtual 95, 3) := by decide +kernel
theorem dX5_readCard_83 : decode cX5_readCard 83 = .ok (.ifCond .ne 5, 3) := by decide +kernel
theorem dX5_readCard_86 : decode cX5_readCard 86 = .ok (.iconst 0, 1) := by decide +kernel
theorem dX5_readCard_87 : decode cX5_readCard 87 = .ok (.ireturn, 1) := by decide +kernel
theorem dX5_readCard_88 : decode cX5_readCard 88 = .ok (.aload_n 1, 1) := by decide +kernel
theorem dX5_readCard_89 : decode cX5_readCard 89 = .ok (.iload_n 2, 1) := by decide +kernel
theorem dX5_readCard_90 : decode cX5_readCard 90 = .ok (.iload_n 3, 1) := by decide +kernel
theorem dX5_readCard_91 : decode cX5_readCard 91 = .ok (.aload_n 0, 1) := by decide +kernel
theorem dX5_readCard_92 : decode cX5_readCard 92 = .ok (.getfield 102, 3) := by decide +kernel
theorem dX5_readCard_95 : decode cX5_readCard 95 = .ok (.invokevirtual 124, 3) := by decide +kernel
theorem dX5_readCard_98 : decode cX5_readCard 98 = .ok (.pop, 1) := by decide +kernel
theorem dX5_readCard_99 : decode cX5_readCard 99 = .ok (.aload_n 0, 1) := by decide +kernel
theorem dX5_readCard_100 : decode cX5_readCard 100 = .ok (.invokevirtual 41, 3) := by decide +kernel
theorem dX5_readCard_103 : decode cX5_readCard 103 = .ok (.iconst 1, 1) := by decide +kernel
theorem dX5_readCard_104 : decode cX5_readCard 104 = .ok (.ireturn, 1) := by decide +kernel
theorem dX5_readFriend_0 : decode cX5_readFriend 0 = .ok (.aload_n 1, 1) := by decide +kernel
theorem dX5_readFriend_1 : decode cX5_readFriend 1 = .ok (.getfield 128, 3) := by decide +kernel
theorem dX5_readFriend_4 : decode cX5_readFriend 4 = .ok (.iconst 3, 1) := by decide +kernel
theorem dX5_readFriend_5 : decode cX5_readFriend 5 = .ok (.if_icmp .ne 9, 3) := by decide +kernel
theorem dX5_readFriend_8 : decode cX5_readFriend 8 = .ok (.aload_n 0, 1) := by decide +kernel
theorem dX5_readFriend_9 : decode cX5_readFriend 9 = .ok (.iconst 3, 1) := by decide +kernel
theorem dX5_readFriend_10 : decode cX5_readFriend 10 = .ok (.invokevirtual 58, 3) := by decide +kernel
theorem dX5_readFriend_13 : decode cX5_readFriend 13 = .ok (.ireturn, 1) := by decide +kernel
theorem dX5_readFriend_14 : decode cX5_readFriend 14 = .ok (.aload_n 0, 1) := by decide +kernel
theorem dX5_readFriend_15 : decode cX5_readFriend 15 = .ok (.invokevirtual 41, 3) := by decide +kernel
theorem dX5_readFriend_18 : decode cX5_readFriend 18 = .ok (.aload_n 0, 1) := by decide +kernel
theorem dX5_readFriend_19 : decode cX5_readFriend 19 = .ok (.iconst 1, 1) := by decide +kernel
theorem dX5_readFriend_20 : decode cX5_readFriend 20 = .ok (.bipush 9, 2) := by decide +kernel
theorem dX5_readFriend_22 : decode cX5_readFriend 22 = .ok (.invokevirtual 95, 3) := by decide +kernel
theorem dX5_readFriend_25 : decode cX5_readFriend 25 = .ok (.ifCond .ne 5, 3) := by decide +kernel
theorem dX5_readFriend_28 : decode cX5_readFriend 28 = .ok (.iconst 0, 1) := by decide +kernel
theorem dX5_readFriend_29 : decode cX5_readFriend 29 = .ok (.ireturn, 1) := by decide +kernel
theorem dX5_readFriend_30 : decode cX5_readFriend 30 = .ok (.aload_n 1, 1) := by decide +kernel
theorem dX5_readFriend_31 : decode cX5_readFriend 31 = .ok (.getfield 131, 3) := by decide +kernel
theorem dX5_readFriend_34 : decode cX5_readFriend 34 = .ok (.aload_n 1, 1) := by decide +kernel
theorem dX5_readFriend_35 : decode cX5_readFriend 35 = .ok (.getfield 128, 3) := by decide +kernel
theorem dX5_readFriend_38 : decode cX5_readFriend 38 = .ok (.aload_n 0, 1) := by decide +kernel
theorem dX5_readFriend_39 : decode cX5_readFriend 39 = .ok (.getfield 102, 3) := by decide +kernel
theorem dX5_readFriend_42 : decode cX5_readFriend 42 = .ok (.iastore, 1) := by decide +kernel
theorem dX5_readFriend_43 : decode cX5_readFriend 43 = .ok (.aload_n 0, 1) := by decide +kernel
theorem dX5_readFriend_44 : decode cX5_readFriend 44 = .ok (.invokevirtual 41, 3) := by decide +kernel
theorem dX5_readFriend_47 : decode cX5_readFriend 47 = .ok (.iconst 0, 1) := by decide +kernel
theorem dX5_readFriend_48 : decode cX5_readFriend 48 = .ok (.istore_n 2, 1) := by decide +kernel
theorem dX5_readFriend_49 : decode cX5_readFriend 49 = .ok (.iload_n 2, 1) := by decide +kernel
theorem dX5_readFriend_50 : decode cX5_readFriend 50 = .ok (.bipush 10, 2) := by decide +kernel
theorem dX5_readFriend_52 : decode cX5_readFriend 52 = .ok (.if_icmp .ge 43, 3) := by decide +kernel
theorem dX5_readFriend_55 : decode cX5_readFriend 55 = .ok (.aload_n 0, 1) := by decide +kernel
theorem dX5_readFriend_56 : decode cX5_readFriend 56 = .ok (.iconst 0, 1) := by decide +kernel
theorem dX5_readFriend_57 : decode cX5_readFriend 57 = .ok (.bipush 20, 2) := by decide +kernel
theorem dX5_readFriend_59 : decode cX5_readFriend 59 = .ok (.invokevirtual 95, 3) := by decide +kernel
theorem dX5_readFriend_62 : decode cX5_readFriend 62 = .ok (.ifCond .ne 5, 3) := by decide +kernel
theorem dX5_readFriend_65 : decode cX5_readFriend 65 = .ok (.iconst 0, 1) := by decide +kernel
theorem dX5_readFriend_66 : decode cX5_readFriend 66 = .ok (.ireturn, 1) := by decide +kernel
theorem dX5_readFriend_67 : decode cX5_readFriend 67 = .ok (.aload_n 1, 1) := by decide +kernel
theorem dX5_readFriend_68 : decode cX5_readFriend 68 = .ok (.getfield 134, 3) := by decide +kernel
theorem dX5_readFriend_71 : decode cX5_readFriend 71 = .ok (.aload_n 1, 1) := by decide +kernel
theorem dX5_readFriend_72 : decode cX5_readFriend 72 = .ok (.getfield 128, 3) := by decide +kernel
theorem dX5_readFriend_75 : decode cX5_readFriend 75 = .ok (.bipush 10, 2) := by decide +kernel
theorem dX5_readFriend_77 : decode cX5_readFriend 77 = .ok (.imul, 1) := by decide +kernel
theorem dX5_readFriend_78 : decode cX5_readFriend 78 = .ok (.iload_n 2, 1) := by decide +kernel
theorem dX5_readFriend_79 : decode cX5_readFriend 79 = .ok (.iadd, 1) := by decide +kernel
theorem dX5_readFriend_80 : decode cX5_readFriend 80 = .ok (.aload_n 0, 1) := by decide +kernel
theorem dX5_readFriend_81 : decode cX5_readFriend 81 = .ok (.getfield 102, 3) := by decide +kernel
theorem dX5_readFriend_84 : decode cX5_readFriend 84 = .ok (.iastore, 1) := by decide +kernel
theorem dX5_readFriend_85 : decode cX5_readFriend 85 = .ok (.aload_n 0, 1) := by decide +kernel
theorem dX5_readFriend_86 : decode cX5_readFriend 86 = .ok (.invokevirtual 41, 3) := by decide +kernel
theorem dX5_readFriend_89 : decode cX5_readFriend 89 = .ok (.iinc 2 1, 3) := by decide +kernel
theorem dX5_readFriend_92 : decode cX5_readFriend 92 = .ok (.goto (-43), 3) := by decide +kernel
theorem dX5_readFriend_95 : decode cX5_readFriend 95 = .ok (.aload_n 1, 1) := by decide +kernel
theorem dX5_readFriend_96 : decode cX5_readFriend 96 = .ok (.dup, 1) := by decide +kernel
theorem dX5_readFriend_97 : decode cX5_readFriend 97 = .ok (.getfield 128, 3) := by decide +kernel
theorem dX5_readFriend_100 : decode cX5_readFriend 100 = .ok (.iconst 1, 1) := by decide +kernel
theorem dX5_readFriend_101 : decode cX5_readFriend 101 = .ok (.iadd, 1) := by decide +kernel
theorem dX5_readFriend_102 : decode cX5_readFriend 102 = .ok (.putfield 128, 3) := by decide +kernel
theorem dX5_readFriend_105 : decode cX5_readFriend 105 = .ok (.iconst 1, 1) := by decide +kernel
theorem dX5_readFriend_106 : decode cX5_readFriend 106 = .ok (.ireturn, 1) := by decide +kernel
theorem dX5_readService_0 : decode cX5_readService 0 = .ok (.aload_n 1, 1) := by decide +kernel
theorem dX5_readService_1 : decode cX5_readService 1 = .ok (.getfield 137, 3) := by decide +kernel
theorem dX5_readService_4 : decode cX5_readService 4 = .ok (.bipush 16, 2) := by decide +kernel
theorem dX5_readService_6 : decode cX5_readService 6 = .ok (.if_icmp .ne 9, 3) := by decide +kernel
theorem dX5_readService_9 : decode cX5_readService 9 = .ok (.aload_n 0, 1) := by decide +kernel
theorem dX5_readService_10 : decode cX5_readService 10 = .ok (.iconst 3, 1) := by decide +kernel
theorem dX5_readService_11 : decode cX5_readService 11 = .ok (.invokevirtual 58, 3) := by decide +kernel
theorem dX5_readService_14 : decode cX5_readService 14 = .ok (.ireturn, 1) := by decide +kernel
theorem dX5_readService_15 : decode cX5_readService 15 = .ok (.aload_n 1, 1) := by decide +kernel
theorem dX5_readService_16 : decode cX5_readService 16 = .ok (.invokevirtual 142, 3) := by decide +kernel
theorem dX5_readService_19 : decode cX5_readService 19 = .ok (.istore_n 2, 1) := by decide +kernel
theorem dX5_readService_20 : decode cX5_readService 20 = .ok (.aload_n 0, 1) := by decide +kernel
theorem dX5_readService_21 : decode cX5_readService 21 = .ok (.iconst 0, 1) := by decide +kernel
theorem dX5_readService_22 : decode cX5_readService 22 = .ok (.putfield 146, 3) := by decide +kernel
theorem dX5_readService_25 : decode cX5_readService 25 = .ok (.aload_n 0, 1) := by decide +kernel
theorem dX5_readService_26 : decode cX5_readService 26 = .ok (.invokevirtual 41, 3) := by decide +kernel
theorem dX5_readService_29 : decode cX5_readService 29 = .ok (.iconst 1, 1) := by decide +kernel
theorem dX5_readService_30 : decode cX5_readService 30 = .ok (.istore_n 3, 1) := by decide +kernel
theorem dX5_readService_31 : decode cX5_readService 31 = .ok (.iconst 0, 1) := by decide +kernel
theorem dX5_readService_32 : decode cX5_readService 32 = .ok (.istore 4, 2) := by decide +kernel
theorem dX5_readService_34 : decode cX5_readService 34 = .ok (.iload 4, 2) := by decide +kernel
theorem dX5_readService_36 : decode cX5_readService 36 = .ok (.aload_n 0, 1) := by decide +kernel
theorem dX5_readService_37 : decode cX5_readService 37 = .ok (.getfield 20, 3) := by decide +kernel
theorem dX5_readService_40 : decode cX5_readService 40 = .ok (.if_icmp .gt 107, 3) := by decide +kernel
theorem dX5_readService_43 : decode cX5_readService 43 = .ok (.aload_n 0, 1) := by decide +kernel
theorem dX5_readService_44 : decode cX5_readService 44 = .ok (.bipush 40, 2) := by decide +kernel
theorem dX5_readService_46 : decode cX5_readService 46 = .ok (.invokevirtual 48, 3) := by decide +kernel
theorem dX5_readService_49 : decode cX5_readService 49 = .ok (.ifCond .eq 20, 3) := by decide +kernel
theorem dX5_readService_52 : decode cX5_readService 52 = .ok (.aload_n 0, 1) := by decide +kernel
theorem dX5_readService_53 : decode cX5_readService 53 = .ok (.aload_n 1, 1) := by decide +kernel
theorem dX5_readService_54 : decode cX5_readService 54 = .ok (.getfield 149, 3) := by decide +kernel
theorem dX5_readService_57 : decode cX5_readService 57 = .ok (.iload_n 2, 1) := by decide +kernel
theorem dX5_readService_58 : decode cX5_readService 58 = .ok (.iaload, 1) := by decide +kernel
theorem dX5_readService_59 : decode cX5_readService 59 = .ok (.invokevirtual 151, 3) := by decide +kernel
theorem dX5_readService_62 : decode cX5_readService 62 = .ok (.istore 5, 2) := by decide +kernel
theorem dX5_readService_64 : decode cX5_readService 64 = .ok (.iconst 1, 1) := by decide +kernel
theorem dX5_readService_65 : decode cX5_readService 65 = .ok (.istore_n 3, 1) := by decide +kernel
theorem dX5_readService_66 : decode cX5_readService 66 = .ok (.goto 68, 3) := by decide +kernel
theorem dX5_readService_69 : decode cX5_readService 69 = .ok (.aload_n 0, 1) := by decide +kernel
theorem dX5_readService_70 : decode cX5_readService 70 = .ok (.bipush 41, 2) := by decide +kernel
theorem dX5_readService_72 : decode cX5_readService 72 = .ok (.invokevirtual 48, 3) := by decide +kernel
theorem dX5_readService_75 : decode cX5_readService 75 = .ok (.ifCond .eq 25, 3) := by decide +kernel
theorem dX5_readService_78 : decode cX5_readService 78 = .ok (.aload_n 0, 1) := by decide +kernel
theorem dX5_readService_79 : decode cX5_readService 79 = .ok (.getfield 146, 3) := by decide +kernel
theorem dX5_readService_82 : decode cX5_readService 82 = .ok (.ifCond .le 18, 3) := by decide +kernel
theorem dX5_readService_85 : decode cX5_readService 85 = .ok (.iload_n 3, 1) := by decide +kernel
theorem dX5_readService_86 : decode cX5_readService 86 = .ok (.ifCond .ne 14, 3) := by decide +kernel
theorem dX5_readService_89 : decode cX5_readService 89 = .ok (.aload_n 0, 1) := by decide +kernel
theorem dX5_readService_90 : decode cX5_readService 90 = .ok (.aload_n 1, 1) := by decide +kernel
theorem dX5_readService_91 : decode cX5_readService 91 = .ok (.iload_n 2, 1) := by decide +kernel
theorem dX5_readService_92 : decode cX5_readService 92 = .ok (.invokevirtual 154, 3) := by decide +kernel
theorem dX5_readService_95 : decode cX5_readService 95 = .ok (.istore 5, 2) := by decide +kernel
theorem dX5_readService_97 : decode cX5_readService 97 = .ok (.goto 37, 3) := by decide +kernel
theorem dX5_readService_100 : decode cX5_readService 100 = .ok (.aload_n 0, 1) := by decide +kernel
theorem dX5_readService_101 : decode cX5_readService 101 = .ok (.getfield 55, 3) := by decide +kernel
theorem dX5_readService_104 : decode cX5_readService 104 = .ok (.iconst 2, 1) := by decide +kernel
theorem dX5_readService_105 : decode cX5_readService 105 = .ok (.if_icmp .eq 14, 3) := by decide +kernel
theorem dX5_readService_108 : decode cX5_readService 108 = .ok (.iload_n 3, 1) := by decide +kernel
theorem dX5_readService_109 : decode cX5_readService 109 = .ok (.ifCond .ne 10, 3) := by decide +kernel
theorem dX5_readService_112 : decode cX5_readService 112 = .ok (.aload_n 0, 1) := by decide +kernel
theorem dX5_readService_113 : decode cX5_readService 113 = .ok (.getfield 146, 3) := by decide +kernel
theorem dX5_readService_116 : decode cX5_readService 116 = .ok (.ifCond .le 16, 3) := by decide +kernel
theorem dX5_readService_119 : decode cX5_readService 119 = .ok (.aload_n 0, 1) := by decide +kernel
theorem dX5_readService_120 : decode cX5_readService 120 = .ok (.aload_n 1, 1) := by decide +kernel
theorem dX5_readService_121 : decode cX5_readService 121 = .ok (.iload_n 2, 1) := by decide +kernel
theorem dX5_readService_122 : decode cX5_readService 122 = .ok (.invokevirtual 158, 3) := by decide +kernel
theorem dX5_readService_125 : decode cX5_readService 125 = .ok (.istore 5, 2) := by decide +kernel
theorem dX5_readService_127 : decode cX5_readService 127 = .ok (.iconst 0, 1) := by decide +kernel
theorem dX5_readService_128 : decode cX5_readService 128 = .ok (.istore_n 3, 1) := by decide +kernel
theorem dX5_readService_129 : decode cX5_readService 129 = .ok (.goto 5, 3) := by decide +kernel
theorem dX5_readService_132 : decode cX5_readService 132 = .ok (.iconst 1, 1) := by decide +kernel
theorem dX5_readService_133 : decode cX5_readService 133 = .ok (.ireturn, 1) := by decide +kernel
theorem dX5_readService_134 : decode cX5_readService 134 = .ok (.iload 5, 2) := by decide +kernel
theorem dX5_readService_136 : decode cX5_readService 136 = .ok (.ifCond .ne 5, 3) := by decide +kernel
theorem dX5_readService_139 : decode cX5_readService 139 = .ok (.iconst 0, 1) := by decide +kernel
theorem dX5_readService_140 : decode cX5_readService 140 = .ok (.ireturn, 1) := by decide +kernel
theorem dX5_readService_141 : decode cX5_readService 141 = .ok (.iinc 4 1, 3) := by decide +kernel
theorem dX5_readService_144 : decode cX5_readService 144 = .ok (.goto (-110), 3) := by decide +kernel
theorem dX5_readService_147 : decode cX5_readService 147 = .ok (.iconst 1, 1) := by decide +kernel
theorem dX5_readService_148 : decode cX5_readService 148 = .ok (.ireturn, 1) := by decide +kernel
theorem dX5_readHymn_0 : decode cX5_readHymn 0 = .ok (.aload_n 0, 1) := by decide +kernel
theorem dX5_readHymn_1 : decode cX5_readHymn 1 = .ok (.iconst 1, 1) := by decide +kernel
theorem dX5_readHymn_2 : decode cX5_readHymn 2 = .ok (.sipush 999, 3) := by decide +kernel
theorem dX5_readHymn_5 : decode cX5_readHymn 5 = .ok (.invokevirtual 95, 3) := by decide +kernel
theorem dX5_readHymn_8 : decode cX5_readHymn 8 = .ok (.ifCond .ne 5, 3) := by decide +kernel
theorem dX5_readHymn_11 : decode cX5_readHymn 11 = .ok (.iconst 0, 1) := by decide +kernel
theorem dX5_readHymn_12 : decode cX5_readHymn 12 = .ok (.ireturn, 1) := by decide +kernel
theorem dX5_readHymn_13 : decode cX5_readHymn 13 = .ok (.aload_n 1, 1) := by decide +kernel
theorem dX5_readHymn_14 : decode cX5_readHymn 14 = .ok (.getfield 149, 3) := by decide +kernel
theorem dX5_readHymn_17 : decode cX5_readHymn 17 = .ok (.iload_n 2, 1) := by decide +kernel
theorem dX5_readHymn_18 : decode cX5_readHymn 18 = .ok (.iaload, 1) := by decide +kernel
theorem dX5_readHymn_19 : decode cX5_readHymn 19 = .ok (.bipush 8, 2) := by decide +kernel
theorem dX5_readHymn_21 : decode cX5_readHymn 21 = .ok (.if_icmp .ne 9, 3) := by decide +kernel
theorem dX5_readHymn_24 : decode cX5_readHymn 24 = .ok (.aload_n 0, 1) := by decide +kernel
theorem dX5_readHymn_25 : decode cX5_readHymn 25 = .ok (.iconst 4, 1) := by decide +kernel
theorem dX5_readHymn_26 : decode cX5_readHymn 26 = .ok (.invokevirtual 58, 3) := by decide +kernel
theorem dX5_readHymn_29 : decode cX5_readHymn 29 = .ok (.ireturn, 1) := by decide +kernel
theorem dX5_readHymn_30 : decode cX5_readHymn 30 = .ok (.aload_n 1, 1) := by decide +kernel
theorem dX5_readHymn_31 : decode cX5_readHymn 31 = .ok (.iload_n 2, 1) := by decide +kernel
theorem dX5_readHymn_32 : decode cX5_readHymn 32 = .ok (.aload_n 0, 1) := by decide +kernel
theorem dX5_readHymn_33 : decode cX5_readHymn 33 = .ok (.getfield 102, 3) := by decide +kernel
theorem dX5_readHymn_36 : decode cX5_readHymn 36 = .ok (.invokevirtual 161, 3) := by decide +kernel
theorem dX5_readHymn_39 : decode cX5_readHymn 39 = .ok (.pop, 1) := by decide +kernel
theorem dX5_readHymn_40 : decode cX5_readHymn 40 = .ok (.aload_n 0, 1) := by decide +kernel
theorem dX5_readHymn_41 : decode cX5_readHymn 41 = .ok (.invokevirtual 41, 3) := by decide +kernel
theorem dX5_readHymn_44 : decode cX5_readHymn 44 = .ok (.iconst 1, 1) := by decide +kernel
theorem dX5_readHymn_45 : decode cX5_readHymn 45 = .ok (.ireturn, 1) := by decide +kernel
theorem dX5_openBracket_0 : decode cX5_openBracket 0 = .ok (.aload_n 0, 1) := by decide +kernel
theorem dX5_openBracket_1 : decode cX5_openBracket 1 = .ok (.getfield 146, 3) := by decide +kernel
theorem dX5_openBracket_4 : decode cX5_openBracket 4 = .ok (.iconst 3, 1) := by decide +kernel
theorem dX5_openBracket_5 : decode cX5_openBracket 5 = .ok (.if_icmp .ne 9, 3) := by decide +kernel
theorem dX5_openBracket_8 : decode cX5_openBracket 8 = .ok (.aload_n 0, 1) := by decide +kernel
theorem dX5_openBracket_9 : decode cX5_openBracket 9 = .ok (.iconst 3, 1) := by decide +kernel
theorem dX5_openBracket_10 : decode cX5_openBracket 10 = .ok (.invokevirtual 58, 3) := by decide +kernel
theorem dX5_openBracket_13 : decode cX5_openBracket 13 = .ok (.ireturn, 1) := by decide +kernel
theorem dX5_openBracket_14 : decode cX5_openBracket 14 = .ok (.aload_n 0, 1) := by decide +kernel
theorem dX5_openBracket_15 : decode cX5_openBracket 15 = .ok (.getfield 15, 3) := by decide +kernel
theorem dX5_openBracket_18 : decode cX5_openBracket 18 = .ok (.aload_n 0, 1) := by decide +kernel
theorem dX5_openBracket_19 : decode cX5_openBracket 19 = .ok (.getfield 146, 3) := by decide +kernel
theorem dX5_openBracket_22 : decode cX5_openBracket 22 = .ok (.iload_n 1, 1) := by decide +kernel
theorem dX5_openBracket_23 : decode cX5_openBracket 23 = .ok (.iastore, 1) := by decide +kernel
theorem dX5_openBracket_24 : decode cX5_openBracket 24 = .ok (.aload_n 0, 1) := by decide +kernel
theorem dX5_openBracket_25 : decode cX5_openBracket 25 = .ok (.dup, 1) := by decide +kernel
theorem dX5_openBracket_26 : decode cX5_openBracket 26 = .ok (.getfield 146, 3) := by decide +kernel
theorem dX5_openBracket_29 : decode cX5_openBracket 29 = .ok (.iconst 1, 1) := by decide +kernel
theorem dX5_openBracket_30 : decode cX5_openBracket 30 = .ok (.iadd, 1) := by decide +kernel
theorem dX5_openBracket_31 : decode cX5_openBracket 31 = .ok (.putfield 146, 3) := by decide +kernel
theorem dX5_openBracket_34 : decode cX5_openBracket 34 = .ok (.aload_n 0, 1) := by decide +kernel
theorem dX5_openBracket_35 : decode cX5_openBracket 35 = .ok (.invokevirtual 41, 3) := by decide +kernel
theorem dX5_openBracket_38 : decode cX5_openBracket 38 = .ok (.iconst 1, 1) := by decide +kernel
theorem dX5_openBracket_39 : decode cX5_openBracket 39 = .ok (.ireturn, 1) := by decide +kernel
theorem dX5_closeBracket_0 : decode cX5_closeBracket 0 = .ok (.aload_n 0, 1) := by decide +kernel
theorem dX5_closeBracket_1 : decode cX5_closeBracket 1 = .ok (.invokevirtual 41, 3) := by decide +kernel
theorem dX5_closeBracket_4 : decode cX5_closeBracket 4 = .ok (.aload_n 0, 1) := by decide +kernel
theorem dX5_closeBracket_5 : decode cX5_closeBracket 5 = .ok (.iconst 1, 1) := by decide +kernel
theorem dX5_closeBracket_6 : decode cX5_closeBracket 6 = .ok (.bipush 8, 2) := by decide +kernel
theorem dX5_closeBracket_8 : decode cX5_closeBracket 8 = .ok (.invokevirtual 95, 3) := by decide +kernel
theorem dX5_closeBracket_11 : decode cX5_closeBracket 11 = .ok (.ifCond .ne 5, 3) := by decide +kernel
theorem dX5_closeBracket_14 : decode cX5_closeBracket 14 = .ok (.iconst 0, 1) := by decide +kernel
theorem dX5_closeBracket_15 : decode cX5_closeBracket 15 = .ok (.ireturn, 1) := by decide +kernel
theorem dX5_closeBracket_16 : decode cX5_closeBracket 16 = .ok (.aload_n 0, 1) := by decide +kernel
theorem dX5_closeBracket_17 : decode cX5_closeBracket 17 = .ok (.dup, 1) := by decide +kernel
theorem dX5_closeBracket_18 : decode cX5_closeBracket 18 = .ok (.getfield 146, 3) := by decide +kernel
theorem dX5_closeBracket_21 : decode cX5_closeBracket 21 = .ok (.iconst 1, 1) := by decide +kernel
theorem dX5_closeBracket_22 : decode cX5_closeBracket 22 = .ok (.isub, 1) := by decide +kernel
theorem dX5_closeBracket_23 : decode cX5_closeBracket 23 = .ok (.putfield 146, 3) := by decide +kernel
theorem dX5_closeBracket_26 : decode cX5_closeBracket 26 = .ok (.aload_n 0, 1) := by decide +kernel
theorem dX5_closeBracket_27 : decode cX5_closeBracket 27 = .ok (.getfield 15, 3) := by decide +kernel
theorem dX5_closeBracket_30 : decode cX5_closeBracket 30 = .ok (.aload_n 0, 1) := by decide +kernel
theorem dX5_closeBracket_31 : decode cX5_closeBracket 31 = .ok (.getfield 146, 3) := by decide +kernel
theorem dX5_closeBracket_34 : decode cX5_closeBracket 34 = .ok (.iaload, 1) := by decide +kernel
theorem dX5_closeBracket_35 : decode cX5_closeBracket 35 = .ok (.istore_n 3, 1) := by decide +kernel
theorem dX5_closeBracket_36 : decode cX5_closeBracket 36 = .ok (.aload_n 1, 1) := by decide +kernel
theorem dX5_closeBracket_37 : decode cX5_closeBracket 37 = .ok (.getfield 149, 3) := by decide +kernel
theorem dX5_closeBracket_40 : decode cX5_closeBracket 40 = .ok (.iload_n 2, 1) := by decide +kernel
theorem dX5_closeBracket_41 : decode cX5_closeBracket 41 = .ok (.iaload, 1) := by decide +kernel
theorem dX5_closeBracket_42 : decode cX5_closeBracket 42 = .ok (.iload_n 3, 1) := by decide +kernel
theorem dX5_closeBracket_43 : decode cX5_closeBracket 43 = .ok (.isub, 1) := by decide +kernel
theorem dX5_closeBracket_44 : decode cX5_closeBracket 44 = .ok (.istore 4, 2) := by decide +kernel
theorem dX5_closeBracket_46 : decode cX5_closeBracket 46 = .ok (.iload_n 3, 1) := by decide +kernel
theorem dX5_closeBracket_47 : decode cX5_closeBracket 47 = .ok (.iload 4, 2) := by decide +kernel
theorem dX5_closeBracket_49 : decode cX5_closeBracket 49 = .ok (.aload_n 0, 1) := by decide +kernel
theorem dX5_closeBracket_50 : decode cX5_closeBracket 50 = .ok (.getfield 102, 3) := by decide +kernel
theorem dX5_closeBracket_53 : decode cX5_closeBracket 53 = .ok (.imul, 1) := by decide +kernel
theorem dX5_closeBracket_54 : decode cX5_closeBracket 54 = .ok (.iadd, 1) := by decide +kernel
theorem dX5_closeBracket_55 : decode cX5_closeBracket 55 = .ok (.bipush 8, 2) := by decide +kernel
theorem dX5_closeBracket_57 : decode cX5_closeBracket 57 = .ok (.if_icmp .le 9, 3) := by decide +kernel
theorem dX5_closeBracket_60 : decode cX5_closeBracket 60 = .ok (.aload_n 0, 1) := by decide +kernel
theorem dX5_closeBracket_61 : decode cX5_closeBracket 61 = .ok (.iconst 4, 1) := by decide +kernel
theorem dX5_closeBracket_62 : decode cX5_closeBracket 62 = .ok (.invokevirtual 58, 3) := by decide +kernel
theorem dX5_closeBracket_65 : decode cX5_closeBracket 65 = .ok (.ireturn, 1) := by decide +kernel
theorem dX5_closeBracket_66 : decode cX5_closeBracket 66 = .ok (.iload 4, 2) := by decide +kernel
theorem dX5_closeBracket_68 : decode cX5_closeBracket 68 = .ok (.aload_n 0, 1) := by decide +kernel
theorem dX5_closeBracket_69 : decode cX5_closeBracket 69 = .ok (.getfield 102, 3) := by decide +kernel
theorem dX5_closeBracket_72 : decode cX5_closeBracket 72 = .ok (.iconst 1, 1) := by decide +kernel
theorem dX5_closeBracket_73 : decode cX5_closeBracket 73 = .ok (.isub, 1) := by decide +kernel
theorem dX5_closeBracket_74 : decode cX5_closeBracket 74 = .ok (.imul, 1) := by decide +kernel
theorem dX5_closeBracket_75 : decode cX5_closeBracket 75 = .ok (.istore 5, 2) := by decide +kernel
theorem dX5_closeBracket_77 : decode cX5_closeBracket 77 = .ok (.iload 5, 2) := by decide +kernel
theorem dX5_closeBracket_79 : decode cX5_closeBracket 79 = .ok (.ifCond .le 29, 3) := by decide +kernel
theorem dX5_closeBracket_82 : decode cX5_closeBracket 82 = .ok (.aload_n 1, 1) := by decide +kernel
theorem dX5_closeBracket_83 : decode cX5_closeBracket 83 = .ok (.iload_n 2, 1) := by decide +kernel
theorem dX5_closeBracket_84 : decode cX5_closeBracket 84 = .ok (.aload_n 1, 1) := by decide +kernel
theorem dX5_closeBracket_85 : decode cX5_closeBracket 85 = .ok (.iload_n 2, 1) := by decide +kernel
theorem dX5_closeBracket_86 : decode cX5_closeBracket 86 = .ok (.aload_n 1, 1) := by decide +kernel
theorem dX5_closeBracket_87 : decode cX5_closeBracket 87 = .ok (.getfield 149, 3) := by decide +kernel
theorem dX5_closeBracket_90 : decode cX5_closeBracket 90 = .ok (.iload_n 2, 1) := by decide +kernel
theorem dX5_closeBracket_91 : decode cX5_closeBracket 91 = .ok (.iaload, 1) := by decide +kernel
theorem dX5_closeBracket_92 : decode cX5_closeBracket 92 = .ok (.iload 4, 2) := by decide +kernel
theorem dX5_closeBracket_94 : decode cX5_closeBracket 94 = .ok (.isub, 1) := by decide +kernel
theorem dX5_closeBracket_95 : decode cX5_closeBracket 95 = .ok (.invokevirtual 165, 3) := by decide +kernel
theorem dX5_closeBracket_98 : decode cX5_closeBracket 98 = .ok (.invokevirtual 161, 3) := by decide +kernel
theorem dX5_closeBracket_101 : decode cX5_closeBracket 101 = .ok (.pop, 1) := by decide +kernel
theorem dX5_closeBracket_102 : decode cX5_closeBracket 102 = .ok (.iinc 5 (-1), 3) := by decide +kernel
theorem dX5_closeBracket_105 : decode cX5_closeBracket 105 = .ok (.goto (-28), 3) := by decide +kernel
theorem dX5_closeBracket_108 : decode cX5_closeBracket 108 = .ok (.aload_n 0, 1) := by decide +kernel
theorem dX5_closeBracket_109 : decode cX5_closeBracket 109 = .ok (.invokevirtual 41, 3) := by decide +kernel
theorem dX5_closeBracket_112 : decode cX5_closeBracket 112 = .ok (.iconst 1, 1) := by decide +kernel
theorem dX5_closeBracket_113 : decode cX5_closeBracket 113 = .ok (.ireturn, 1) := by decide +kernel
theorem dX5_isSign_0 : decode cX5_isSign 0 = .ok (.aload_n 0, 1) := by decide +kernel
theorem dX5_isSign_1 : decode cX5_isSign 1 = .ok (.getfield 55, 3) := by decide +kernel
theorem dX5_isSign_4 : decode cX5_isSign 4 = .ok (.iconst 3, 1) := by decide +kernel
theorem dX5_isSign_5 : decode cX5_isSign 5 = .ok (.if_icmp .ne 15, 3) := by decide +kernel
theorem dX5_isSign_8 : decode cX5_isSign 8 = .ok (.aload_n 0, 1) := by decide +kernel
theorem dX5_isSign_9 : decode cX5_isSign 9 = .ok (.getfield 102, 3) := by decide +kernel
theorem dX5_isSign_12 : decode cX5_isSign 12 = .ok (.iload_n 1, 1) := by decide +kernel
theorem dX5_isSign_13 : decode cX5_isSign 13 = .ok (.if_icmp .ne 7, 3) := by decide +kernel
theorem dX5_isSign_16 : decode cX5_isSign 16 = .ok (.iconst 1, 1) := by decide +kernel
theorem dX5_isSign_17 : decode cX5_isSign 17 = .ok (.goto 4, 3) := by decide +kernel
theorem dX5_isSign_20 : decode cX5_isSign 20 = .ok (.iconst 0, 1) := by decide +kernel
theorem dX5_isSign_21 : decode cX5_isSign 21 = .ok (.ireturn, 1) := by decide +kernel
theorem dX5_isWord_0 : decode cX5_isWord 0 = .ok (.aload_n 0, 1) := by decide +kernel
theorem dX5_isWord_1 : decode cX5_isWord 1 = .ok (.getfield 55, 3) := by decide +kernel
theorem dX5_isWord_4 : decode cX5_isWord 4 = .ok (.iconst 1, 1) := by decide +kernel
theorem dX5_isWord_5 : decode cX5_isWord 5 = .ok (.if_icmp .ne 19, 3) := by decide +kernel
theorem dX5_isWord_8 : decode cX5_isWord 8 = .ok (.aload_n 0, 1) := by decide +kernel
theorem dX5_isWord_9 : decode cX5_isWord 9 = .ok (.getfield 38, 3) := by decide +kernel
theorem dX5_isWord_12 : decode cX5_isWord 12 = .ok (.aload_n 0, 1) := by decide +kernel
theorem dX5_isWord_13 : decode cX5_isWord 13 = .ok (.getfield 61, 3) := by decide +kernel
theorem dX5_isWord_16 : decode cX5_isWord 16 = .ok (.isub, 1) := by decide +kernel
theorem dX5_isWord_17 : decode cX5_isWord 17 = .ok (.aload_n 1, 1) := by decide +kernel
theorem dX5_isWord_18 : decode cX5_isWord 18 = .ok (.invokevirtual 168, 3) := by decide +kernel
theorem dX5_isWord_21 : decode cX5_isWord 21 = .ok (.if_icmp .eq 5, 3) := by decide +kernel
theorem dX5_isWord_24 : decode cX5_isWord 24 = .ok (.iconst 0, 1) := by decide +kernel
theorem dX5_isWord_25 : decode cX5_isWord 25 = .ok (.ireturn, 1) := by decide +kernel
theorem dX5_isWord_26 : decode cX5_isWord 26 = .ok (.iconst 0, 1) := by decide +kernel
theorem dX5_isWord_27 : decode cX5_isWord 27 = .ok (.istore_n 2, 1) := by decide +kernel
theorem dX5_isWord_28 : decode cX5_isWord 28 = .ok (.iload_n 2, 1) := by decide +kernel
theorem dX5_isWord_29 : decode cX5_isWord 29 = .ok (.aload_n 1, 1) := by decide +kernel
theorem dX5_isWord_30 : decode cX5_isWord 30 = .ok (.invokevirtual 168, 3) := by decide +kernel
theorem dX5_isWord_33 : decode cX5_isWord 33 = .ok (.if_icmp .ge 30, 3) := by decide +kernel
theorem dX5_isWord_36 : decode cX5_isWord 36 = .ok (.aload_n 0, 1) := by decide +kernel
theorem dX5_isWord_37 : decode cX5_isWord 37 = .ok (.getfield 9, 3) := by decide +kernel
theorem dX5_isWord_40 : decode cX5_isWord 40 = .ok (.aload_n 0, 1) := by decide +kernel
theorem dX5_isWord_41 : decode cX5_isWord 41 = .ok (.getfield 61, 3) := by decide +kernel
theorem dX5_isWord_44 : decode cX5_isWord 44 = .ok (.iload_n 2, 1) := by decide +kernel
theorem dX5_isWord_45 : decode cX5_isWord 45 = .ok (.iadd, 1) := by decide +kernel
theorem dX5_isWord_46 : decode cX5_isWord 46 = .ok (.iaload, 1) := by decide +kernel
theorem dX5_isWord_47 : decode cX5_isWord 47 = .ok (.aload_n 1, 1) := by decide +kernel
theorem dX5_isWord_48 : decode cX5_isWord 48 = .ok (.iload_n 2, 1) := by decide +kernel
theorem dX5_isWord_49 : decode cX5_isWord 49 = .ok (.invokevirtual 172, 3) := by decide +kernel
theorem dX5_isWord_52 : decode cX5_isWord 52 = .ok (.if_icmp .eq 5, 3) := by decide +kernel
theorem dX5_isWord_55 : decode cX5_isWord 55 = .ok (.iconst 0, 1) := by decide +kernel
theorem dX5_isWord_56 : decode cX5_isWord 56 = .ok (.ireturn, 1) := by decide +kernel
theorem dX5_isWord_57 : decode cX5_isWord 57 = .ok (.iinc 2 1, 3) := by decide +kernel
theorem dX5_isWord_60 : decode cX5_isWord 60 = .ok (.goto (-32), 3) := by decide +kernel
theorem dX5_isWord_63 : decode cX5_isWord 63 = .ok (.iconst 1, 1) := by decide +kernel
theorem dX5_isWord_64 : decode cX5_isWord 64 = .ok (.ireturn, 1) := by decide +kernel
theorem dX5_isNumber_0 : decode cX5_isNumber 0 = .ok (.aload_n 0, 1) := by decide +kernel
theorem dX5_isNumber_1 : decode cX5_isNumber 1 = .ok (.getfield 55, 3) := by decide +kernel
theorem dX5_isNumber_4 : decode cX5_isNumber 4 = .ok (.iconst 2, 1) := by decide +kernel
theorem dX5_isNumber_5 : decode cX5_isNumber 5 = .ok (.if_icmp .eq 9, 3) := by decide +kernel
theorem dX5_isNumber_8 : decode cX5_isNumber 8 = .ok (.aload_n 0, 1) := by decide +kernel
theorem dX5_isNumber_9 : decode cX5_isNumber 9 = .ok (.iconst 1, 1) := by decide +kernel
theorem dX5_isNumber_10 : decode cX5_isNumber 10 = .ok (.invokevirtual 58, 3) := by decide +kernel
theorem dX5_isNumber_13 : decode cX5_isNumber 13 = .ok (.ireturn, 1) := by decide +kernel
theorem dX5_isNumber_14 : decode cX5_isNumber 14 = .ok (.aload_n 0, 1) := by decide +kernel
theorem dX5_isNumber_15 : decode cX5_isNumber 15 = .ok (.getfield 102, 3) := by decide +kernel
theorem dX5_isNumber_18 : decode cX5_isNumber 18 = .ok (.iload_n 1, 1) := by decide +kernel
theorem dX5_isNumber_19 : decode cX5_isNumber 19 = .ok (.iload_n 2, 1) := by decide +kernel
theorem dX5_isNumber_20 : decode cX5_isNumber 20 = .ok (.invokestatic 176, 3) := by decide +kernel
theorem dX5_isNumber_23 : decode cX5_isNumber 23 = .ok (.ifCond .ne 11, 3) := by decide +kernel
theorem dX5_isNumber_26 : decode cX5_isNumber 26 = .ok (.aload_n 0, 1) := by decide +kernel
theorem dX5_isNumber_27 : decode cX5_isNumber 27 = .ok (.iconst 2, 1) := by decide +kernel
theorem dX5_isNumber_28 : decode cX5_isNumber 28 = .ok (.invokevirtual 58, 3) := by decide +kernel
theorem dX5_isNumber_31 : decode cX5_isNumber 31 = .ok (.ifCond .eq 7, 3) := by decide +kernel
theorem dX5_isNumber_34 : decode cX5_isNumber 34 = .ok (.iconst 1, 1) := by decide +kernel
theorem dX5_isNumber_35 : decode cX5_isNumber 35 = .ok (.goto 4, 3) := by decide +kernel
theorem dX5_isNumber_38 : decode cX5_isNumber 38 = .ok (.iconst 0, 1) := by decide +kernel
theorem dX5_isNumber_39 : decode cX5_isNumber 39 = .ok (.ireturn, 1) := by decide +kernel
theorem dX5_advance_0 : decode cX5_advance 0 = .ok (.aload_n 0, 1) := by decide +kernel
theorem dX5_advance_1 : decode cX5_advance 1 = .ok (.aload_n 0, 1) := by decide +kernel
theorem dX5_advance_2 : decode cX5_advance 2 = .ok (.getfield 38, 3) := by decide +kernel
theorem dX5_advance_5 : decode cX5_advance 5 = .ok (.putfield 61, 3) := by decide +kernel
theorem dX5_advance_8 : decode cX5_advance 8 = .ok (.aload_n 0, 1) := by decide +kernel
theorem dX5_advance_9 : decode cX5_advance 9 = .ok (.getfield 61, 3) := by decide +kernel
theorem dX5_advance_12 : decode cX5_advance 12 = .ok (.aload_n 0, 1) := by decide +kernel
theorem dX5_advance_13 : decode cX5_advance 13 = .ok (.getfield 20, 3) := by decide +kernel
theorem dX5_advance_16 : decode cX5_advance 16 = .ok (.if_icmp .ge 30, 3) := by decide +kernel
theorem dX5_advance_19 : decode cX5_advance 19 = .ok (.aload_n 0, 1) := by decide +kernel
theorem dX5_advance_20 : decode cX5_advance 20 = .ok (.getfield 9, 3) := by decide +kernel
theorem dX5_advance_23 : decode cX5_advance 23 = .ok (.aload_n 0, 1) := by decide +kernel
theorem dX5_advance_24 : decode cX5_advance 24 = .ok (.getfield 61, 3) := by decide +kernel
theorem dX5_advance_27 : decode cX5_advance 27 = .ok (.iaload, 1) := by decide +kernel
theorem dX5_advance_28 : decode cX5_advance 28 = .ok (.bipush 32, 2) := by decide +kernel
theorem dX5_advance_30 : decode cX5_advance 30 = .ok (.if_icmp .ne 16, 3) := by decide +kernel
theorem dX5_advance_33 : decode cX5_advance 33 = .ok (.aload_n 0, 1) := by decide +kernel
theorem dX5_advance_34 : decode cX5_advance 34 = .ok (.dup, 1) := by decide +kernel
theorem dX5_advance_35 : decode cX5_advance 35 = .ok (.getfield 61, 3) := by decide +kernel
theorem dX5_advance_38 : decode cX5_advance 38 = .ok (.iconst 1, 1) := by decide +kernel
theorem dX5_advance_39 : decode cX5_advance 39 = .ok (.iadd, 1) := by decide +kernel
theorem dX5_advance_40 : decode cX5_advance 40 = .ok (.putfield 61, 3) := by decide +kernel
theorem dX5_advance_43 : decode cX5_advance 43 = .ok (.goto (-35), 3) := by decide +kernel
theorem dX5_advance_46 : decode cX5_advance 46 = .ok (.aload_n 0, 1) := by decide +kernel
theorem dX5_advance_47 : decode cX5_advance 47 = .ok (.aload_n 0, 1) := by decide +kernel
theorem dX5_advance_48 : decode cX5_advance 48 = .ok (.getfield 61, 3) := by decide +kernel
theorem dX5_advance_51 : decode cX5_advance 51 = .ok (.putfield 38, 3) := by decide +kernel
theorem dX5_advance_54 : decode cX5_advance 54 = .ok (.aload_n 0, 1) := by decide +kernel
theorem dX5_advance_55 : decode cX5_advance 55 = .ok (.getfield 61, 3) := by decide +kernel
theorem dX5_advance_58 : decode cX5_advance 58 = .ok (.aload_n 0, 1) := by decide +kernel
theorem dX5_advance_59 : decode cX5_advance 59 = .ok (.getfield 20, 3) := by decide +kernel
theorem dX5_advance_62 : decode cX5_advance 62 = .ok (.if_icmp .ne 11, 3) := by decide +kernel
theorem dX5_advance_65 : decode cX5_advance 65 = .ok (.aload_n 0, 1) := by decide +kernel
theorem dX5_advance_66 : decode cX5_advance 66 = .ok (.iconst 0, 1) := by decide +kernel
theorem dX5_advance_67 : decode cX5_advance 67 = .ok (.putfield 55, 3) := by decide +kernel
theorem dX5_advance_70 : decode cX5_advance 70 = .ok (.goto 183, 3) := by decide +kernel
theorem dX5_advance_73 : decode cX5_advance 73 = .ok (.aload_n 0, 1) := by decide +kernel
theorem dX5_advance_74 : decode cX5_advance 74 = .ok (.getfield 9, 3) := by decide +kernel
theorem dX5_advance_77 : decode cX5_advance 77 = .ok (.aload_n 0, 1) := by decide +kernel
theorem dX5_advance_78 : decode cX5_advance 78 = .ok (.getfield 61, 3) := by decide +kernel
theorem dX5_advance_81 : decode cX5_advance 81 = .ok (.iaload, 1) := by decide +kernel
theorem dX5_advance_82 : decode cX5_advance 82 = .ok (.invokestatic 180, 3) := by decide +kernel
theorem dX5_advance_85 : decode cX5_advance 85 = .ok (.ifCond .eq 47, 3) := by decide +kernel
theorem dX5_advance_88 : decode cX5_advance 88 = .ok (.aload_n 0, 1) := by decide +kernel
theorem dX5_advance_89 : decode cX5_advance 89 = .ok (.iconst 1, 1) := by decide +kernel
theorem dX5_advance_90 : decode cX5_advance 90 = .ok (.putfield 55, 3) := by decide +kernel
theorem dX5_advance_93 : decode cX5_advance 93 = .ok (.aload_n 0, 1) := by decide +kernel
theorem dX5_advance_94 : decode cX5_advance 94 = .ok (.getfield 38, 3) := by decide +kernel
theorem dX5_advance_97 : decode cX5_advance 97 = .ok (.aload_n 0, 1) := by decide +kernel
theorem dX5_advance_98 : decode cX5_advance 98 = .ok (.getfield 20, 3) := by decide +kernel
theorem dX5_advance_101 : decode cX5_advance 101 = .ok (.if_icmp .ge 152, 3) := by decide +kernel
theorem dX5_advance_104 : decode cX5_advance 104 = .ok (.aload_n 0, 1) := by decide +kernel
theorem dX5_advance_105 : decode cX5_advance 105 = .ok (.getfield 9, 3) := by decide +kernel
theorem dX5_advance_108 : decode cX5_advance 108 = .ok (.aload_n 0, 1) := by decide +kernel
theorem dX5_advance_109 : decode cX5_advance 109 = .ok (.getfield 38, 3) := by decide +kernel
theorem dX5_advance_112 : decode cX5_advance 112 = .ok (.iaload, 1) := by decide +kernel
theorem dX5_advance_113 : decode cX5_advance 113 = .ok (.invokestatic 180, 3) := by decide +kernel
theorem dX5_advance_116 : decode cX5_advance 116 = .ok (.ifCond .eq 137, 3) := by decide +kernel
theorem dX5_advance_119 : decode cX5_advance 119 = .ok (.aload_n 0, 1) := by decide +kernel
theorem dX5_advance_120 : decode cX5_advance 120 = .ok (.dup, 1) := by decide +kernel
theorem dX5_advance_121 : decode cX5_advance 121 = .ok (.getfield 38, 3) := by decide +kernel
theorem dX5_advance_124 : decode cX5_advance 124 = .ok (.iconst 1, 1) := by decide +kernel
theorem dX5_advance_125 : decode cX5_advance 125 = .ok (.iadd, 1) := by decide +kernel
theorem dX5_advance_126 : decode cX5_advance 126 = .ok (.putfield 38, 3) := by decide +kernel
theorem dX5_advance_129 : decode cX5_advance 129 = .ok (.goto (-36), 3) := by decide +kernel
theorem dX5_advance_132 : decode cX5_advance 132 = .ok (.aload_n 0, 1) := by decide +kernel
theorem dX5_advance_133 : decode cX5_advance 133 = .ok (.getfield 9, 3) := by decide +kernel
theorem dX5_advance_136 : decode cX5_advance 136 = .ok (.aload_n 0, 1) := by decide +kernel
theorem dX5_advance_137 : decode cX5_advance 137 = .ok (.getfield 61, 3) := by decide +kernel
theorem dX5_advance_140 : decode cX5_advance 140 = .ok (.iaload, 1) := by decide +kernel
theorem dX5_advance_141 : decode cX5_advance 141 = .ok (.invokestatic 183, 3) := by decide +kernel
theorem dX5_advance_144 : decode cX5_advance 144 = .ok (.ifCond .eq 81, 3) := by decide +kernel
theorem dX5_advance_147 : decode cX5_advance 147 = .ok (.aload_n 0, 1) := by decide +kernel
theorem dX5_advance_148 : decode cX5_advance 148 = .ok (.iconst 2, 1) := by decide +kernel
theorem dX5_advance_149 : decode cX5_advance 149 = .ok (.putfield 55, 3) := by decide +kernel
theorem dX5_advance_152 : decode cX5_advance 152 = .ok (.aload_n 0, 1) := by decide +kernel
theorem dX5_advance_153 : decode cX5_advance 153 = .ok (.iconst 0, 1) := by decide +kernel
theorem dX5_advance_154 : decode cX5_advance 154 = .ok (.putfield 102, 3) := by decide +kernel
theorem dX5_advance_157 : decode cX5_advance 157 = .ok (.aload_n 0, 1) := by decide +kernel
theorem dX5_advance_158 : decode cX5_advance 158 = .ok (.getfield 38, 3) := by decide +kernel
theorem dX5_advance_161 : decode cX5_advance 161 = .ok (.aload_n 0, 1) := by decide +kernel
theorem dX5_advance_162 : decode cX5_advance 162 = .ok (.getfield 20, 3) := by decide +kernel
theorem dX5_advance_165 : decode cX5_advance 165 = .ok (.if_icmp .ge 88, 3) := by decide +kernel
theorem dX5_advance_168 : decode cX5_advance 168 = .ok (.aload_n 0, 1) := by decide +kernel
theorem dX5_advance_169 : decode cX5_advance 169 = .ok (.getfield 9, 3) := by decide +kernel
theorem dX5_advance_172 : decode cX5_advance 172 = .ok (.aload_n 0, 1) := by decide +kernel
theorem dX5_advance_173 : decode cX5_advance 173 = .ok (.getfield 38, 3) := by decide +kernel
theorem dX5_advance_176 : decode cX5_advance 176 = .ok (.iaload, 1) := by decide +kernel
theorem dX5_advance_177 : decode cX5_advance 177 = .ok (.invokestatic 183, 3) := by decide +kernel
theorem dX5_advance_180 : decode cX5_advance 180 = .ok (.ifCond .eq 73, 3) := by decide +kernel
theorem dX5_advance_183 : decode cX5_advance 183 = .ok (.aload_n 0, 1) := by decide +kernel
theorem dX5_advance_184 : decode cX5_advance 184 = .ok (.aload_n 0, 1) := by decide +kernel
theorem dX5_advance_185 : decode cX5_advance 185 = .ok (.getfield 102, 3) := by decide +kernel
theorem dX5_advance_188 : decode cX5_advance 188 = .ok (.bipush 10, 2) := by decide +kernel
theorem dX5_advance_190 : decode cX5_advance 190 = .ok (.imul, 1) := by decide +kernel
theorem dX5_advance_191 : decode cX5_advance 191 = .ok (.aload_n 0, 1) := by decide +kernel
theorem dX5_advance_192 : decode cX5_advance 192 = .ok (.getfield 9, 3) := by decide +kernel
theorem dX5_advance_195 : decode cX5_advance 195 = .ok (.aload_n 0, 1) := by decide +kernel
theorem dX5_advance_196 : decode cX5_advance 196 = .ok (.getfield 38, 3) := by decide +kernel
theorem dX5_advance_199 : decode cX5_advance 199 = .ok (.iaload, 1) := by decide +kernel
theorem dX5_advance_200 : decode cX5_advance 200 = .ok (.iadd, 1) := by decide +kernel
theorem dX5_advance_201 : decode cX5_advance 201 = .ok (.bipush 48, 2) := by decide +kernel
theorem dX5_advance_203 : decode cX5_advance 203 = .ok (.isub, 1) := by decide +kernel
theorem dX5_advance_204 : decode cX5_advance 204 = .ok (.ldc 186, 2) := by decide +kernel
theorem dX5_advance_206 : decode cX5_advance 206 = .ok (.invokestatic 187, 3) := by decide +kernel
theorem dX5_advance_209 : decode cX5_advance 209 = .ok (.putfield 102, 3) := by decide +kernel
theorem dX5_advance_212 : decode cX5_advance 212 = .ok (.aload_n 0, 1) := by decide +kernel
theorem dX5_advance_213 : decode cX5_advance 213 = .ok (.dup, 1) := by decide +kernel
theorem dX5_advance_214 : decode cX5_advance 214 = .ok (.getfield 38, 3) := by decide +kernel
theorem dX5_advance_217 : decode cX5_advance 217 = .ok (.iconst 1, 1) := by decide +kernel
theorem dX5_advance_218 : decode cX5_advance 218 = .ok (.iadd, 1) := by decide +kernel
theorem dX5_advance_219 : decode cX5_advance 219 = .ok (.putfield 38, 3) := by decide +kernel
theorem dX5_advance_222 : decode cX5_advance 222 = .ok (.goto (-65), 3) := by decide +kernel
theorem dX5_advance_225 : decode cX5_advance 225 = .ok (.aload_n 0, 1) := by decide +kernel
theorem dX5_advance_226 : decode cX5_advance 226 = .ok (.iconst 3, 1) := by decide +kernel
theorem dX5_advance_227 : decode cX5_advance 227 = .ok (.putfield 55, 3) := by decide +kernel
theorem dX5_advance_230 : decode cX5_advance 230 = .ok (.aload_n 0, 1) := by decide +kernel
theorem dX5_advance_231 : decode cX5_advance 231 = .ok (.aload_n 0, 1) := by decide +kernel
theorem dX5_advance_232 : decode cX5_advance 232 = .ok (.getfield 9, 3) := by decide +kernel
theorem dX5_advance_235 : decode cX5_advance 235 = .ok (.aload_n 0, 1) := by decide +kernel
theorem dX5_advance_236 : decode cX5_advance 236 = .ok (.getfield 61, 3) := by decide +kernel
theorem dX5_advance_239 : decode cX5_advance 239 = .ok (.iaload, 1) := by decide +kernel
theorem dX5_advance_240 : decode cX5_advance 240 = .ok (.putfield 102, 3) := by decide +kernel
theorem dX5_advance_243 : decode cX5_advance 243 = .ok (.aload_n 0, 1) := by decide +kernel
theorem dX5_advance_244 : decode cX5_advance 244 = .ok (.dup, 1) := by decide +kernel
theorem dX5_advance_245 : decode cX5_advance 245 = .ok (.getfield 38, 3) := by decide +kernel
theorem dX5_advance_248 : decode cX5_advance 248 = .ok (.iconst 1, 1) := by decide +kernel
theorem dX5_advance_249 : decode cX5_advance 249 = .ok (.iadd, 1) := by decide +kernel
theorem dX5_advance_250 : decode cX5_advance 250 = .ok (.putfield 38, 3) := by decide +kernel
theorem dX5_advance_253 : decode cX5_advance 253 = .ok (.return_, 1) := by decide +kernel
theorem dX5_isLetter_0 : decode cX5_isLetter 0 = .ok (.iload_n 0, 1) := by decide +kernel
theorem dX5_isLetter_1 : decode cX5_isLetter 1 = .ok (.bipush 97, 2) := by decide +kernel
theorem dX5_isLetter_3 : decode cX5_isLetter 3 = .ok (.if_icmp .lt 13, 3) := by decide +kernel
theorem dX5_isLetter_6 : decode cX5_isLetter 6 = .ok (.iload_n 0, 1) := by decide +kernel
theorem dX5_isLetter_7 : decode cX5_isLetter 7 = .ok (.bipush 122, 2) := by decide +kernel
theorem dX5_isLetter_9 : decode cX5_isLetter 9 = .ok (.if_icmp .gt 7, 3) := by decide +kernel
theorem dX5_isLetter_12 : decode cX5_isLetter 12 = .ok (.iconst 1, 1) := by decide +kernel
theorem dX5_isLetter_13 : decode cX5_isLetter 13 = .ok (.goto 4, 3) := by decide +kernel
theorem dX5_isLetter_16 : decode cX5_isLetter 16 = .ok (.iconst 0, 1) := by decide +kernel
theorem dX5_isLetter_17 : decode cX5_isLetter 17 = .ok (.ireturn, 1) := by decide +kernel
theorem dX5_isDigit_0 : decode cX5_isDigit 0 = .ok (.iload_n 0, 1) := by decide +kernel
theorem dX5_isDigit_1 : decode cX5_isDigit 1 = .ok (.bipush 48, 2) := by decide +kernel
theorem dX5_isDigit_3 : decode cX5_isDigit 3 = .ok (.if_icmp .lt 13, 3) := by decide +kernel
theorem dX5_isDigit_6 : decode cX5_isDigit 6 = .ok (.iload_n 0, 1) := by decide +kernel
theorem dX5_isDigit_7 : decode cX5_isDigit 7 = .ok (.bipush 57, 2) := by decide +kernel
theorem dX5_isDigit_9 : decode cX5_isDigit 9 = .ok (.if_icmp .gt 7, 3) := by decide +kernel
theorem dX5_isDigit_12 : decode cX5_isDigit 12 = .ok (.iconst 1, 1) := by decide +kernel
theorem dX5_isDigit_13 : decode cX5_isDigit 13 = .ok (.goto 4, 3) := by decide +kernel
theorem dX5_isDigit_16 : decode cX5_isDigit 16 = .ok (.iconst 0, 1) := by decide +kernel
theorem dX5_isDigit_17 : decode cX5_isDigit 17 = .ok (.ireturn, 1) := by decide +kernel
theorem dX6_init_0 : decode cX6_init 0 = .ok (.aload_n 0, 1) := by decide +kernel
theorem dX6_init_1 : decode cX6_init 1 = .ok (.invokespecial 3, 3) := by decide +kernel
theorem dX6_init_4 : decode cX6_init 4 = .ok (.aload_n 0, 1) := by decide +kernel
theorem dX6_init_5 : decode cX6_init 5 = .ok (.bipush 16, 2) := by decide +kernel
theorem dX6_init_7 : decode cX6_init 7 = .ok (.newarray .int, 2) := by decide +kernel
theorem dX6_init_9 : decode cX6_init 9 = .ok (.putfield 9, 3) := by decide +kernel
theorem dX6_init_12 : decode cX6_init 12 = .ok (.aload_n 0, 1) := by decide +kernel
theorem dX6_init_13 : decode cX6_init 13 = .ok (.sipush 128, 3) := by decide +kernel
theorem dX6_init_16 : decode cX6_init 16 = .ok (.newarray .int, 2) := by decide +kernel
theorem dX6_init_18 : decode cX6_init 18 = .ok (.putfield 15, 3) := by decide +kernel
theorem dX6_init_21 : decode cX6_init 21 = .ok (.return_, 1) := by decide +kernel
theorem dX6_copyFrom_0 : decode cX6_copyFrom 0 = .ok (.aload_n 0, 1) := by decide +kernel
theorem dX6_copyFrom_1 : decode cX6_copyFrom 1 = .ok (.aload_n 1, 1) := by decide +kernel
theorem dX6_copyFrom_2 : decode cX6_copyFrom 2 = .ok (.getfield 18, 3) := by decide +kernel
theorem dX6_copyFrom_5 : decode cX6_copyFrom 5 = .ok (.putfield 18, 3) := by decide +kernel
theorem dX6_copyFrom_8 : decode cX6_copyFrom 8 = .ok (.aload_n 1, 1) := by decide +kernel
theorem dX6_copyFrom_9 : decode cX6_copyFrom 9 = .ok (.getfield 9, 3) := by decide +kernel
theorem dX6_copyFrom_12 : decode cX6_copyFrom 12 = .ok (.iconst 0, 1) := by decide +kernel
theorem dX6_copyFrom_13 : decode cX6_copyFrom 13 = .ok (.aload_n 0, 1) := by decide +kernel
theorem dX6_copyFrom_14 : decode cX6_copyFrom 14 = .ok (.getfield 9, 3) := by decide +kernel
theorem dX6_copyFrom_17 : decode cX6_copyFrom 17 = .ok (.iconst 0, 1) := by decide +kernel
theorem dX6_copyFrom_18 : decode cX6_copyFrom 18 = .ok (.bipush 16, 2) := by decide +kernel
theorem dX6_copyFrom_20 : decode cX6_copyFrom 20 = .ok (.invokestatic 22, 3) := by decide +kernel
theorem dX6_copyFrom_23 : decode cX6_copyFrom 23 = .ok (.aload_n 1, 1) := by decide +kernel
theorem dX6_copyFrom_24 : decode cX6_copyFrom 24 = .ok (.getfield 15, 3) := by decide +kernel
theorem dX6_copyFrom_27 : decode cX6_copyFrom 27 = .ok (.iconst 0, 1) := by decide +kernel
theorem dX6_copyFrom_28 : decode cX6_copyFrom 28 = .ok (.aload_n 0, 1) := by decide +kernel
theorem dX6_copyFrom_29 : decode cX6_copyFrom 29 = .ok (.getfield 15, 3) := by decide +kernel
theorem dX6_copyFrom_32 : decode cX6_copyFrom 32 = .ok (.iconst 0, 1) := by decide +kernel
theorem dX6_copyFrom_33 : decode cX6_copyFrom 33 = .ok (.sipush 128, 3) := by decide +kernel
theorem dX6_copyFrom_36 : decode cX6_copyFrom 36 = .ok (.invokestatic 22, 3) := by decide +kernel
theorem dX6_copyFrom_39 : decode cX6_copyFrom 39 = .ok (.return_, 1) := by decide +kernel
theorem dX6_hymnAt_0 : decode cX6_hymnAt 0 = .ok (.iload_n 2, 1) := by decide +kernel
theorem dX6_hymnAt_1 : decode cX6_hymnAt 1 = .ok (.iconst 0, 1) := by decide +kernel
theorem dX6_hymnAt_2 : decode cX6_hymnAt 2 = .ok (.aload_n 0, 1) := by decide +kernel
theorem dX6_hymnAt_3 : decode cX6_hymnAt 3 = .ok (.getfield 9, 3) := by decide +kernel
theorem dX6_hymnAt_6 : decode cX6_hymnAt 6 = .ok (.iload_n 1, 1) := by decide +kernel
theorem dX6_hymnAt_7 : decode cX6_hymnAt 7 = .ok (.iaload, 1) := by decide +kernel
theorem dX6_hymnAt_8 : decode cX6_hymnAt 8 = .ok (.iconst 1, 1) := by decide +kernel
theorem dX6_hymnAt_9 : decode cX6_hymnAt 9 = .ok (.isub, 1) := by decide +kernel
theorem dX6_hymnAt_10 : decode cX6_hymnAt 10 = .ok (.invokestatic 28, 3) := by decide +kernel
theorem dX6_hymnAt_13 : decode cX6_hymnAt 13 = .ok (.ifCond .eq 17, 3) := by decide +kernel
theorem dX6_hymnAt_16 : decode cX6_hymnAt 16 = .ok (.aload_n 0, 1) := by decide +kernel
theorem dX6_hymnAt_17 : decode cX6_hymnAt 17 = .ok (.getfield 15, 3) := by decide +kernel
theorem dX6_hymnAt_20 : decode cX6_hymnAt 20 = .ok (.iload_n 1, 1) := by decide +kernel
theorem dX6_hymnAt_21 : decode cX6_hymnAt 21 = .ok (.bipush 8, 2) := by decide +kernel
theorem dX6_hymnAt_23 : decode cX6_hymnAt 23 = .ok (.imul, 1) := by decide +kernel
theorem dX6_hymnAt_24 : decode cX6_hymnAt 24 = .ok (.iload_n 2, 1) := by decide +kernel
theorem dX6_hymnAt_25 : decode cX6_hymnAt 25 = .ok (.iadd, 1) := by decide +kernel
theorem dX6_hymnAt_26 : decode cX6_hymnAt 26 = .ok (.iaload, 1) := by decide +kernel
theorem dX6_hymnAt_27 : decode cX6_hymnAt 27 = .ok (.goto 4, 3) := by decide +kernel
theorem dX6_hymnAt_30 : decode cX6_hymnAt 30 = .ok (.iconst (-1), 1) := by decide +kernel
theorem dX6_hymnAt_31 : decode cX6_hymnAt 31 = .ok (.ireturn, 1) := by decide +kernel
theorem dX6_addEmpty_0 : decode cX6_addEmpty 0 = .ok (.aload_n 0, 1) := by decide +kernel
theorem dX6_addEmpty_1 : decode cX6_addEmpty 1 = .ok (.getfield 9, 3) := by decide +kernel
theorem dX6_addEmpty_4 : decode cX6_addEmpty 4 = .ok (.aload_n 0, 1) := by decide +kernel
theorem dX6_addEmpty_5 : decode cX6_addEmpty 5 = .ok (.getfield 18, 3) := by decide +kernel
theorem dX6_addEmpty_8 : decode cX6_addEmpty 8 = .ok (.iconst 0, 1) := by decide +kernel
theorem dX6_addEmpty_9 : decode cX6_addEmpty 9 = .ok (.iastore, 1) := by decide +kernel
theorem dX6_addEmpty_10 : decode cX6_addEmpty 10 = .ok (.aload_n 0, 1) := by decide +kernel
theorem dX6_addEmpty_11 : decode cX6_addEmpty 11 = .ok (.dup, 1) := by decide +kernel
theorem dX6_addEmpty_12 : decode cX6_addEmpty 12 = .ok (.getfield 18, 3) := by decide +kernel
theorem dX6_addEmpty_15 : decode cX6_addEmpty 15 = .ok (.iconst 1, 1) := by decide +kernel
theorem dX6_addEmpty_16 : decode cX6_addEmpty 16 = .ok (.iadd, 1) := by decide +kernel
theorem dX6_addEmpty_17 : decode cX6_addEmpty 17 = .ok (.putfield 18, 3) := by decide +kernel
theorem dX6_addEmpty_20 : decode cX6_addEmpty 20 = .ok (.aload_n 0, 1) := by decide +kernel
theorem dX6_addEmpty_21 : decode cX6_addEmpty 21 = .ok (.getfield 18, 3) := by decide +kernel
theorem dX6_addEmpty_24 : decode cX6_addEmpty 24 = .ok (.iconst 1, 1) := by decide +kernel
theorem dX6_addEmpty_25 : decode cX6_addEmpty 25 = .ok (.isub, 1) := by decide +kernel
theorem dX6_addEmpty_26 : decode cX6_addEmpty 26 = .ok (.ireturn, 1) := by decide +kernel
theorem dX6_lengthen_0 : decode cX6_lengthen 0 = .ok (.aload_n 0, 1) := by decide +kernel
theorem dX6_lengthen_1 : decode cX6_lengthen 1 = .ok (.getfield 15, 3) := by decide +kernel
theorem dX6_lengthen_4 : decode cX6_lengthen 4 = .ok (.iload_n 1, 1) := by decide +kernel
theorem dX6_lengthen_5 : decode cX6_lengthen 5 = .ok (.bipush 8, 2) := by decide +kernel
theorem dX6_lengthen_7 : decode cX6_lengthen 7 = .ok (.imul, 1) := by decide +kernel
theorem dX6_lengthen_8 : decode cX6_lengthen 8 = .ok (.aload_n 0, 1) := by decide +kernel
theorem dX6_lengthen_9 : decode cX6_lengthen 9 = .ok (.getfield 9, 3) := by decide +kernel
theorem dX6_lengthen_12 : decode cX6_lengthen 12 = .ok (.iload_n 1, 1) := by decide +kernel
theorem dX6_lengthen_13 : decode cX6_lengthen 13 = .ok (.iaload, 1) := by decide +kernel
theorem dX6_lengthen_14 : decode cX6_lengthen 14 = .ok (.iadd, 1) := by decide +kernel
theorem dX6_lengthen_15 : decode cX6_lengthen 15 = .ok (.iload_n 2, 1) := by decide +kernel
theorem dX6_lengthen_16 : decode cX6_lengthen 16 = .ok (.iastore, 1) := by decide +kernel
theorem dX6_lengthen_17 : decode cX6_lengthen 17 = .ok (.aload_n 0, 1) := by decide +kernel
theorem dX6_lengthen_18 : decode cX6_lengthen 18 = .ok (.getfield 9, 3) := by decide +kernel
theorem dX6_lengthen_21 : decode cX6_lengthen 21 = .ok (.iload_n 1, 1) := by decide +kernel
theorem dX6_lengthen_22 : decode cX6_lengthen 22 = .ok (.dup2, 1) := by decide +kernel
theorem dX6_lengthen_23 : decode cX6_lengthen 23 = .ok (.iaload, 1) := by decide +kernel
theorem dX6_lengthen_24 : decode cX6_lengthen 24 = .ok (.iconst 1, 1) := by decide +kernel
theorem dX6_lengthen_25 : decode cX6_lengthen 25 = .ok (.iadd, 1) := by decide +kernel
theorem dX6_lengthen_26 : decode cX6_lengthen 26 = .ok (.iastore, 1) := by decide +kernel
theorem dX6_lengthen_27 : decode cX6_lengthen 27 = .ok (.aload_n 0, 1) := by decide +kernel
theorem dX6_lengthen_28 : decode cX6_lengthen 28 = .ok (.getfield 9, 3) := by decide +kernel
theorem dX6_lengthen_31 : decode cX6_lengthen 31 = .ok (.iload_n 1, 1) := by decide +kernel
theorem dX6_lengthen_32 : decode cX6_lengthen 32 = .ok (.iaload, 1) := by decide +kernel
theorem dX6_lengthen_33 : decode cX6_lengthen 33 = .ok (.ireturn, 1) := by decide +kernel
theorem dX7_init_0 : decode cX7_init 0 = .ok (.aload_n 0, 1) := by decide +kernel
theorem dX7_init_1 : decode cX7_init 1 = .ok (.invokespecial 3, 3) := by decide +kernel
theorem dX7_init_4 : decode cX7_init 4 = .ok (.aload_n 0, 1) := by decide +kernel
theorem dX7_init_5 : decode cX7_init 5 = .ok (.iconst 3, 1) := by decide +kernel
theorem dX7_init_6 : decode cX7_init 6 = .ok (.newarray .int, 2) := by decide +kernel
theorem dX7_init_8 : decode cX7_init 8 = .ok (.putfield 9, 3) := by decide +kernel
theorem dX7_init_11 : decode cX7_init 11 = .ok (.aload_n 0, 1) := by decide +kernel
theorem dX7_init_12 : decode cX7_init 12 = .ok (.new 15, 3) := by decide +kernel
theorem dX7_init_15 : decode cX7_init 15 = .ok (.dup, 1) := by decide +kernel
theorem dX7_init_16 : decode cX7_init 16 = .ok (.invokespecial 17, 3) := by decide +kernel
theorem dX7_init_19 : decode cX7_init 19 = .ok (.putfield 18, 3) := by decide +kernel
theorem dX7_init_22 : decode cX7_init 22 = .ok (.aload_n 0, 1) := by decide +kernel
theorem dX7_init_23 : decode cX7_init 23 = .ok (.new 22, 3) := by decide +kernel
theorem dX7_init_26 : decode cX7_init 26 = .ok (.dup, 1) := by decide +kernel
theorem dX7_init_27 : decode cX7_init 27 = .ok (.invokespecial 24, 3) := by decide +kernel
theorem dX7_init_30 : decode cX7_init 30 = .ok (.putfield 25, 3) := by decide +kernel
theorem dX7_init_33 : decode cX7_init 33 = .ok (.aload_n 0, 1) := by decide +kernel
theorem dX7_init_34 : decode cX7_init 34 = .ok (.new 29, 3) := by decide +kernel
theorem dX7_init_37 : decode cX7_init 37 = .ok (.dup, 1) := by decide +kernel
theorem dX7_init_38 : decode cX7_init 38 = .ok (.invokespecial 31, 3) := by decide +kernel
theorem dX7_init_41 : decode cX7_init 41 = .ok (.putfield 32, 3) := by decide +kernel
theorem dX7_init_44 : decode cX7_init 44 = .ok (.return_, 1) := by decide +kernel
theorem dX7_startAnew_0 : decode cX7_startAnew 0 = .ok (.aload_n 0, 1) := by decide +kernel
theorem dX7_startAnew_1 : decode cX7_startAnew 1 = .ok (.iconst 0, 1) := by decide +kernel
theorem dX7_startAnew_2 : decode cX7_startAnew 2 = .ok (.putfield 36, 3) := by decide +kernel
theorem dX7_startAnew_5 : decode cX7_startAnew 5 = .ok (.aload_n 0, 1) := by decide +kernel
theorem dX7_startAnew_6 : decode cX7_startAnew 6 = .ok (.iconst 0, 1) := by decide +kernel
theorem dX7_startAnew_7 : decode cX7_startAnew 7 = .ok (.putfield 40, 3) := by decide +kernel
theorem dX7_startAnew_10 : decode cX7_startAnew 10 = .ok (.aload_n 0, 1) := by decide +kernel
theorem dX7_startAnew_11 : decode cX7_startAnew 11 = .ok (.getfield 18, 3) := by decide +kernel
theorem dX7_startAnew_14 : decode cX7_startAnew 14 = .ok (.invokevirtual 44, 3) := by decide +kernel
theorem dX7_startAnew_17 : decode cX7_startAnew 17 = .ok (.aload_n 0, 1) := by decide +kernel
theorem dX7_startAnew_18 : decode cX7_startAnew 18 = .ok (.getfield 25, 3) := by decide +kernel
theorem dX7_startAnew_21 : decode cX7_startAnew 21 = .ok (.iconst 0, 1) := by decide +kernel
theorem dX7_startAnew_22 : decode cX7_startAnew 22 = .ok (.putfield 47, 3) := by decide +kernel
theorem dX7_startAnew_25 : decode cX7_startAnew 25 = .ok (.aload_n 0, 1) := by decide +kernel
theorem dX7_startAnew_26 : decode cX7_startAnew 26 = .ok (.getfield 32, 3) := by decide +kernel
theorem dX7_startAnew_29 : decode cX7_startAnew 29 = .ok (.invokevirtual 50, 3) := by decide +kernel
theorem dX7_startAnew_32 : decode cX7_startAnew 32 = .ok (.aload_n 0, 1) := by decide +kernel
theorem dX7_startAnew_33 : decode cX7_startAnew 33 = .ok (.iconst 0, 1) := by decide +kernel
theorem dX7_startAnew_34 : decode cX7_startAnew 34 = .ok (.putfield 53, 3) := by decide +kernel
theorem dX7_startAnew_37 : decode cX7_startAnew 37 = .ok (.aload_n 0, 1) := by decide +kernel
theorem dX7_startAnew_38 : decode cX7_startAnew 38 = .ok (.iconst 0, 1) := by decide +kernel
theorem dX7_startAnew_39 : decode cX7_startAnew 39 = .ok (.putfield 56, 3) := by decide +kernel
theorem dX7_startAnew_42 : decode cX7_startAnew 42 = .ok (.aload_n 0, 1) := by decide +kernel
theorem dX7_startAnew_43 : decode cX7_startAnew 43 = .ok (.iconst 0, 1) := by decide +kernel
theorem dX7_startAnew_44 : decode cX7_startAnew 44 = .ok (.putfield 59, 3) := by decide +kernel
theorem dX7_startAnew_47 : decode cX7_startAnew 47 = .ok (.aload_n 0, 1) := by decide +kernel
theorem dX7_startAnew_48 : decode cX7_startAnew 48 = .ok (.iconst 0, 1) := by decide +kernel
theorem dX7_startAnew_49 : decode cX7_startAnew 49 = .ok (.putfield 62, 3) := by decide +kernel
theorem dX7_startAnew_52 : decode cX7_startAnew 52 = .ok (.return_, 1) := by decide +kernel
theorem dX7_copyFrom_0 : decode cX7_copyFrom 0 = .ok (.aload_n 0, 1) := by decide +kernel
theorem dX7_copyFrom_1 : decode cX7_copyFrom 1 = .ok (.aload_n 1, 1) := by decide +kernel
theorem dX7_copyFrom_2 : decode cX7_copyFrom 2 = .ok (.getfield 36, 3) := by decide +kernel
theorem dX7_copyFrom_5 : decode cX7_copyFrom 5 = .ok (.putfield 36, 3) := by decide +kernel
theorem dX7_copyFrom_8 : decode cX7_copyFrom 8 = .ok (.aload_n 1, 1) := by decide +kernel
theorem dX7_copyFrom_9 : decode cX7_copyFrom 9 = .ok (.getfield 9, 3) := by decide +kernel
theorem dX7_copyFrom_12 : decode cX7_copyFrom 12 = .ok (.iconst 0, 1) := by decide +kernel
theorem dX7_copyFrom_13 : decode cX7_copyFrom 13 = .ok (.aload_n 0, 1) := by decide +kernel
theorem dX7_copyFrom_14 : decode cX7_copyFrom 14 = .ok (.getfield 9, 3) := by decide +kernel
theorem dX7_copyFrom_17 : decode cX7_copyFrom 17 = .ok (.iconst 0, 1) := by decide +kernel
theorem dX7_copyFrom_18 : decode cX7_copyFrom 18 = .ok (.iconst 3, 1) := by decide +kernel
theorem dX7_copyFrom_19 : decode cX7_copyFrom 19 = .ok (.invokestatic 65, 3) := by decide +kernel
theorem dX7_copyFrom_22 : decode cX7_copyFrom 22 = .ok (.aload_n 0, 1) := by decide +kernel
theorem dX7_copyFrom_23 : decode cX7_copyFrom 23 = .ok (.aload_n 1, 1) := by decide +kernel
theorem dX7_copyFrom_24 : decode cX7_copyFrom 24 = .ok (.getfield 40, 3) := by decide +kernel
theorem dX7_copyFrom_27 : decode cX7_copyFrom 27 = .ok (.putfield 40, 3) := by decide +kernel
theorem dX7_copyFrom_30 : decode cX7_copyFrom 30 = .ok (.aload_n 0, 1) := by decide +kernel
theorem dX7_copyFrom_31 : decode cX7_copyFrom 31 = .ok (.getfield 18, 3) := by decide +kernel
theorem dX7_copyFrom_34 : decode cX7_copyFrom 34 = .ok (.aload_n 1, 1) := by decide +kernel
theorem dX7_copyFrom_35 : decode cX7_copyFrom 35 = .ok (.getfield 18, 3) := by decide +kernel
theorem dX7_copyFrom_38 : decode cX7_copyFrom 38 = .ok (.invokevirtual 71, 3) := by decide +kernel
theorem dX7_copyFrom_41 : decode cX7_copyFrom 41 = .ok (.aload_n 0, 1) := by decide +kernel
theorem dX7_copyFrom_42 : decode cX7_copyFrom 42 = .ok (.getfield 25, 3) := by decide +kernel
theorem dX7_copyFrom_45 : decode cX7_copyFrom 45 = .ok (.aload_n 1, 1) := by decide +kernel
theorem dX7_copyFrom_46 : decode cX7_copyFrom 46 = .ok (.getfield 25, 3) := by decide +kernel
theorem dX7_copyFrom_49 : decode cX7_copyFrom 49 = .ok (.invokevirtual 75, 3) := by decide +kernel
theorem dX7_copyFrom_52 : decode cX7_copyFrom 52 = .ok (.aload_n 0, 1) := by decide +kernel
theorem dX7_copyFrom_53 : decode cX7_copyFrom 53 = .ok (.getfield 32, 3) := by decide +kernel
theorem dX7_copyFrom_56 : decode cX7_copyFrom 56 = .ok (.aload_n 1, 1) := by decide +kernel
theorem dX7_copyFrom_57 : decode cX7_copyFrom 57 = .ok (.getfield 32, 3) := by decide +kernel
theorem dX7_copyFrom_60 : decode cX7_copyFrom 60 = .ok (.invokevirtual 78, 3) := by decide +kernel
theorem dX7_copyFrom_63 : decode cX7_copyFrom 63 = .ok (.aload_n 0, 1) := by decide +kernel
theorem dX7_copyFrom_64 : decode cX7_copyFrom 64 = .ok (.aload_n 1, 1) := by decide +kernel
theorem dX7_copyFrom_65 : decode cX7_copyFrom 65 = .ok (.getfield 53, 3) := by decide +kernel
theorem dX7_copyFrom_68 : decode cX7_copyFrom 68 = .ok (.putfield 53, 3) := by decide +kernel
theorem dX7_copyFrom_71 : decode cX7_copyFrom 71 = .ok (.aload_n 0, 1) := by decide +kernel
theorem dX7_copyFrom_72 : decode cX7_copyFrom 72 = .ok (.aload_n 1, 1) := by decide +kernel
theorem dX7_copyFrom_73 : decode cX7_copyFrom 73 = .ok (.getfield 56, 3) := by decide +kernel
theorem dX7_copyFrom_76 : decode cX7_copyFrom 76 = .ok (.putfield 56, 3) := by decide +kernel
theorem dX7_copyFrom_79 : decode cX7_copyFrom 79 = .ok (.aload_n 0, 1) := by decide +kernel
theorem dX7_copyFrom_80 : decode cX7_copyFrom 80 = .ok (.aload_n 1, 1) := by decide +kernel
theorem dX7_copyFrom_81 : decode cX7_copyFrom 81 = .ok (.getfield 59, 3) := by decide +kernel
theorem dX7_copyFrom_84 : decode cX7_copyFrom 84 = .ok (.putfield 59, 3) := by decide +kernel
theorem dX7_copyFrom_87 : decode cX7_copyFrom 87 = .ok (.aload_n 0, 1) := by decide +kernel
theorem dX7_copyFrom_88 : decode cX7_copyFrom 88 = .ok (.aload_n 1, 1) := by decide +kernel
theorem dX7_copyFrom_89 : decode cX7_copyFrom 89 = .ok (.getfield 62, 3) := by decide +kernel
theorem dX7_copyFrom_92 : decode cX7_copyFrom 92 = .ok (.putfield 62, 3) := by decide +kernel
theorem dX7_copyFrom_95 : decode cX7_copyFrom 95 = .ok (.return_, 1) := by decide +kernel
theorem dX7_rowsAhead_0 : decode cX7_rowsAhead 0 = .ok (.iconst 0, 1) := by decide +kernel
theorem dX7_rowsAhead_1 : decode cX7_rowsAhead 1 = .ok (.istore_n 2, 1) := by decide +kernel
theorem dX7_rowsAhead_2 : decode cX7_rowsAhead 2 = .ok (.iconst 0, 1) := by decide +kernel
theorem dX7_rowsAhead_3 : decode cX7_rowsAhead 3 = .ok (.istore_n 3, 1) := by decide +kernel
theorem dX7_rowsAhead_4 : decode cX7_rowsAhead 4 = .ok (.iload_n 3, 1) := by decide +kernel
theorem dX7_rowsAhead_5 : decode cX7_rowsAhead 5 = .ok (.iload_n 1, 1) := by decide +kernel
theorem dX7_rowsAhead_6 : decode cX7_rowsAhead 6 = .ok (.if_icmp .ge 18, 3) := by decide +kernel
theorem dX7_rowsAhead_9 : decode cX7_rowsAhead 9 = .ok (.iload_n 2, 1) := by decide +kernel
theorem dX7_rowsAhead_10 : decode cX7_rowsAhead 10 = .ok (.aload_n 0, 1) := by decide +kernel
theorem dX7_rowsAhead_11 : decode cX7_rowsAhead 11 = .ok (.getfield 9, 3) := by decide +kernel
theorem dX7_rowsAhead_14 : decode cX7_rowsAhead 14 = .ok (.iload_n 3, 1) := by decide +kernel
theorem dX7_rowsAhead_15 : decode cX7_rowsAhead 15 = .ok (.iaload, 1) := by decide +kernel
theorem dX7_rowsAhead_16 : decode cX7_rowsAhead 16 = .ok (.iadd, 1) := by decide +kernel
theorem dX7_rowsAhead_17 : decode cX7_rowsAhead 17 = .ok (.istore_n 2, 1) := by decide +kernel
theorem dX7_rowsAhead_18 : decode cX7_rowsAhead 18 = .ok (.iinc 3 1, 3) := by decide +kernel
theorem dX7_rowsAhead_21 : decode cX7_rowsAhead 21 = .ok (.goto (-17), 3) := by decide +kernel
theorem dX7_rowsAhead_24 : decode cX7_rowsAhead 24 = .ok (.iload_n 2, 1) := by decide +kernel
theorem dX7_rowsAhead_25 : decode cX7_rowsAhead 25 = .ok (.ireturn, 1) := by decide +kernel
theorem dX7_hymnFor_0 : decode cX7_hymnFor 0 = .ok (.aload_n 0, 1) := by decide +kernel
theorem dX7_hymnFor_1 : decode cX7_hymnFor 1 = .ok (.getfield 25, 3) := by decide +kernel
theorem dX7_hymnFor_4 : decode cX7_hymnFor 4 = .ok (.iload_n 1, 1) := by decide +kernel
theorem dX7_hymnFor_5 : decode cX7_hymnFor 5 = .ok (.aload_n 0, 1) := by decide +kernel
theorem dX7_hymnFor_6 : decode cX7_hymnFor 6 = .ok (.getfield 40, 3) := by decide +kernel
theorem dX7_hymnFor_9 : decode cX7_hymnFor 9 = .ok (.ifCond .eq 13, 3) := by decide +kernel
theorem dX7_hymnFor_12 : decode cX7_hymnFor 12 = .ok (.aload_n 0, 1) := by decide +kernel
theorem dX7_hymnFor_13 : decode cX7_hymnFor 13 = .ok (.iload_n 2, 1) := by decide +kernel
theorem dX7_hymnFor_14 : decode cX7_hymnFor 14 = .ok (.invokevirtual 81, 3) := by decide +kernel
theorem dX7_hymnFor_17 : decode cX7_hymnFor 17 = .ok (.iload_n 3, 1) := by decide +kernel
theorem dX7_hymnFor_18 : decode cX7_hymnFor 18 = .ok (.iadd, 1) := by decide +kernel
theorem dX7_hymnFor_19 : decode cX7_hymnFor 19 = .ok (.goto 4, 3) := by decide +kernel
theorem dX7_hymnFor_22 : decode cX7_hymnFor 22 = .ok (.iload_n 3, 1) := by decide +kernel
theorem dX7_hymnFor_23 : decode cX7_hymnFor 23 = .ok (.invokevirtual 85, 3) := by decide +kernel
theorem dX7_hymnFor_26 : decode cX7_hymnFor 26 = .ok (.ireturn, 1) := by decide +kernel
theorem dX7_takeTooManyDown_0 : decode cX7_takeTooManyDown 0 = .ok (.iconst 0, 1) := by decide +kernel
theorem dX7_takeTooManyDown_1 : decode cX7_takeTooManyDown 1 = .ok (.istore_n 1, 1) := by decide +kernel
theorem dX7_takeTooManyDown_2 : decode cX7_takeTooManyDown 2 = .ok (.bipush 53, 2) := by decide +kernel
theorem dX7_takeTooManyDown_4 : decode cX7_takeTooManyDown 4 = .ok (.istore_n 2, 1) := by decide +kernel
theorem dX7_takeTooManyDown_5 : decode cX7_takeTooManyDown 5 = .ok (.iload_n 2, 1) := by decide +kernel
theorem dX7_takeTooManyDown_6 : decode cX7_takeTooManyDown 6 = .ok (.ifCond .lt 56, 3) := by decide +kernel
theorem dX7_takeTooManyDown_9 : decode cX7_takeTooManyDown 9 = .ok (.aload_n 0, 1) := by decide +kernel
theorem dX7_takeTooManyDown_10 : decode cX7_takeTooManyDown 10 = .ok (.getfield 32, 3) := by decide +kernel
theorem dX7_takeTooManyDown_13 : decode cX7_takeTooManyDown 13 = .ok (.getfield 89, 3) := by decide +kernel
theorem dX7_takeTooManyDown_16 : decode cX7_takeTooManyDown 16 = .ok (.iload_n 2, 1) := by decide +kernel
theorem dX7_takeTooManyDown_17 : decode cX7_takeTooManyDown 17 = .ok (.iaload, 1) := by decide +kernel
theorem dX7_takeTooManyDown_18 : decode cX7_takeTooManyDown 18 = .ok (.istore_n 3, 1) := by decide +kernel
theorem dX7_takeTooManyDown_19 : decode cX7_takeTooManyDown 19 = .ok (.iload_n 3, 1) := by decide +kernel
theorem dX7_takeTooManyDown_20 : decode cX7_takeTooManyDown 20 = .ok (.iconst (-1), 1) := by decide +kernel
theorem dX7_takeTooManyDown_21 : decode cX7_takeTooManyDown 21 = .ok (.if_icmp .eq 35, 3) := by decide +kernel
theorem dX7_takeTooManyDown_24 : decode cX7_takeTooManyDown 24 = .ok (.aload_n 0, 1) := by decide +kernel
theorem dX7_takeTooManyDown_25 : decode cX7_takeTooManyDown 25 = .ok (.getfield 32, 3) := by decide +kernel
theorem dX7_takeTooManyDown_28 : decode cX7_takeTooManyDown 28 = .ok (.getfield 92, 3) := by decide +kernel
theorem dX7_takeTooManyDown_31 : decode cX7_takeTooManyDown 31 = .ok (.iload_n 3, 1) := by decide +kernel
theorem dX7_takeTooManyDown_32 : decode cX7_takeTooManyDown 32 = .ok (.iaload, 1) := by decide +kernel
theorem dX7_takeTooManyDown_33 : decode cX7_takeTooManyDown 33 = .ok (.aload_n 0, 1) := by decide +kernel
theorem dX7_takeTooManyDown_34 : decode cX7_takeTooManyDown 34 = .ok (.getfield 18, 3) := by decide +kernel
theorem dX7_takeTooManyDown_37 : decode cX7_takeTooManyDown 37 = .ok (.getfield 95, 3) := by decide +kernel
theorem dX7_takeTooManyDown_40 : decode cX7_takeTooManyDown 40 = .ok (.iload_n 3, 1) := by decide +kernel
theorem dX7_takeTooManyDown_41 : decode cX7_takeTooManyDown 41 = .ok (.iaload, 1) := by decide +kernel
theorem dX7_takeTooManyDown_42 : decode cX7_takeTooManyDown 42 = .ok (.if_icmp .le 14, 3) := by decide +kernel
theorem dX7_takeTooManyDown_45 : decode cX7_takeTooManyDown 45 = .ok (.aload_n 0, 1) := by decide +kernel
theorem dX7_takeTooManyDown_46 : decode cX7_takeTooManyDown 46 = .ok (.getfield 32, 3) := by decide +kernel
theorem dX7_takeTooManyDown_49 : decode cX7_takeTooManyDown 49 = .ok (.iload_n 2, 1) := by decide +kernel
theorem dX7_takeTooManyDown_50 : decode cX7_takeTooManyDown 50 = .ok (.invokevirtual 98, 3) := by decide +kernel
theorem dX7_takeTooManyDown_53 : decode cX7_takeTooManyDown 53 = .ok (.iinc 1 1, 3) := by decide +kernel
theorem dX7_takeTooManyDown_56 : decode cX7_takeTooManyDown 56 = .ok (.iinc 2 (-1), 3) := by decide +kernel
theorem dX7_takeTooManyDown_59 : decode cX7_takeTooManyDown 59 = .ok (.goto (-54), 3) := by decide +kernel
theorem dX7_takeTooManyDown_62 : decode cX7_takeTooManyDown 62 = .ok (.iload_n 1, 1) := by decide +kernel
theorem dX7_takeTooManyDown_63 : decode cX7_takeTooManyDown 63 = .ok (.ireturn, 1) := by decide +kernel
theorem dX8_init_0 : decode cX8_init 0 = .ok (.aload_n 0, 1) := by decide +kernel
theorem dX8_init_1 : decode cX8_init 1 = .ok (.invokespecial 3, 3) := by decide +kernel
theorem dX8_init_4 : decode cX8_init 4 = .ok (.aload_n 0, 1) := by decide +kernel
theorem dX8_init_5 : decode cX8_init 5 = .ok (.bipush 12, 2) := by decide +kernel
theorem dX8_init_7 : decode cX8_init 7 = .ok (.newarray .int, 2) := by decide +kernel
theorem dX8_init_9 : decode cX8_init 9 = .ok (.putfield 9, 3) := by decide +kernel
theorem dX8_init_12 : decode cX8_init 12 = .ok (.aload_n 0, 1) := by decide +kernel
theorem dX8_init_13 : decode cX8_init 13 = .ok (.bipush 12, 2) := by decide +kernel
theorem dX8_init_15 : decode cX8_init 15 = .ok (.newarray .int, 2) := by decide +kernel
theorem dX8_init_17 : decode cX8_init 17 = .ok (.putfield 15, 3) := by decide +kernel
theorem dX8_init_20 : decode cX8_init 20 = .ok (.aload_n 0, 1) := by decide +kernel
theorem dX8_init_21 : decode cX8_init 21 = .ok (.bipush 42, 2) := by decide +kernel
theorem dX8_init_23 : decode cX8_init 23 = .ok (.newarray .int, 2) := by decide +kernel
theorem dX8_init_25 : decode cX8_init 25 = .ok (.putfield 18, 3) := by decide +kernel
theorem dX8_init_28 : decode cX8_init 28 = .ok (.aload_n 0, 1) := by decide +kernel
theorem dX8_init_29 : decode cX8_init 29 = .ok (.iconst 3, 1) := by decide +kernel
theorem dX8_init_30 : decode cX8_init 30 = .ok (.newarray .int, 2) := by decide +kernel
theorem dX8_init_32 : decode cX8_init 32 = .ok (.putfield 21, 3) := by decide +kernel
theorem dX8_init_35 : decode cX8_init 35 = .ok (.aload_n 0, 1) := by decide +kernel
theorem dX8_init_36 : decode cX8_init 36 = .ok (.bipush 30, 2) := by decide +kernel
theorem dX8_init_38 : decode cX8_init 38 = .ok (.newarray .int, 2) := by decide +kernel
theorem dX8_init_40 : decode cX8_init 40 = .ok (.putfield 24, 3) := by decide +kernel
theorem dX8_init_43 : decode cX8_init 43 = .ok (.aload_n 0, 1) := by decide +kernel
theorem dX8_init_44 : decode cX8_init 44 = .ok (.bipush 12, 2) := by decide +kernel
theorem dX8_init_46 : decode cX8_init 46 = .ok (.newarray .int, 2) := by decide +kernel
theorem dX8_init_48 : decode cX8_init 48 = .ok (.putfield 27, 3) := by decide +kernel
theorem dX8_init_51 : decode cX8_init 51 = .ok (.aload_n 0, 1) := by decide +kernel
theorem dX8_init_52 : decode cX8_init 52 = .ok (.bipush 12, 2) := by decide +kernel
theorem dX8_init_54 : decode cX8_init 54 = .ok (.newarray .int, 2) := by decide +kernel
theorem dX8_init_56 : decode cX8_init 56 = .ok (.putfield 30, 3) := by decide +kernel
theorem dX8_init_59 : decode cX8_init 59 = .ok (.aload_n 0, 1) := by decide +kernel
theorem dX8_init_60 : decode cX8_init 60 = .ok (.bipush 12, 2) := by decide +kernel
theorem dX8_init_62 : decode cX8_init 62 = .ok (.newarray .int, 2) := by decide +kernel
theorem dX8_init_64 : decode cX8_init 64 = .ok (.putfield 33, 3) := by decide +kernel
theorem dX8_init_67 : decode cX8_init 67 = .ok (.return_, 1) := by decide +kernel
theorem dX8_startAnew_0 : decode cX8_startAnew 0 = .ok (.aload_n 0, 1) := by decide +kernel
theorem dX8_startAnew_1 : decode cX8_startAnew 1 = .ok (.iconst 0, 1) := by decide +kernel
theorem dX8_startAnew_2 : decode cX8_startAnew 2 = .ok (.putfield 36, 3) := by decide +kernel
theorem dX8_startAnew_5 : decode cX8_startAnew 5 = .ok (.aload_n 0, 1) := by decide +kernel
theorem dX8_startAnew_6 : decode cX8_startAnew 6 = .ok (.iconst 0, 1) := by decide +kernel
theorem dX8_startAnew_7 : decode cX8_startAnew 7 = .ok (.putfield 40, 3) := by decide +kernel
theorem dX8_startAnew_10 : decode cX8_startAnew 10 = .ok (.aload_n 0, 1) := by decide +kernel
theorem dX8_startAnew_11 : decode cX8_startAnew 11 = .ok (.iconst 0, 1) := by decide +kernel
theorem dX8_startAnew_12 : decode cX8_startAnew 12 = .ok (.putfield 44, 3) := by decide +kernel
theorem dX8_startAnew_15 : decode cX8_startAnew 15 = .ok (.aload_n 0, 1) := by decide +kernel
theorem dX8_startAnew_16 : decode cX8_startAnew 16 = .ok (.iconst 0, 1) := by decide +kernel
theorem dX8_startAnew_17 : decode cX8_startAnew 17 = .ok (.putfield 47, 3) := by decide +kernel
theorem dX8_startAnew_20 : decode cX8_startAnew 20 = .ok (.aload_n 0, 1) := by decide +kernel
theorem dX8_startAnew_21 : decode cX8_startAnew 21 = .ok (.getfield 18, 3) := by decide +kernel
theorem dX8_startAnew_24 : decode cX8_startAnew 24 = .ok (.iconst 0, 1) := by decide +kernel
theorem dX8_startAnew_25 : decode cX8_startAnew 25 = .ok (.invokestatic 50, 3) := by decide +kernel
theorem dX8_startAnew_28 : decode cX8_startAnew 28 = .ok (.aload_n 0, 1) := by decide +kernel
theorem dX8_startAnew_29 : decode cX8_startAnew 29 = .ok (.getfield 24, 3) := by decide +kernel
theorem dX8_startAnew_32 : decode cX8_startAnew 32 = .ok (.iconst 0, 1) := by decide +kernel
theorem dX8_startAnew_33 : decode cX8_startAnew 33 = .ok (.invokestatic 50, 3) := by decide +kernel
theorem dX8_startAnew_36 : decode cX8_startAnew 36 = .ok (.return_, 1) := by decide +kernel
theorem dX8_copyFrom_0 : decode cX8_copyFrom 0 = .ok (.aload_n 0, 1) := by decide +kernel
theorem dX8_copyFrom_1 : decode cX8_copyFrom 1 = .ok (.aload_n 1, 1) := by decide +kernel
theorem dX8_copyFrom_2 : decode cX8_copyFrom 2 = .ok (.getfield 36, 3) := by decide +kernel
theorem dX8_copyFrom_5 : decode cX8_copyFrom 5 = .ok (.putfield 36, 3) := by decide +kernel
theorem dX8_copyFrom_8 : decode cX8_copyFrom 8 = .ok (.aload_n 0, 1) := by decide +kernel
theorem dX8_copyFrom_9 : decode cX8_copyFrom 9 = .ok (.aload_n 1, 1) := by decide +kernel
theorem dX8_copyFrom_10 : decode cX8_copyFrom 10 = .ok (.getfield 40, 3) := by decide +kernel
theorem dX8_copyFrom_13 : decode cX8_copyFrom 13 = .ok (.putfield 40, 3) := by decide +kernel
theorem dX8_copyFrom_16 : decode cX8_copyFrom 16 = .ok (.aload_n 0, 1) := by decide +kernel
theorem dX8_copyFrom_17 : decode cX8_copyFrom 17 = .ok (.aload_n 1, 1) := by decide +kernel
theorem dX8_copyFrom_18 : decode cX8_copyFrom 18 = .ok (.getfield 44, 3) := by decide +kernel
theorem dX8_copyFrom_21 : decode cX8_copyFrom 21 = .ok (.putfield 44, 3) := by decide +kernel
theorem dX8_copyFrom_24 : decode cX8_copyFrom 24 = .ok (.aload_n 0, 1) := by decide +kernel
theorem dX8_copyFrom_25 : decode cX8_copyFrom 25 = .ok (.aload_n 1, 1) := by decide +kernel
theorem dX8_copyFrom_26 : decode cX8_copyFrom 26 = .ok (.getfield 47, 3) := by decide +kernel
theorem dX8_copyFrom_29 : decode cX8_copyFrom 29 = .ok (.putfield 47, 3) := by decide +kernel
theorem dX8_copyFrom_32 : decode cX8_copyFrom 32 = .ok (.aload_n 1, 1) := by decide +kernel
theorem dX8_copyFrom_33 : decode cX8_copyFrom 33 = .ok (.getfield 9, 3) := by decide +kernel
theorem dX8_copyFrom_36 : decode cX8_copyFrom 36 = .ok (.iconst 0, 1) := by decide +kernel
theorem dX8_copyFrom_37 : decode cX8_copyFrom 37 = .ok (.aload_n 0, 1) := by decide +kernel
theorem dX8_copyFrom_38 : decode cX8_copyFrom 38 = .ok (.getfield 9, 3) := by decide +kernel
theorem dX8_copyFrom_41 : decode cX8_copyFrom 41 = .ok (.iconst 0, 1) := by decide +kernel
theorem dX8_copyFrom_42 : decode cX8_copyFrom 42 = .ok (.bipush 12, 2) := by decide +kernel
theorem dX8_copyFrom_44 : decode cX8_copyFrom 44 = .ok (.invokestatic 56, 3) := by decide +kernel
theorem dX8_copyFrom_47 : decode cX8_copyFrom 47 = .ok (.aload_n 1, 1) := by decide +kernel
theorem dX8_copyFrom_48 : decode cX8_copyFrom 48 = .ok (.getfield 15, 3) := by decide +kernel
theorem dX8_copyFrom_51 : decode cX8_copyFrom 51 = .ok (.iconst 0, 1) := by decide +kernel
theorem dX8_copyFrom_52 : decode cX8_copyFrom 52 = .ok (.aload_n 0, 1) := by decide +kernel
theorem dX8_copyFrom_53 : decode cX8_copyFrom 53 = .ok (.getfield 15, 3) := by decide +kernel
theorem dX8_copyFrom_56 : decode cX8_copyFrom 56 = .ok (.iconst 0, 1) := by decide +kernel
theorem dX8_copyFrom_57 : decode cX8_copyFrom 57 = .ok (.bipush 12, 2) := by decide +kernel
theorem dX8_copyFrom_59 : decode cX8_copyFrom 59 = .ok (.invokestatic 56, 3) := by decide +kernel
theorem dX8_copyFrom_62 : decode cX8_copyFrom 62 = .ok (.aload_n 1, 1) := by decide +kernel
theorem dX8_copyFrom_63 : decode cX8_copyFrom 63 = .ok (.getfield 18, 3) := by decide +kernel
theorem dX8_copyFrom_66 : decode cX8_copyFrom 66 = .ok (.iconst 0, 1) := by decide +kernel
theorem dX8_copyFrom_67 : decode cX8_copyFrom 67 = .ok (.aload_n 0, 1) := by decide +kernel
theorem dX8_copyFrom_68 : decode cX8_copyFrom 68 = .ok (.getfield 18, 3) := by decide +kernel
theorem dX8_copyFrom_71 : decode cX8_copyFrom 71 = .ok (.iconst 0, 1) := by decide +kernel
theorem dX8_copyFrom_72 : decode cX8_copyFrom 72 = .ok (.bipush 42, 2) := by decide +kernel
theorem dX8_copyFrom_74 : decode cX8_copyFrom 74 = .ok (.invokestatic 56, 3) := by decide +kernel
theorem dX8_copyFrom_77 : decode cX8_copyFrom 77 = .ok (.aload_n 1, 1) := by decide +kernel
theorem dX8_copyFrom_78 : decode cX8_copyFrom 78 = .ok (.getfield 21, 3) := by decide +kernel
theorem dX8_copyFrom_81 : decode cX8_copyFrom 81 = .ok (.iconst 0, 1) := by decide +kernel
theorem dX8_copyFrom_82 : decode cX8_copyFrom 82 = .ok (.aload_n 0, 1) := by decide +kernel
theorem dX8_copyFrom_83 : decode cX8_copyFrom 83 = .ok (.getfield 21, 3) := by decide +kernel
theorem dX8_copyFrom_86 : decode cX8_copyFrom 86 = .ok (.iconst 0, 1) := by decide +kernel
theorem dX8_copyFrom_87 : decode cX8_copyFrom 87 = .ok (.iconst 3, 1) := by decide +kernel
theorem dX8_copyFrom_88 : decode cX8_copyFrom 88 = .ok (.invokestatic 56, 3) := by decide +kernel
theorem dX8_copyFrom_91 : decode cX8_copyFrom 91 = .ok (.aload_n 1, 1) := by decide +kernel
theorem dX8_copyFrom_92 : decode cX8_copyFrom 92 = .ok (.getfield 24, 3) := by decide +kernel
theorem dX8_copyFrom_95 : decode cX8_copyFrom 95 = .ok (.iconst 0, 1) := by decide +kernel
theorem dX8_copyFrom_96 : decode cX8_copyFrom 96 = .ok (.aload_n 0, 1) := by decide +kernel
theorem dX8_copyFrom_97 : decode cX8_copyFrom 97 = .ok (.getfield 24, 3) := by decide +kernel
theorem dX8_copyFrom_100 : decode cX8_copyFrom 100 = .ok (.iconst 0, 1) := by decide +kernel
theorem dX8_copyFrom_101 : decode cX8_copyFrom 101 = .ok (.bipush 30, 2) := by decide +kernel
theorem dX8_copyFrom_103 : decode cX8_copyFrom 103 = .ok (.invokestatic 56, 3) := by decide +kernel
theorem dX8_copyFrom_106 : decode cX8_copyFrom 106 = .ok (.aload_n 1, 1) := by decide +kernel
theorem dX8_copyFrom_107 : decode cX8_copyFrom 107 = .ok (.getfield 27, 3) := by decide +kernel
theorem dX8_copyFrom_110 : decode cX8_copyFrom 110 = .ok (.iconst 0, 1) := by decide +kernel
theorem dX8_copyFrom_111 : decode cX8_copyFrom 111 = .ok (.aload_n 0, 1) := by decide +kernel
theorem dX8_copyFrom_112 : decode cX8_copyFrom 112 = .ok (.getfield 27, 3) := by decide +kernel
theorem dX8_copyFrom_115 : decode cX8_copyFrom 115 = .ok (.iconst 0, 1) := by decide +kernel
theorem dX8_copyFrom_116 : decode cX8_copyFrom 116 = .ok (.bipush 12, 2) := by decide +kernel
theorem dX8_copyFrom_118 : decode cX8_copyFrom 118 = .ok (.invokestatic 56, 3) := by decide +kernel
theorem dX8_copyFrom_121 : decode cX8_copyFrom 121 = .ok (.aload_n 1, 1) := by decide +kernel
theorem dX8_copyFrom_122 : decode cX8_copyFrom 122 = .ok (.getfield 30, 3) := by decide +kernel
theorem dX8_copyFrom_125 : decode cX8_copyFrom 125 = .ok (.iconst 0, 1) := by decide +kernel
theorem dX8_copyFrom_126 : decode cX8_copyFrom 126 = .ok (.aload_n 0, 1) := by decide +kernel
theorem dX8_copyFrom_127 : decode cX8_copyFrom 127 = .ok (.getfield 30, 3) := by decide +kernel
theorem dX8_copyFrom_130 : decode cX8_copyFrom 130 = .ok (.iconst 0, 1) := by decide +kernel
theorem dX8_copyFrom_131 : decode cX8_copyFrom 131 = .ok (.bipush 12, 2) := by decide +kernel
theorem dX8_copyFrom_133 : decode cX8_copyFrom 133 = .ok (.invokestatic 56, 3) := by decide +kernel
theorem dX8_copyFrom_136 : decode cX8_copyFrom 136 = .ok (.aload_n 1, 1) := by decide +kernel
theorem dX8_copyFrom_137 : decode cX8_copyFrom 137 = .ok (.getfield 33, 3) := by decide +kernel
theorem dX8_copyFrom_140 : decode cX8_copyFrom 140 = .ok (.iconst 0, 1) := by decide +kernel
theorem dX8_copyFrom_141 : decode cX8_copyFrom 141 = .ok (.aload_n 0, 1) := by decide +kernel
theorem dX8_copyFrom_142 : decode cX8_copyFrom 142 = .ok (.getfield 33, 3) := by decide +kernel
theorem dX8_copyFrom_145 : decode cX8_copyFrom 145 = .ok (.iconst 0, 1) := by decide +kernel
theorem dX8_copyFrom_146 : decode cX8_copyFrom 146 = .ok (.bipush 12, 2) := by decide +kernel
theorem dX8_copyFrom_148 : decode cX8_copyFrom 148 = .ok (.invokestatic 56, 3) := by decide +kernel
theorem dX8_copyFrom_151 : decode cX8_copyFrom 151 = .ok (.return_, 1) := by decide +kernel
theorem dX8_addSort_0 : decode cX8_addSort 0 = .ok (.aload_n 0, 1) := by decide +kernel
theorem dX8_addSort_1 : decode cX8_addSort 1 = .ok (.getfield 9, 3) := by decide +kernel
theorem dX8_addSort_4 : decode cX8_addSort 4 = .ok (.aload_n 0, 1) := by decide +kernel
theorem dX8_addSort_5 : decode cX8_addSort 5 = .ok (.getfield 40, 3) := by decide +kernel
theorem dX8_addSort_8 : decode cX8_addSort 8 = .ok (.iload_n 1, 1) := by decide +kernel
theorem dX8_addSort_9 : decode cX8_addSort 9 = .ok (.iastore, 1) := by decide +kernel
theorem dX8_addSort_10 : decode cX8_addSort 10 = .ok (.aload_n 0, 1) := by decide +kernel
theorem dX8_addSort_11 : decode cX8_addSort 11 = .ok (.getfield 15, 3) := by decide +kernel
theorem dX8_addSort_14 : decode cX8_addSort 14 = .ok (.aload_n 0, 1) := by decide +kernel
theorem dX8_addSort_15 : decode cX8_addSort 15 = .ok (.getfield 40, 3) := by decide +kernel
theorem dX8_addSort_18 : decode cX8_addSort 18 = .ok (.iload_n 2, 1) := by decide +kernel
theorem dX8_addSort_19 : decode cX8_addSort 19 = .ok (.iastore, 1) := by decide +kernel
theorem dX8_addSort_20 : decode cX8_addSort 20 = .ok (.aload_n 0, 1) := by decide +kernel
theorem dX8_addSort_21 : decode cX8_addSort 21 = .ok (.getfield 18, 3) := by decide +kernel
theorem dX8_addSort_24 : decode cX8_addSort 24 = .ok (.aload_n 0, 1) := by decide +kernel
theorem dX8_addSort_25 : decode cX8_addSort 25 = .ok (.getfield 40, 3) := by decide +kernel
theorem dX8_addSort_28 : decode cX8_addSort 28 = .ok (.iload_n 3, 1) := by decide +kernel
theorem dX8_addSort_29 : decode cX8_addSort 29 = .ok (.iastore, 1) := by decide +kernel
theorem dX8_addSort_30 : decode cX8_addSort 30 = .ok (.aload_n 0, 1) := by decide +kernel
theorem dX8_addSort_31 : decode cX8_addSort 31 = .ok (.dup, 1) := by decide +kernel
theorem dX8_addSort_32 : decode cX8_addSort 32 = .ok (.getfield 40, 3) := by decide +kernel
theorem dX8_addSort_35 : decode cX8_addSort 35 = .ok (.iconst 1, 1) := by decide +kernel
theorem dX8_addSort_36 : decode cX8_addSort 36 = .ok (.iadd, 1) := by decide +kernel
theorem dX8_addSort_37 : decode cX8_addSort 37 = .ok (.putfield 40, 3) := by decide +kernel
theorem dX8_addSort_40 : decode cX8_addSort 40 = .ok (.aload_n 0, 1) := by decide +kernel
theorem dX8_addSort_41 : decode cX8_addSort 41 = .ok (.getfield 40, 3) := by decide +kernel
theorem dX8_addSort_44 : decode cX8_addSort 44 = .ok (.iconst 1, 1) := by decide +kernel
theorem dX8_addSort_45 : decode cX8_addSort 45 = .ok (.isub, 1) := by decide +kernel
theorem dX8_addSort_46 : decode cX8_addSort 46 = .ok (.ireturn, 1) := by decide +kernel
theorem dX8_frontOf_0 : decode cX8_frontOf 0 = .ok (.iload_n 1, 1) := by decide +kernel
theorem dX8_frontOf_1 : decode cX8_frontOf 1 = .ok (.bipush 12, 2) := by decide +kernel
theorem dX8_frontOf_3 : decode cX8_frontOf 3 = .ok (.if_icmp .ge 12, 3) := by decide +kernel
theorem dX8_frontOf_6 : decode cX8_frontOf 6 = .ok (.aload_n 0, 1) := by decide +kernel
theorem dX8_frontOf_7 : decode cX8_frontOf 7 = .ok (.getfield 9, 3) := by decide +kernel
theorem dX8_frontOf_10 : decode cX8_frontOf 10 = .ok (.iload_n 1, 1) := by decide +kernel
theorem dX8_frontOf_11 : decode cX8_frontOf 11 = .ok (.iaload, 1) := by decide +kernel
theorem dX8_frontOf_12 : decode cX8_frontOf 12 = .ok (.goto 10, 3) := by decide +kernel
theorem dX8_frontOf_15 : decode cX8_frontOf 15 = .ok (.iload_n 1, 1) := by decide +kernel
theorem dX8_frontOf_16 : decode cX8_frontOf 16 = .ok (.bipush 12, 2) := by decide +kernel
theorem dX8_frontOf_18 : decode cX8_frontOf 18 = .ok (.isub, 1) := by decide +kernel
theorem dX8_frontOf_19 : decode cX8_frontOf 19 = .ok (.bipush 10, 2) := by decide +kernel
theorem dX8_frontOf_21 : decode cX8_frontOf 21 = .ok (.irem, 1) := by decide +kernel
theorem dX8_frontOf_22 : decode cX8_frontOf 22 = .ok (.ireturn, 1) := by decide +kernel
theorem dX8_backOf_0 : decode cX8_backOf 0 = .ok (.iload_n 1, 1) := by decide +kernel
theorem dX8_backOf_1 : decode cX8_backOf 1 = .ok (.bipush 12, 2) := by decide +kernel
theorem dX8_backOf_3 : decode cX8_backOf 3 = .ok (.if_icmp .ge 12, 3) := by decide +kernel
theorem dX8_backOf_6 : decode cX8_backOf 6 = .ok (.aload_n 0, 1) := by decide +kernel
theorem dX8_backOf_7 : decode cX8_backOf 7 = .ok (.getfield 15, 3) := by decide +kernel
theorem dX8_backOf_10 : decode cX8_backOf 10 = .ok (.iload_n 1, 1) := by decide +kernel
theorem dX8_backOf_11 : decode cX8_backOf 11 = .ok (.iaload, 1) := by decide +kernel
theorem dX8_backOf_12 : decode cX8_backOf 12 = .ok (.goto 4, 3) := by decide +kernel
theorem dX8_backOf_15 : decode cX8_backOf 15 = .ok (.iconst (-1), 1) := by decide +kernel
theorem dX8_backOf_16 : decode cX8_backOf 16 = .ok (.ireturn, 1) := by decide +kernel
theorem dX8_wayOf_0 : decode cX8_wayOf 0 = .ok (.aload_n 0, 1) := by decide +kernel
theorem dX8_wayOf_1 : decode cX8_wayOf 1 = .ok (.iload_n 1, 1) := by decide +kernel
theorem dX8_wayOf_2 : decode cX8_wayOf 2 = .ok (.invokevirtual 62, 3) := by decide +kernel
theorem dX8_wayOf_5 : decode cX8_wayOf 5 = .ok (.istore_n 3, 1) := by decide +kernel
theorem dX8_wayOf_6 : decode cX8_wayOf 6 = .ok (.aload_n 0, 1) := by decide +kernel
theorem dX8_wayOf_7 : decode cX8_wayOf 7 = .ok (.iload_n 1, 1) := by decide +kernel
theorem dX8_wayOf_8 : decode cX8_wayOf 8 = .ok (.invokevirtual 66, 3) := by decide +kernel
theorem dX8_wayOf_11 : decode cX8_wayOf 11 = .ok (.istore 4, 2) := by decide +kernel
theorem dX8_wayOf_13 : decode cX8_wayOf 13 = .ok (.iload_n 3, 1) := by decide +kernel
theorem dX8_wayOf_14 : decode cX8_wayOf 14 = .ok (.iload_n 2, 1) := by decide +kernel
theorem dX8_wayOf_15 : decode cX8_wayOf 15 = .ok (.if_icmp .ne 5, 3) := by decide +kernel
theorem dX8_wayOf_18 : decode cX8_wayOf 18 = .ok (.iconst 0, 1) := by decide +kernel
theorem dX8_wayOf_19 : decode cX8_wayOf 19 = .ok (.ireturn, 1) := by decide +kernel
theorem dX8_wayOf_20 : decode cX8_wayOf 20 = .ok (.iload 4, 2) := by decide +kernel
theorem dX8_wayOf_22 : decode cX8_wayOf 22 = .ok (.iload_n 2, 1) := by decide +kernel
theorem dX8_wayOf_23 : decode cX8_wayOf 23 = .ok (.if_icmp .ne 5, 3) := by decide +kernel
theorem dX8_wayOf_26 : decode cX8_wayOf 26 = .ok (.iconst 1, 1) := by decide +kernel
theorem dX8_wayOf_27 : decode cX8_wayOf 27 = .ok (.ireturn, 1) := by decide +kernel
theorem dX8_wayOf_28 : decode cX8_wayOf 28 = .ok (.aload_n 0, 1) := by decide +kernel
theorem dX8_wayOf_29 : decode cX8_wayOf 29 = .ok (.getfield 36, 3) := by decide +kernel
theorem dX8_wayOf_32 : decode cX8_wayOf 32 = .ok (.ifCond .eq 10, 3) := by decide +kernel
theorem dX8_wayOf_35 : decode cX8_wayOf 35 = .ok (.iload_n 2, 1) := by decide +kernel
theorem dX8_wayOf_36 : decode cX8_wayOf 36 = .ok (.invokestatic 69, 3) := by decide +kernel
theorem dX8_wayOf_39 : decode cX8_wayOf 39 = .ok (.ifCond .ne 5, 3) := by decide +kernel
theorem dX8_wayOf_42 : decode cX8_wayOf 42 = .ok (.iconst (-1), 1) := by decide +kernel
theorem dX8_wayOf_43 : decode cX8_wayOf 43 = .ok (.ireturn, 1) := by decide +kernel
theorem dX8_wayOf_44 : decode cX8_wayOf 44 = .ok (.iload_n 3, 1) := by decide +kernel
theorem dX8_wayOf_45 : decode cX8_wayOf 45 = .ok (.iload_n 2, 1) := by decide +kernel
theorem dX8_wayOf_46 : decode cX8_wayOf 46 = .ok (.invokestatic 73, 3) := by decide +kernel
theorem dX8_wayOf_49 : decode cX8_wayOf 49 = .ok (.if_icmp .ne 5, 3) := by decide +kernel
theorem dX8_wayOf_52 : decode cX8_wayOf 52 = .ok (.iconst 2, 1) := by decide +kernel
theorem dX8_wayOf_53 : decode cX8_wayOf 53 = .ok (.ireturn, 1) := by decide +kernel
theorem dX8_wayOf_54 : decode cX8_wayOf 54 = .ok (.iload 4, 2) := by decide +kernel
theorem dX8_wayOf_56 : decode cX8_wayOf 56 = .ok (.iload_n 2, 1) := by decide +kernel
theorem dX8_wayOf_57 : decode cX8_wayOf 57 = .ok (.invokestatic 73, 3) := by decide +kernel
theorem dX8_wayOf_60 : decode cX8_wayOf 60 = .ok (.if_icmp .ne 7, 3) := by decide +kernel
theorem dX8_wayOf_63 : decode cX8_wayOf 63 = .ok (.iconst 3, 1) := by decide +kernel
theorem dX8_wayOf_64 : decode cX8_wayOf 64 = .ok (.goto 4, 3) := by decide +kernel
theorem dX8_wayOf_67 : decode cX8_wayOf 67 = .ok (.iconst (-1), 1) := by decide +kernel
theorem dX8_wayOf_68 : decode cX8_wayOf 68 = .ok (.ireturn, 1) := by decide +kernel
theorem dX8_isTurnable_0 : decode cX8_isTurnable 0 = .ok (.iload_n 0, 1) := by decide +kernel
theorem dX8_isTurnable_1 : decode cX8_isTurnable 1 = .ok (.bipush 6, 2) := by decide +kernel
theorem dX8_isTurnable_3 : decode cX8_isTurnable 3 = .ok (.if_icmp .eq 9, 3) := by decide +kernel
theorem dX8_isTurnable_6 : decode cX8_isTurnable 6 = .ok (.iload_n 0, 1) := by decide +kernel
theorem dX8_isTurnable_7 : decode cX8_isTurnable 7 = .ok (.bipush 9, 2) := by decide +kernel
theorem dX8_isTurnable_9 : decode cX8_isTurnable 9 = .ok (.if_icmp .ne 7, 3) := by decide +kernel
theorem dX8_isTurnable_12 : decode cX8_isTurnable 12 = .ok (.iconst 1, 1) := by decide +kernel
theorem dX8_isTurnable_13 : decode cX8_isTurnable 13 = .ok (.goto 4, 3) := by decide +kernel
theorem dX8_isTurnable_16 : decode cX8_isTurnable 16 = .ok (.iconst 0, 1) := by decide +kernel
theorem dX8_isTurnable_17 : decode cX8_isTurnable 17 = .ok (.ireturn, 1) := by decide +kernel
theorem dX8_otherOfBoth_0 : decode cX8_otherOfBoth 0 = .ok (.bipush 15, 2) := by decide +kernel
theorem dX8_otherOfBoth_2 : decode cX8_otherOfBoth 2 = .ok (.iload_n 0, 1) := by decide +kernel
theorem dX8_otherOfBoth_3 : decode cX8_otherOfBoth 3 = .ok (.isub, 1) := by decide +kernel
theorem dX8_otherOfBoth_4 : decode cX8_otherOfBoth 4 = .ok (.ireturn, 1) := by decide +kernel
theorem dX8_digitsOf_0 : decode cX8_digitsOf 0 = .ok (.aload_n 0, 1) := by decide +kernel
theorem dX8_digitsOf_1 : decode cX8_digitsOf 1 = .ok (.aload_n 0, 1) := by decide +kernel
theorem dX8_digitsOf_2 : decode cX8_digitsOf 2 = .ok (.iload_n 1, 1) := by decide +kernel
theorem dX8_digitsOf_3 : decode cX8_digitsOf 3 = .ok (.invokevirtual 62, 3) := by decide +kernel
theorem dX8_digitsOf_6 : decode cX8_digitsOf 6 = .ok (.invokevirtual 76, 3) := by decide +kernel
theorem dX8_digitsOf_9 : decode cX8_digitsOf 9 = .ok (.aload_n 0, 1) := by decide +kernel
theorem dX8_digitsOf_10 : decode cX8_digitsOf 10 = .ok (.aload_n 0, 1) := by decide +kernel
theorem dX8_digitsOf_11 : decode cX8_digitsOf 11 = .ok (.iload_n 1, 1) := by decide +kernel
theorem dX8_digitsOf_12 : decode cX8_digitsOf 12 = .ok (.invokevirtual 66, 3) := by decide +kernel
theorem dX8_digitsOf_15 : decode cX8_digitsOf 15 = .ok (.invokevirtual 76, 3) := by decide +kernel
theorem dX8_digitsOf_18 : decode cX8_digitsOf 18 = .ok (.ior, 1) := by decide +kernel
theorem dX8_digitsOf_19 : decode cX8_digitsOf 19 = .ok (.ireturn, 1) := by decide +kernel
theorem dX8_digitsOfSide_0 : decode cX8_digitsOfSide 0 = .ok (.iload_n 1, 1) := by decide +kernel
theorem dX8_digitsOfSide_1 : decode cX8_digitsOfSide 1 = .ok (.iconst (-1), 1) := by decide +kernel
theorem dX8_digitsOfSide_2 : decode cX8_digitsOfSide 2 = .ok (.if_icmp .ne 5, 3) := by decide +kernel
theorem dX8_digitsOfSide_5 : decode cX8_digitsOfSide 5 = .ok (.iconst 0, 1) := by decide +kernel
theorem dX8_digitsOfSide_6 : decode cX8_digitsOfSide 6 = .ok (.ireturn, 1) := by decide +kernel
theorem dX8_digitsOfSide_7 : decode cX8_digitsOfSide 7 = .ok (.iconst 1, 1) := by decide +kernel
theorem dX8_digitsOfSide_8 : decode cX8_digitsOfSide 8 = .ok (.iload_n 1, 1) := by decide +kernel
theorem dX8_digitsOfSide_9 : decode cX8_digitsOfSide 9 = .ok (.ishl, 1) := by decide +kernel
theorem dX8_digitsOfSide_10 : decode cX8_digitsOfSide 10 = .ok (.istore_n 2, 1) := by decide +kernel
theorem dX8_digitsOfSide_11 : decode cX8_digitsOfSide 11 = .ok (.aload_n 0, 1) := by decide +kernel
theorem dX8_digitsOfSide_12 : decode cX8_digitsOfSide 12 = .ok (.getfield 36, 3) := by decide +kernel
theorem dX8_digitsOfSide_15 : decode cX8_digitsOfSide 15 = .ok (.ifCond .eq 21, 3) := by decide +kernel
theorem dX8_digitsOfSide_18 : decode cX8_digitsOfSide 18 = .ok (.iload_n 1, 1) := by decide +kernel
theorem dX8_digitsOfSide_19 : decode cX8_digitsOfSide 19 = .ok (.invokestatic 69, 3) := by decide +kernel
theorem dX8_digitsOfSide_22 : decode cX8_digitsOfSide 22 = .ok (.ifCond .eq 14, 3) := by decide +kernel
theorem dX8_digitsOfSide_25 : decode cX8_digitsOfSide 25 = .ok (.iload_n 2, 1) := by decide +kernel
theorem dX8_digitsOfSide_26 : decode cX8_digitsOfSide 26 = .ok (.iconst 1, 1) := by decide +kernel
theorem dX8_digitsOfSide_27 : decode cX8_digitsOfSide 27 = .ok (.iload_n 1, 1) := by decide +kernel
theorem dX8_digitsOfSide_28 : decode cX8_digitsOfSide 28 = .ok (.invokestatic 73, 3) := by decide +kernel
theorem dX8_digitsOfSide_31 : decode cX8_digitsOfSide 31 = .ok (.ishl, 1) := by decide +kernel
theorem dX8_digitsOfSide_32 : decode cX8_digitsOfSide 32 = .ok (.ior, 1) := by decide +kernel
theorem dX8_digitsOfSide_33 : decode cX8_digitsOfSide 33 = .ok (.goto 4, 3) := by decide +kernel
theorem dX8_digitsOfSide_36 : decode cX8_digitsOfSide 36 = .ok (.iload_n 2, 1) := by decide +kernel
theorem dX8_digitsOfSide_37 : decode cX8_digitsOfSide 37 = .ok (.ireturn, 1) := by decide +kernel
theorem dX8_showsDigit_0 : decode cX8_showsDigit 0 = .ok (.aload_n 0, 1) := by decide +kernel
theorem dX8_showsDigit_1 : decode cX8_showsDigit 1 = .ok (.getfield 18, 3) := by decide +kernel
theorem dX8_showsDigit_4 : decode cX8_showsDigit 4 = .ok (.iload_n 1, 1) := by decide +kernel
theorem dX8_showsDigit_5 : decode cX8_showsDigit 5 = .ok (.iaload, 1) := by decide +kernel
theorem dX8_showsDigit_6 : decode cX8_showsDigit 6 = .ok (.ifCond .le 17, 3) := by decide +kernel
theorem dX8_showsDigit_9 : decode cX8_showsDigit 9 = .ok (.aload_n 0, 1) := by decide +kernel
theorem dX8_showsDigit_10 : decode cX8_showsDigit 10 = .ok (.iload_n 1, 1) := by decide +kernel
theorem dX8_showsDigit_11 : decode cX8_showsDigit 11 = .ok (.iload_n 2, 1) := by decide +kernel
theorem dX8_showsDigit_12 : decode cX8_showsDigit 12 = .ok (.invokevirtual 79, 3) := by decide +kernel
theorem dX8_showsDigit_15 : decode cX8_showsDigit 15 = .ok (.iconst (-1), 1) := by decide +kernel
theorem dX8_showsDigit_16 : decode cX8_showsDigit 16 = .ok (.if_icmp .eq 7, 3) := by decide +kernel
theorem dX8_showsDigit_19 : decode cX8_showsDigit 19 = .ok (.iconst 1, 1) := by decide +kernel
theorem dX8_showsDigit_20 : decode cX8_showsDigit 20 = .ok (.goto 4, 3) := by decide +kernel
theorem dX8_showsDigit_23 : decode cX8_showsDigit 23 = .ok (.iconst 0, 1) := by decide +kernel
theorem dX8_showsDigit_24 : decode cX8_showsDigit 24 = .ok (.ireturn, 1) := by decide +kernel
theorem dX8_makeLoan_0 : decode cX8_makeLoan 0 = .ok (.aload_n 0, 1) := by decide +kernel
theorem dX8_makeLoan_1 : decode cX8_makeLoan 1 = .ok (.getfield 24, 3) := by decide +kernel
theorem dX8_makeLoan_4 : decode cX8_makeLoan 4 = .ok (.iload_n 1, 1) := by decide +kernel
theorem dX8_makeLoan_5 : decode cX8_makeLoan 5 = .ok (.dup2, 1) := by decide +kernel
theorem dX8_makeLoan_6 : decode cX8_makeLoan 6 = .ok (.iaload, 1) := by decide +kernel
theorem dX8_makeLoan_7 : decode cX8_makeLoan 7 = .ok (.iload_n 2, 1) := by decide +kernel
theorem dX8_makeLoan_8 : decode cX8_makeLoan 8 = .ok (.isub, 1) := by decide +kernel
theorem dX8_makeLoan_9 : decode cX8_makeLoan 9 = .ok (.iastore, 1) := by decide +kernel
theorem dX8_makeLoan_10 : decode cX8_makeLoan 10 = .ok (.aload_n 0, 1) := by decide +kernel
theorem dX8_makeLoan_11 : decode cX8_makeLoan 11 = .ok (.getfield 18, 3) := by decide +kernel
theorem dX8_makeLoan_14 : decode cX8_makeLoan 14 = .ok (.bipush 12, 2) := by decide +kernel
theorem dX8_makeLoan_16 : decode cX8_makeLoan 16 = .ok (.iload_n 1, 1) := by decide +kernel
theorem dX8_makeLoan_17 : decode cX8_makeLoan 17 = .ok (.iadd, 1) := by decide +kernel
theorem dX8_makeLoan_18 : decode cX8_makeLoan 18 = .ok (.dup2, 1) := by decide +kernel
theorem dX8_makeLoan_19 : decode cX8_makeLoan 19 = .ok (.iaload, 1) := by decide +kernel
theorem dX8_makeLoan_20 : decode cX8_makeLoan 20 = .ok (.iload_n 2, 1) := by decide +kernel
theorem dX8_makeLoan_21 : decode cX8_makeLoan 21 = .ok (.iadd, 1) := by decide +kernel
theorem dX8_makeLoan_22 : decode cX8_makeLoan 22 = .ok (.iastore, 1) := by decide +kernel
theorem dX8_makeLoan_23 : decode cX8_makeLoan 23 = .ok (.aload_n 0, 1) := by decide +kernel
theorem dX8_makeLoan_24 : decode cX8_makeLoan 24 = .ok (.getfield 27, 3) := by decide +kernel
theorem dX8_makeLoan_27 : decode cX8_makeLoan 27 = .ok (.aload_n 0, 1) := by decide +kernel
theorem dX8_makeLoan_28 : decode cX8_makeLoan 28 = .ok (.getfield 47, 3) := by decide +kernel
theorem dX8_makeLoan_31 : decode cX8_makeLoan 31 = .ok (.iload_n 1, 1) := by decide +kernel
theorem dX8_makeLoan_32 : decode cX8_makeLoan 32 = .ok (.iastore, 1) := by decide +kernel
theorem dX8_makeLoan_33 : decode cX8_makeLoan 33 = .ok (.aload_n 0, 1) := by decide +kernel
theorem dX8_makeLoan_34 : decode cX8_makeLoan 34 = .ok (.getfield 30, 3) := by decide +kernel
theorem dX8_makeLoan_37 : decode cX8_makeLoan 37 = .ok (.aload_n 0, 1) := by decide +kernel
theorem dX8_makeLoan_38 : decode cX8_makeLoan 38 = .ok (.getfield 47, 3) := by decide +kernel
theorem dX8_makeLoan_41 : decode cX8_makeLoan 41 = .ok (.iload_n 2, 1) := by decide +kernel
theorem dX8_makeLoan_42 : decode cX8_makeLoan 42 = .ok (.iastore, 1) := by decide +kernel
theorem dX8_makeLoan_43 : decode cX8_makeLoan 43 = .ok (.aload_n 0, 1) := by decide +kernel
theorem dX8_makeLoan_44 : decode cX8_makeLoan 44 = .ok (.getfield 33, 3) := by decide +kernel
theorem dX8_makeLoan_47 : decode cX8_makeLoan 47 = .ok (.aload_n 0, 1) := by decide +kernel
theorem dX8_makeLoan_48 : decode cX8_makeLoan 48 = .ok (.getfield 47, 3) := by decide +kernel
theorem dX8_makeLoan_51 : decode cX8_makeLoan 51 = .ok (.aload_n 0, 1) := by decide +kernel
theorem dX8_makeLoan_52 : decode cX8_makeLoan 52 = .ok (.getfield 21, 3) := by decide +kernel
theorem dX8_makeLoan_55 : decode cX8_makeLoan 55 = .ok (.iload_n 1, 1) := by decide +kernel
theorem dX8_makeLoan_56 : decode cX8_makeLoan 56 = .ok (.bipush 10, 2) := by decide +kernel
theorem dX8_makeLoan_58 : decode cX8_makeLoan 58 = .ok (.idiv, 1) := by decide +kernel
theorem dX8_makeLoan_59 : decode cX8_makeLoan 59 = .ok (.iaload, 1) := by decide +kernel
theorem dX8_makeLoan_60 : decode cX8_makeLoan 60 = .ok (.iastore, 1) := by decide +kernel
theorem dX8_makeLoan_61 : decode cX8_makeLoan 61 = .ok (.aload_n 0, 1) := by decide +kernel
theorem dX8_makeLoan_62 : decode cX8_makeLoan 62 = .ok (.dup, 1) := by decide +kernel
theorem dX8_makeLoan_63 : decode cX8_makeLoan 63 = .ok (.getfield 47, 3) := by decide +kernel
theorem dX8_makeLoan_66 : decode cX8_makeLoan 66 = .ok (.iconst 1, 1) := by decide +kernel
theorem dX8_makeLoan_67 : decode cX8_makeLoan 67 = .ok (.iadd, 1) := by decide +kernel
theorem dX8_makeLoan_68 : decode cX8_makeLoan 68 = .ok (.putfield 47, 3) := by decide +kernel
theorem dX8_makeLoan_71 : decode cX8_makeLoan 71 = .ok (.aload_n 0, 1) := by decide +kernel
theorem dX8_makeLoan_72 : decode cX8_makeLoan 72 = .ok (.getfield 47, 3) := by decide +kernel
theorem dX8_makeLoan_75 : decode cX8_makeLoan 75 = .ok (.iconst 1, 1) := by decide +kernel
theorem dX8_makeLoan_76 : decode cX8_makeLoan 76 = .ok (.isub, 1) := by decide +kernel
theorem dX8_makeLoan_77 : decode cX8_makeLoan 77 = .ok (.ireturn, 1) := by decide +kernel
theorem dX8_endLoan_0 : decode cX8_endLoan 0 = .ok (.aload_n 0, 1) := by decide +kernel
theorem dX8_endLoan_1 : decode cX8_endLoan 1 = .ok (.getfield 27, 3) := by decide +kernel
theorem dX8_endLoan_4 : decode cX8_endLoan 4 = .ok (.iload_n 1, 1) := by decide +kernel
theorem dX8_endLoan_5 : decode cX8_endLoan 5 = .ok (.iaload, 1) := by decide +kernel
theorem dX8_endLoan_6 : decode cX8_endLoan 6 = .ok (.istore_n 2, 1) := by decide +kernel
theorem dX8_endLoan_7 : decode cX8_endLoan 7 = .ok (.aload_n 0, 1) := by decide +kernel
theorem dX8_endLoan_8 : decode cX8_endLoan 8 = .ok (.getfield 24, 3) := by decide +kernel
theorem dX8_endLoan_11 : decode cX8_endLoan 11 = .ok (.iload_n 2, 1) := by decide +kernel
theorem dX8_endLoan_12 : decode cX8_endLoan 12 = .ok (.dup2, 1) := by decide +kernel
theorem dX8_endLoan_13 : decode cX8_endLoan 13 = .ok (.iaload, 1) := by decide +kernel
theorem dX8_endLoan_14 : decode cX8_endLoan 14 = .ok (.aload_n 0, 1) := by decide +kernel
theorem dX8_endLoan_15 : decode cX8_endLoan 15 = .ok (.getfield 30, 3) := by decide +kernel
theorem dX8_endLoan_18 : decode cX8_endLoan 18 = .ok (.iload_n 1, 1) := by decide +kernel
theorem dX8_endLoan_19 : decode cX8_endLoan 19 = .ok (.iaload, 1) := by decide +kernel
theorem dX8_endLoan_20 : decode cX8_endLoan 20 = .ok (.iadd, 1) := by decide +kernel
theorem dX8_endLoan_21 : decode cX8_endLoan 21 = .ok (.iastore, 1) := by decide +kernel
theorem dX8_endLoan_22 : decode cX8_endLoan 22 = .ok (.aload_n 0, 1) := by decide +kernel
theorem dX8_endLoan_23 : decode cX8_endLoan 23 = .ok (.getfield 18, 3) := by decide +kernel
theorem dX8_endLoan_26 : decode cX8_endLoan 26 = .ok (.bipush 12, 2) := by decide +kernel
theorem dX8_endLoan_28 : decode cX8_endLoan 28 = .ok (.iload_n 2, 1) := by decide +kernel
theorem dX8_endLoan_29 : decode cX8_endLoan 29 = .ok (.iadd, 1) := by decide +kernel
theorem dX8_endLoan_30 : decode cX8_endLoan 30 = .ok (.dup2, 1) := by decide +kernel
theorem dX8_endLoan_31 : decode cX8_endLoan 31 = .ok (.iaload, 1) := by decide +kernel
theorem dX8_endLoan_32 : decode cX8_endLoan 32 = .ok (.aload_n 0, 1) := by decide +kernel
theorem dX8_endLoan_33 : decode cX8_endLoan 33 = .ok (.getfield 30, 3) := by decide +kernel
theorem dX8_endLoan_36 : decode cX8_endLoan 36 = .ok (.iload_n 1, 1) := by decide +kernel
theorem dX8_endLoan_37 : decode cX8_endLoan 37 = .ok (.iaload, 1) := by decide +kernel
theorem dX8_endLoan_38 : decode cX8_endLoan 38 = .ok (.isub, 1) := by decide +kernel
theorem dX8_endLoan_39 : decode cX8_endLoan 39 = .ok (.iastore, 1) := by decide +kernel
theorem dX8_endLoan_40 : decode cX8_endLoan 40 = .ok (.aload_n 0, 1) := by decide +kernel
theorem dX8_endLoan_41 : decode cX8_endLoan 41 = .ok (.dup, 1) := by decide +kernel
theorem dX8_endLoan_42 : decode cX8_endLoan 42 = .ok (.getfield 47, 3) := by decide +kernel
theorem dX8_endLoan_45 : decode cX8_endLoan 45 = .ok (.iconst 1, 1) := by decide +kernel
theorem dX8_endLoan_46 : decode cX8_endLoan 46 = .ok (.isub, 1) := by decide +kernel
theorem dX8_endLoan_47 : decode cX8_endLoan 47 = .ok (.putfield 47, 3) := by decide +kernel
theorem dX8_endLoan_50 : decode cX8_endLoan 50 = .ok (.iload_n 1, 1) := by decide +kernel
theorem dX8_endLoan_51 : decode cX8_endLoan 51 = .ok (.istore_n 3, 1) := by decide +kernel
theorem dX8_endLoan_52 : decode cX8_endLoan 52 = .ok (.iload_n 3, 1) := by decide +kernel
theorem dX8_endLoan_53 : decode cX8_endLoan 53 = .ok (.aload_n 0, 1) := by decide +kernel
theorem dX8_endLoan_54 : decode cX8_endLoan 54 = .ok (.getfield 47, 3) := by decide +kernel
theorem dX8_endLoan_57 : decode cX8_endLoan 57 = .ok (.if_icmp .ge 51, 3) := by decide +kernel
theorem dX8_endLoan_60 : decode cX8_endLoan 60 = .ok (.aload_n 0, 1) := by decide +kernel
theorem dX8_endLoan_61 : decode cX8_endLoan 61 = .ok (.getfield 27, 3) := by decide +kernel
theorem dX8_endLoan_64 : decode cX8_endLoan 64 = .ok (.iload_n 3, 1) := by decide +kernel
theorem dX8_endLoan_65 : decode cX8_endLoan 65 = .ok (.aload_n 0, 1) := by decide +kernel
theorem dX8_endLoan_66 : decode cX8_endLoan 66 = .ok (.getfield 27, 3) := by decide +kernel
theorem dX8_endLoan_69 : decode cX8_endLoan 69 = .ok (.iload_n 3, 1) := by decide +kernel
theorem dX8_endLoan_70 : decode cX8_endLoan 70 = .ok (.iconst 1, 1) := by decide +kernel
theorem dX8_endLoan_71 : decode cX8_endLoan 71 = .ok (.iadd, 1) := by decide +kernel
theorem dX8_endLoan_72 : decode cX8_endLoan 72 = .ok (.iaload, 1) := by decide +kernel
theorem dX8_endLoan_73 : decode cX8_endLoan 73 = .ok (.iastore, 1) := by decide +kernel
theorem dX8_endLoan_74 : decode cX8_endLoan 74 = .ok (.aload_n 0, 1) := by decide +kernel
theorem dX8_endLoan_75 : decode cX8_endLoan 75 = .ok (.getfield 30, 3) := by decide +kernel
theorem dX8_endLoan_78 : decode cX8_endLoan 78 = .ok (.iload_n 3, 1) := by decide +kernel
theorem dX8_endLoan_79 : decode cX8_endLoan 79 = .ok (.aload_n 0, 1) := by decide +kernel
theorem dX8_endLoan_80 : decode cX8_endLoan 80 = .ok (.getfield 30, 3) := by decide +kernel
theorem dX8_endLoan_83 : decode cX8_endLoan 83 = .ok (.iload_n 3, 1) := by decide +kernel
theorem dX8_endLoan_84 : decode cX8_endLoan 84 = .ok (.iconst 1, 1) := by decide +kernel
theorem dX8_endLoan_85 : decode cX8_endLoan 85 = .ok (.iadd, 1) := by decide +kernel
theorem dX8_endLoan_86 : decode cX8_endLoan 86 = .ok (.iaload, 1) := by decide +kernel
theorem dX8_endLoan_87 : decode cX8_endLoan 87 = .ok (.iastore, 1) := by decide +kernel
theorem dX8_endLoan_88 : decode cX8_endLoan 88 = .ok (.aload_n 0, 1) := by decide +kernel
theorem dX8_endLoan_89 : decode cX8_endLoan 89 = .ok (.getfield 33, 3) := by decide +kernel
theorem dX8_endLoan_92 : decode cX8_endLoan 92 = .ok (.iload_n 3, 1) := by decide +kernel
theorem dX8_endLoan_93 : decode cX8_endLoan 93 = .ok (.aload_n 0, 1) := by decide +kernel
theorem dX8_endLoan_94 : decode cX8_endLoan 94 = .ok (.getfield 33, 3) := by decide +kernel
theorem dX8_endLoan_97 : decode cX8_endLoan 97 = .ok (.iload_n 3, 1) := by decide +kernel
theorem dX8_endLoan_98 : decode cX8_endLoan 98 = .ok (.iconst 1, 1) := by decide +kernel
theorem dX8_endLoan_99 : decode cX8_endLoan 99 = .ok (.iadd, 1) := by decide +kernel
theorem dX8_endLoan_100 : decode cX8_endLoan 100 = .ok (.iaload, 1) := by decide +kernel
theorem dX8_endLoan_101 : decode cX8_endLoan 101 = .ok (.iastore, 1) := by decide +kernel
theorem dX8_endLoan_102 : decode cX8_endLoan 102 = .ok (.iinc 3 1, 3) := by decide +kernel
theorem dX8_endLoan_105 : decode cX8_endLoan 105 = .ok (.goto (-53), 3) := by decide +kernel
theorem dX8_endLoan_108 : decode cX8_endLoan 108 = .ok (.return_, 1) := by decide +kernel
theorem dX8_passService_0 : decode cX8_passService 0 = .ok (.aload_n 0, 1) := by decide +kernel
theorem dX8_passService_1 : decode cX8_passService 1 = .ok (.getfield 47, 3) := by decide +kernel
theorem dX8_passService_4 : decode cX8_passService 4 = .ok (.iconst 1, 1) := by decide +kernel
theorem dX8_passService_5 : decode cX8_passService 5 = .ok (.isub, 1) := by decide +kernel
theorem dX8_passService_6 : decode cX8_passService 6 = .ok (.istore_n 1, 1) := by decide +kernel
theorem dX8_passService_7 : decode cX8_passService 7 = .ok (.iload_n 1, 1) := by decide +kernel
theorem dX8_passService_8 : decode cX8_passService 8 = .ok (.ifCond .lt 33, 3) := by decide +kernel
theorem dX8_passService_11 : decode cX8_passService 11 = .ok (.aload_n 0, 1) := by decide +kernel
theorem dX8_passService_12 : decode cX8_passService 12 = .ok (.getfield 33, 3) := by decide +kernel
theorem dX8_passService_15 : decode cX8_passService 15 = .ok (.iload_n 1, 1) := by decide +kernel
theorem dX8_passService_16 : decode cX8_passService 16 = .ok (.dup2, 1) := by decide +kernel
theorem dX8_passService_17 : decode cX8_passService 17 = .ok (.iaload, 1) := by decide +kernel
theorem dX8_passService_18 : decode cX8_passService 18 = .ok (.iconst 1, 1) := by decide +kernel
theorem dX8_passService_19 : decode cX8_passService 19 = .ok (.isub, 1) := by decide +kernel
theorem dX8_passService_20 : decode cX8_passService 20 = .ok (.iastore, 1) := by decide +kernel
theorem dX8_passService_21 : decode cX8_passService 21 = .ok (.aload_n 0, 1) := by decide +kernel
theorem dX8_passService_22 : decode cX8_passService 22 = .ok (.getfield 33, 3) := by decide +kernel
theorem dX8_passService_25 : decode cX8_passService 25 = .ok (.iload_n 1, 1) := by decide +kernel
theorem dX8_passService_26 : decode cX8_passService 26 = .ok (.iaload, 1) := by decide +kernel
theorem dX8_passService_27 : decode cX8_passService 27 = .ok (.ifCond .ne 8, 3) := by decide +kernel
theorem dX8_passService_30 : decode cX8_passService 30 = .ok (.aload_n 0, 1) := by decide +kernel
theorem dX8_passService_31 : decode cX8_passService 31 = .ok (.iload_n 1, 1) := by decide +kernel
theorem dX8_passService_32 : decode cX8_passService 32 = .ok (.invokevirtual 83, 3) := by decide +kernel
theorem dX8_passService_35 : decode cX8_passService 35 = .ok (.iinc 1 (-1), 3) := by decide +kernel
theorem dX8_passService_38 : decode cX8_passService 38 = .ok (.goto (-31), 3) := by decide +kernel
theorem dX8_passService_41 : decode cX8_passService 41 = .ok (.return_, 1) := by decide +kernel
theorem dX8_endingOf_0 : decode cX8_endingOf 0 = .ok (.iconst 0, 1) := by decide +kernel
theorem dX8_endingOf_1 : decode cX8_endingOf 1 = .ok (.istore_n 2, 1) := by decide +kernel
theorem dX8_endingOf_2 : decode cX8_endingOf 2 = .ok (.iconst 0, 1) := by decide +kernel
theorem dX8_endingOf_3 : decode cX8_endingOf 3 = .ok (.istore_n 3, 1) := by decide +kernel
theorem dX8_endingOf_4 : decode cX8_endingOf 4 = .ok (.iload_n 3, 1) := by decide +kernel
theorem dX8_endingOf_5 : decode cX8_endingOf 5 = .ok (.aload_n 0, 1) := by decide +kernel
theorem dX8_endingOf_6 : decode cX8_endingOf 6 = .ok (.getfield 47, 3) := by decide +kernel
theorem dX8_endingOf_9 : decode cX8_endingOf 9 = .ok (.if_icmp .ge 38, 3) := by decide +kernel
theorem dX8_endingOf_12 : decode cX8_endingOf 12 = .ok (.aload_n 0, 1) := by decide +kernel
theorem dX8_endingOf_13 : decode cX8_endingOf 13 = .ok (.getfield 27, 3) := by decide +kernel
theorem dX8_endingOf_16 : decode cX8_endingOf 16 = .ok (.iload_n 3, 1) := by decide +kernel
theorem dX8_endingOf_17 : decode cX8_endingOf 17 = .ok (.iaload, 1) := by decide +kernel
theorem dX8_endingOf_18 : decode cX8_endingOf 18 = .ok (.iload_n 1, 1) := by decide +kernel
theorem dX8_endingOf_19 : decode cX8_endingOf 19 = .ok (.if_icmp .ne 22, 3) := by decide +kernel
theorem dX8_endingOf_22 : decode cX8_endingOf 22 = .ok (.aload_n 0, 1) := by decide +kernel
theorem dX8_endingOf_23 : decode cX8_endingOf 23 = .ok (.getfield 33, 3) := by decide +kernel
theorem dX8_endingOf_26 : decode cX8_endingOf 26 = .ok (.iload_n 3, 1) := by decide +kernel
theorem dX8_endingOf_27 : decode cX8_endingOf 27 = .ok (.iaload, 1) := by decide +kernel
theorem dX8_endingOf_28 : decode cX8_endingOf 28 = .ok (.iconst 1, 1) := by decide +kernel
theorem dX8_endingOf_29 : decode cX8_endingOf 29 = .ok (.if_icmp .ne 12, 3) := by decide +kernel
theorem dX8_endingOf_32 : decode cX8_endingOf 32 = .ok (.iload_n 2, 1) := by decide +kernel
theorem dX8_endingOf_33 : decode cX8_endingOf 33 = .ok (.aload_n 0, 1) := by decide +kernel
theorem dX8_endingOf_34 : decode cX8_endingOf 34 = .ok (.getfield 30, 3) := by decide +kernel
theorem dX8_endingOf_37 : decode cX8_endingOf 37 = .ok (.iload_n 3, 1) := by decide +kernel
theorem dX8_endingOf_38 : decode cX8_endingOf 38 = .ok (.iaload, 1) := by decide +kernel
theorem dX8_endingOf_39 : decode cX8_endingOf 39 = .ok (.iadd, 1) := by decide +kernel
theorem dX8_endingOf_40 : decode cX8_endingOf 40 = .ok (.istore_n 2, 1) := by decide +kernel
theorem dX8_endingOf_41 : decode cX8_endingOf 41 = .ok (.iinc 3 1, 3) := by decide +kernel
theorem dX8_endingOf_44 : decode cX8_endingOf 44 = .ok (.goto (-40), 3) := by decide +kernel
theorem dX8_endingOf_47 : decode cX8_endingOf 47 = .ok (.iload_n 2, 1) := by decide +kernel
theorem dX8_endingOf_48 : decode cX8_endingOf 48 = .ok (.ireturn, 1) := by decide +kernel
