theorem dJ0_init_81219_0 : decode cJ0_init_81219 0 = .ok (.aload_n 0, 1) := by decide +kernel
theorem dJ0_init_81219_1 : decode cJ0_init_81219 1 = .ok (.aload_n 1, 1) := by decide +kernel
theorem dJ0_init_81219_2 : decode cJ0_init_81219 2 = .ok (.aconst_null, 1) := by decide +kernel
theorem dJ0_init_81219_3 : decode cJ0_init_81219 3 = .ok (.invokespecial 489, 3) := by decide +kernel
theorem dJ0_init_81219_6 : decode cJ0_init_81219 6 = .ok (.return_, 1) := by decide +kernel
theorem dJ0_length_8abf5_0 : decode cJ0_length_8abf5 0 = .ok (.aload_n 0, 1) := by decide +kernel
theorem dJ0_length_8abf5_1 : decode cJ0_length_8abf5 1 = .ok (.getfield 9, 3) := by decide +kernel
theorem dJ0_length_8abf5_4 : decode cJ0_length_8abf5 4 = .ok (.arraylength, 1) := by decide +kernel
theorem dJ0_length_8abf5_5 : decode cJ0_length_8abf5 5 = .ok (.aload_n 0, 1) := by decide +kernel
theorem dJ0_length_8abf5_6 : decode cJ0_length_8abf5 6 = .ok (.invokevirtual 335, 3) := by decide +kernel
theorem dJ0_length_8abf5_9 : decode cJ0_length_8abf5 9 = .ok (.ishr, 1) := by decide +kernel
theorem dJ0_length_8abf5_10 : decode cJ0_length_8abf5 10 = .ok (.ireturn, 1) := by decide +kernel
theorem dJ0_charAt_5068e_0 : decode cJ0_charAt_5068e 0 = .ok (.aload_n 0, 1) := by decide +kernel
theorem dJ0_charAt_5068e_1 : decode cJ0_charAt_5068e 1 = .ok (.invokevirtual 492, 3) := by decide +kernel
theorem dJ0_charAt_5068e_4 : decode cJ0_charAt_5068e 4 = .ok (.ifCond .eq 12, 3) := by decide +kernel
theorem dJ0_charAt_5068e_7 : decode cJ0_charAt_5068e 7 = .ok (.aload_n 0, 1) := by decide +kernel
theorem dJ0_charAt_5068e_8 : decode cJ0_charAt_5068e 8 = .ok (.getfield 9, 3) := by decide +kernel
theorem dJ0_charAt_5068e_11 : decode cJ0_charAt_5068e 11 = .ok (.iload_n 1, 1) := by decide +kernel
theorem dJ0_charAt_5068e_12 : decode cJ0_charAt_5068e 12 = .ok (.invokestatic 495, 3) := by decide +kernel
theorem dJ0_charAt_5068e_15 : decode cJ0_charAt_5068e 15 = .ok (.ireturn, 1) := by decide +kernel
theorem dJ0_charAt_5068e_16 : decode cJ0_charAt_5068e 16 = .ok (.aload_n 0, 1) := by decide +kernel
theorem dJ0_charAt_5068e_17 : decode cJ0_charAt_5068e 17 = .ok (.getfield 9, 3) := by decide +kernel
theorem dJ0_charAt_5068e_20 : decode cJ0_charAt_5068e 20 = .ok (.iload_n 1, 1) := by decide +kernel
theorem dJ0_charAt_5068e_21 : decode cJ0_charAt_5068e 21 = .ok (.invokestatic 498, 3) := by decide +kernel
theorem dJ0_charAt_5068e_24 : decode cJ0_charAt_5068e 24 = .ok (.ireturn, 1) := by decide +kernel
theorem dJ0_getBytes_840e7_0 : decode cJ0_getBytes_840e7 0 = .ok (.aload_n 0, 1) := by decide +kernel
theorem dJ0_getBytes_840e7_1 : decode cJ0_getBytes_840e7 1 = .ok (.invokevirtual 335, 3) := by decide +kernel
theorem dJ0_getBytes_840e7_4 : decode cJ0_getBytes_840e7 4 = .ok (.iload_n 3, 1) := by decide +kernel
theorem dJ0_getBytes_840e7_5 : decode cJ0_getBytes_840e7 5 = .ok (.if_icmp .ne 23, 3) := by decide +kernel
theorem dJ0_getBytes_840e7_8 : decode cJ0_getBytes_840e7 8 = .ok (.aload_n 0, 1) := by decide +kernel
theorem dJ0_getBytes_840e7_9 : decode cJ0_getBytes_840e7 9 = .ok (.getfield 9, 3) := by decide +kernel
theorem dJ0_getBytes_840e7_12 : decode cJ0_getBytes_840e7 12 = .ok (.iconst 0, 1) := by decide +kernel
theorem dJ0_getBytes_840e7_13 : decode cJ0_getBytes_840e7 13 = .ok (.aload_n 1, 1) := by decide +kernel
theorem dJ0_getBytes_840e7_14 : decode cJ0_getBytes_840e7 14 = .ok (.iload_n 2, 1) := by decide +kernel
theorem dJ0_getBytes_840e7_15 : decode cJ0_getBytes_840e7 15 = .ok (.iload_n 3, 1) := by decide +kernel
theorem dJ0_getBytes_840e7_16 : decode cJ0_getBytes_840e7 16 = .ok (.ishl, 1) := by decide +kernel
theorem dJ0_getBytes_840e7_17 : decode cJ0_getBytes_840e7 17 = .ok (.aload_n 0, 1) := by decide +kernel
theorem dJ0_getBytes_840e7_18 : decode cJ0_getBytes_840e7 18 = .ok (.getfield 9, 3) := by decide +kernel
theorem dJ0_getBytes_840e7_21 : decode cJ0_getBytes_840e7 21 = .ok (.arraylength, 1) := by decide +kernel
theorem dJ0_getBytes_840e7_22 : decode cJ0_getBytes_840e7 22 = .ok (.invokestatic 212, 3) := by decide +kernel
theorem dJ0_getBytes_840e7_25 : decode cJ0_getBytes_840e7 25 = .ok (.goto 18, 3) := by decide +kernel
theorem dJ0_getBytes_840e7_28 : decode cJ0_getBytes_840e7 28 = .ok (.aload_n 0, 1) := by decide +kernel
theorem dJ0_getBytes_840e7_29 : decode cJ0_getBytes_840e7 29 = .ok (.getfield 9, 3) := by decide +kernel
theorem dJ0_getBytes_840e7_32 : decode cJ0_getBytes_840e7 32 = .ok (.iconst 0, 1) := by decide +kernel
theorem dJ0_getBytes_840e7_33 : decode cJ0_getBytes_840e7 33 = .ok (.aload_n 1, 1) := by decide +kernel
theorem dJ0_getBytes_840e7_34 : decode cJ0_getBytes_840e7 34 = .ok (.iload_n 2, 1) := by decide +kernel
theorem dJ0_getBytes_840e7_35 : decode cJ0_getBytes_840e7 35 = .ok (.aload_n 0, 1) := by decide +kernel
theorem dJ0_getBytes_840e7_36 : decode cJ0_getBytes_840e7 36 = .ok (.getfield 9, 3) := by decide +kernel
theorem dJ0_getBytes_840e7_39 : decode cJ0_getBytes_840e7 39 = .ok (.arraylength, 1) := by decide +kernel
theorem dJ0_getBytes_840e7_40 : decode cJ0_getBytes_840e7 40 = .ok (.invokestatic 106, 3) := by decide +kernel
theorem dJ0_getBytes_840e7_43 : decode cJ0_getBytes_840e7 43 = .ok (.return_, 1) := by decide +kernel
theorem dJ0_init_db425_0 : decode cJ0_init_db425 0 = .ok (.aload_n 0, 1) := by decide +kernel
theorem dJ0_init_db425_1 : decode cJ0_init_db425 1 = .ok (.invokespecial 1, 3) := by decide +kernel
theorem dJ0_init_db425_4 : decode cJ0_init_db425 4 = .ok (.aload_n 1, 1) := by decide +kernel
theorem dJ0_init_db425_5 : decode cJ0_init_db425 5 = .ok (.invokevirtual 552, 3) := by decide +kernel
theorem dJ0_init_db425_8 : decode cJ0_init_db425 8 = .ok (.astore_n 3, 1) := by decide +kernel
theorem dJ0_init_db425_9 : decode cJ0_init_db425 9 = .ok (.aload_n 1, 1) := by decide +kernel
theorem dJ0_init_db425_10 : decode cJ0_init_db425 10 = .ok (.invokevirtual 549, 3) := by decide +kernel
theorem dJ0_init_db425_13 : decode cJ0_init_db425 13 = .ok (.istore 4, 2) := by decide +kernel
theorem dJ0_init_db425_15 : decode cJ0_init_db425 15 = .ok (.aload_n 1, 1) := by decide +kernel
theorem dJ0_init_db425_16 : decode cJ0_init_db425 16 = .ok (.invokevirtual 1047, 3) := by decide +kernel
theorem dJ0_init_db425_19 : decode cJ0_init_db425 19 = .ok (.ifCond .eq 22, 3) := by decide +kernel
theorem dJ0_init_db425_22 : decode cJ0_init_db425 22 = .ok (.aload_n 0, 1) := by decide +kernel
theorem dJ0_init_db425_23 : decode cJ0_init_db425 23 = .ok (.iconst 0, 1) := by decide +kernel
theorem dJ0_init_db425_24 : decode cJ0_init_db425 24 = .ok (.putfield 15, 3) := by decide +kernel
theorem dJ0_init_db425_27 : decode cJ0_init_db425 27 = .ok (.aload_n 0, 1) := by decide +kernel
theorem dJ0_init_db425_28 : decode cJ0_init_db425 28 = .ok (.aload_n 3, 1) := by decide +kernel
theorem dJ0_init_db425_29 : decode cJ0_init_db425 29 = .ok (.iconst 0, 1) := by decide +kernel
theorem dJ0_init_db425_30 : decode cJ0_init_db425 30 = .ok (.iload 4, 2) := by decide +kernel
theorem dJ0_init_db425_32 : decode cJ0_init_db425 32 = .ok (.invokestatic 54, 3) := by decide +kernel
theorem dJ0_init_db425_35 : decode cJ0_init_db425 35 = .ok (.putfield 9, 3) := by decide +kernel
theorem dJ0_init_db425_38 : decode cJ0_init_db425 38 = .ok (.goto 59, 3) := by decide +kernel
theorem dJ0_init_db425_41 : decode cJ0_init_db425 41 = .ok (.getstatic 38, 3) := by decide +kernel
theorem dJ0_init_db425_44 : decode cJ0_init_db425 44 = .ok (.ifCond .eq 35, 3) := by decide +kernel
theorem dJ0_init_db425_47 : decode cJ0_init_db425 47 = .ok (.aload_n 1, 1) := by decide +kernel
theorem dJ0_init_db425_48 : decode cJ0_init_db425 48 = .ok (.getfield 1048, 3) := by decide +kernel
theorem dJ0_init_db425_51 : decode cJ0_init_db425 51 = .ok (.ifCond .eq 28, 3) := by decide +kernel
theorem dJ0_init_db425_54 : decode cJ0_init_db425 54 = .ok (.aload_n 0, 1) := by decide +kernel
theorem dJ0_init_db425_55 : decode cJ0_init_db425 55 = .ok (.aload_n 3, 1) := by decide +kernel
theorem dJ0_init_db425_56 : decode cJ0_init_db425 56 = .ok (.iconst 0, 1) := by decide +kernel
theorem dJ0_init_db425_57 : decode cJ0_init_db425 57 = .ok (.iload 4, 2) := by decide +kernel
theorem dJ0_init_db425_59 : decode cJ0_init_db425 59 = .ok (.invokestatic 1051, 3) := by decide +kernel
theorem dJ0_init_db425_62 : decode cJ0_init_db425 62 = .ok (.putfield 9, 3) := by decide +kernel
theorem dJ0_init_db425_65 : decode cJ0_init_db425 65 = .ok (.aload_n 0, 1) := by decide +kernel
theorem dJ0_init_db425_66 : decode cJ0_init_db425 66 = .ok (.aload_n 0, 1) := by decide +kernel
theorem dJ0_init_db425_67 : decode cJ0_init_db425 67 = .ok (.getfield 9, 3) := by decide +kernel
theorem dJ0_init_db425_70 : decode cJ0_init_db425 70 = .ok (.iload 4, 2) := by decide +kernel
theorem dJ0_init_db425_72 : decode cJ0_init_db425 72 = .ok (.invokestatic 47, 3) := by decide +kernel
theorem dJ0_init_db425_75 : decode cJ0_init_db425 75 = .ok (.putfield 15, 3) := by decide +kernel
theorem dJ0_init_db425_78 : decode cJ0_init_db425 78 = .ok (.return_, 1) := by decide +kernel
theorem dJ0_init_db425_79 : decode cJ0_init_db425 79 = .ok (.aload_n 0, 1) := by decide +kernel
theorem dJ0_init_db425_80 : decode cJ0_init_db425 80 = .ok (.iconst 1, 1) := by decide +kernel
theorem dJ0_init_db425_81 : decode cJ0_init_db425 81 = .ok (.putfield 15, 3) := by decide +kernel
theorem dJ0_init_db425_84 : decode cJ0_init_db425 84 = .ok (.aload_n 0, 1) := by decide +kernel
theorem dJ0_init_db425_85 : decode cJ0_init_db425 85 = .ok (.aload_n 3, 1) := by decide +kernel
theorem dJ0_init_db425_86 : decode cJ0_init_db425 86 = .ok (.iconst 0, 1) := by decide +kernel
theorem dJ0_init_db425_87 : decode cJ0_init_db425 87 = .ok (.iload 4, 2) := by decide +kernel
theorem dJ0_init_db425_89 : decode cJ0_init_db425 89 = .ok (.iconst 1, 1) := by decide +kernel
theorem dJ0_init_db425_90 : decode cJ0_init_db425 90 = .ok (.ishl, 1) := by decide +kernel
theorem dJ0_init_db425_91 : decode cJ0_init_db425 91 = .ok (.invokestatic 54, 3) := by decide +kernel
theorem dJ0_init_db425_94 : decode cJ0_init_db425 94 = .ok (.putfield 9, 3) := by decide +kernel
theorem dJ0_init_db425_97 : decode cJ0_init_db425 97 = .ok (.return_, 1) := by decide +kernel
theorem dJ0_coder_7d493_0 : decode cJ0_coder_7d493 0 = .ok (.getstatic 38, 3) := by decide +kernel
theorem dJ0_coder_7d493_3 : decode cJ0_coder_7d493 3 = .ok (.ifCond .eq 10, 3) := by decide +kernel
theorem dJ0_coder_7d493_6 : decode cJ0_coder_7d493 6 = .ok (.aload_n 0, 1) := by decide +kernel
theorem dJ0_coder_7d493_7 : decode cJ0_coder_7d493 7 = .ok (.getfield 15, 3) := by decide +kernel
theorem dJ0_coder_7d493_10 : decode cJ0_coder_7d493 10 = .ok (.goto 4, 3) := by decide +kernel
theorem dJ0_coder_7d493_13 : decode cJ0_coder_7d493 13 = .ok (.iconst 1, 1) := by decide +kernel
theorem dJ0_coder_7d493_14 : decode cJ0_coder_7d493 14 = .ok (.ireturn, 1) := by decide +kernel
theorem dJ0_isLatin1_aae02_0 : decode cJ0_isLatin1_aae02 0 = .ok (.getstatic 38, 3) := by decide +kernel
theorem dJ0_isLatin1_aae02_3 : decode cJ0_isLatin1_aae02 3 = .ok (.ifCond .eq 14, 3) := by decide +kernel
theorem dJ0_isLatin1_aae02_6 : decode cJ0_isLatin1_aae02 6 = .ok (.aload_n 0, 1) := by decide +kernel
theorem dJ0_isLatin1_aae02_7 : decode cJ0_isLatin1_aae02 7 = .ok (.getfield 15, 3) := by decide +kernel
theorem dJ0_isLatin1_aae02_10 : decode cJ0_isLatin1_aae02 10 = .ok (.ifCond .ne 7, 3) := by decide +kernel
theorem dJ0_isLatin1_aae02_13 : decode cJ0_isLatin1_aae02 13 = .ok (.iconst 1, 1) := by decide +kernel
theorem dJ0_isLatin1_aae02_14 : decode cJ0_isLatin1_aae02 14 = .ok (.goto 4, 3) := by decide +kernel
theorem dJ0_isLatin1_aae02_17 : decode cJ0_isLatin1_aae02 17 = .ok (.iconst 0, 1) := by decide +kernel
theorem dJ0_isLatin1_aae02_18 : decode cJ0_isLatin1_aae02 18 = .ok (.ireturn, 1) := by decide +kernel
theorem dJ0_checkIndex_df160_0 : decode cJ0_checkIndex_df160 0 = .ok (.iload_n 0, 1) := by decide +kernel
theorem dJ0_checkIndex_df160_1 : decode cJ0_checkIndex_df160 1 = .ok (.iload_n 1, 1) := by decide +kernel
theorem dJ0_checkIndex_df160_2 : decode cJ0_checkIndex_df160 2 = .ok (.getstatic 1053, 3) := by decide +kernel
theorem dJ0_checkIndex_df160_5 : decode cJ0_checkIndex_df160 5 = .ok (.invokestatic 1059, 3) := by decide +kernel
theorem dJ0_checkIndex_df160_8 : decode cJ0_checkIndex_df160 8 = .ok (.pop, 1) := by decide +kernel
theorem dJ0_checkIndex_df160_9 : decode cJ0_checkIndex_df160 9 = .ok (.return_, 1) := by decide +kernel
theorem dJ0_checkBoundsOffCount_cabcc_0 : decode cJ0_checkBoundsOffCount_cabcc 0 = .ok (.iload_n 0, 1) := by decide +kernel
theorem dJ0_checkBoundsOffCount_cabcc_1 : decode cJ0_checkBoundsOffCount_cabcc 1 = .ok (.iload_n 1, 1) := by decide +kernel
theorem dJ0_checkBoundsOffCount_cabcc_2 : decode cJ0_checkBoundsOffCount_cabcc 2 = .ok (.iload_n 2, 1) := by decide +kernel
theorem dJ0_checkBoundsOffCount_cabcc_3 : decode cJ0_checkBoundsOffCount_cabcc 3 = .ok (.getstatic 1053, 3) := by decide +kernel
theorem dJ0_checkBoundsOffCount_cabcc_6 : decode cJ0_checkBoundsOffCount_cabcc 6 = .ok (.invokestatic 1065, 3) := by decide +kernel
theorem dJ0_checkBoundsOffCount_cabcc_9 : decode cJ0_checkBoundsOffCount_cabcc 9 = .ok (.ireturn, 1) := by decide +kernel
theorem dJ0_checkBoundsBeginEnd_23922_0 : decode cJ0_checkBoundsBeginEnd_23922 0 = .ok (.iload_n 0, 1) := by decide +kernel
theorem dJ0_checkBoundsBeginEnd_23922_1 : decode cJ0_checkBoundsBeginEnd_23922 1 = .ok (.iload_n 1, 1) := by decide +kernel
theorem dJ0_checkBoundsBeginEnd_23922_2 : decode cJ0_checkBoundsBeginEnd_23922 2 = .ok (.iload_n 2, 1) := by decide +kernel
theorem dJ0_checkBoundsBeginEnd_23922_3 : decode cJ0_checkBoundsBeginEnd_23922 3 = .ok (.getstatic 1053, 3) := by decide +kernel
theorem dJ0_checkBoundsBeginEnd_23922_6 : decode cJ0_checkBoundsBeginEnd_23922 6 = .ok (.invokestatic 1062, 3) := by decide +kernel
theorem dJ0_checkBoundsBeginEnd_23922_9 : decode cJ0_checkBoundsBeginEnd_23922 9 = .ok (.pop, 1) := by decide +kernel
theorem dJ0_checkBoundsBeginEnd_23922_10 : decode cJ0_checkBoundsBeginEnd_23922 10 = .ok (.return_, 1) := by decide +kernel
theorem dJ1_charAt_3b067_0 : decode cJ1_charAt_3b067 0 = .ok (.iload_n 1, 1) := by decide +kernel
theorem dJ1_charAt_3b067_1 : decode cJ1_charAt_3b067 1 = .ok (.aload_n 0, 1) := by decide +kernel
theorem dJ1_charAt_3b067_2 : decode cJ1_charAt_3b067 2 = .ok (.arraylength, 1) := by decide +kernel
theorem dJ1_charAt_3b067_3 : decode cJ1_charAt_3b067 3 = .ok (.invokestatic 9, 3) := by decide +kernel
theorem dJ1_charAt_3b067_6 : decode cJ1_charAt_3b067 6 = .ok (.aload_n 0, 1) := by decide +kernel
theorem dJ1_charAt_3b067_7 : decode cJ1_charAt_3b067 7 = .ok (.iload_n 1, 1) := by decide +kernel
theorem dJ1_charAt_3b067_8 : decode cJ1_charAt_3b067 8 = .ok (.baload, 1) := by decide +kernel
theorem dJ1_charAt_3b067_9 : decode cJ1_charAt_3b067 9 = .ok (.sipush 255, 3) := by decide +kernel
theorem dJ1_charAt_3b067_12 : decode cJ1_charAt_3b067 12 = .ok (.iand, 1) := by decide +kernel
theorem dJ1_charAt_3b067_13 : decode cJ1_charAt_3b067 13 = .ok (.i2c, 1) := by decide +kernel
theorem dJ1_charAt_3b067_14 : decode cJ1_charAt_3b067 14 = .ok (.ireturn, 1) := by decide +kernel
theorem dJ1_canEncode_fc78d_0 : decode cJ1_canEncode_fc78d 0 = .ok (.iload_n 0, 1) := by decide +kernel
theorem dJ1_canEncode_fc78d_1 : decode cJ1_canEncode_fc78d 1 = .ok (.sipush 255, 3) := by decide +kernel
theorem dJ1_canEncode_fc78d_4 : decode cJ1_canEncode_fc78d 4 = .ok (.if_icmp .gt 7, 3) := by decide +kernel
theorem dJ1_canEncode_fc78d_7 : decode cJ1_canEncode_fc78d 7 = .ok (.iconst 1, 1) := by decide +kernel
theorem dJ1_canEncode_fc78d_8 : decode cJ1_canEncode_fc78d 8 = .ok (.goto 4, 3) := by decide +kernel
theorem dJ1_canEncode_fc78d_11 : decode cJ1_canEncode_fc78d 11 = .ok (.iconst 0, 1) := by decide +kernel
theorem dJ1_canEncode_fc78d_12 : decode cJ1_canEncode_fc78d 12 = .ok (.ireturn, 1) := by decide +kernel
theorem dJ1_inflate_0e8fd_0 : decode cJ1_inflate_0e8fd 0 = .ok (.aload_n 0, 1) := by decide +kernel
theorem dJ1_inflate_0e8fd_1 : decode cJ1_inflate_0e8fd 1 = .ok (.iload_n 1, 1) := by decide +kernel
theorem dJ1_inflate_0e8fd_2 : decode cJ1_inflate_0e8fd 2 = .ok (.aload_n 2, 1) := by decide +kernel
theorem dJ1_inflate_0e8fd_3 : decode cJ1_inflate_0e8fd 3 = .ok (.iload_n 3, 1) := by decide +kernel
theorem dJ1_inflate_0e8fd_4 : decode cJ1_inflate_0e8fd 4 = .ok (.iload 4, 2) := by decide +kernel
theorem dJ1_inflate_0e8fd_6 : decode cJ1_inflate_0e8fd 6 = .ok (.invokestatic 240, 3) := by decide +kernel
theorem dJ1_inflate_0e8fd_9 : decode cJ1_inflate_0e8fd 9 = .ok (.return_, 1) := by decide +kernel
theorem dJ3_checkIndex_8e157_0 : decode cJ3_checkIndex_8e157 0 = .ok (.iload_n 0, 1) := by decide +kernel
theorem dJ3_checkIndex_8e157_1 : decode cJ3_checkIndex_8e157 1 = .ok (.ifCond .lt 8, 3) := by decide +kernel
theorem dJ3_checkIndex_8e157_4 : decode cJ3_checkIndex_8e157 4 = .ok (.iload_n 0, 1) := by decide +kernel
theorem dJ3_checkIndex_8e157_5 : decode cJ3_checkIndex_8e157 5 = .ok (.iload_n 1, 1) := by decide +kernel
theorem dJ3_checkIndex_8e157_6 : decode cJ3_checkIndex_8e157 6 = .ok (.if_icmp .lt 10, 3) := by decide +kernel
theorem dJ3_checkIndex_8e157_9 : decode cJ3_checkIndex_8e157 9 = .ok (.aload_n 2, 1) := by decide +kernel
theorem dJ3_checkIndex_8e157_10 : decode cJ3_checkIndex_8e157 10 = .ok (.iload_n 0, 1) := by decide +kernel
theorem dJ3_checkIndex_8e157_11 : decode cJ3_checkIndex_8e157 11 = .ok (.iload_n 1, 1) := by decide +kernel
theorem dJ3_checkIndex_8e157_12 : decode cJ3_checkIndex_8e157 12 = .ok (.invokestatic 95, 3) := by decide +kernel
theorem dJ3_checkIndex_8e157_15 : decode cJ3_checkIndex_8e157 15 = .ok (.athrow, 1) := by decide +kernel
theorem dJ3_checkIndex_8e157_16 : decode cJ3_checkIndex_8e157 16 = .ok (.iload_n 0, 1) := by decide +kernel
theorem dJ3_checkIndex_8e157_17 : decode cJ3_checkIndex_8e157 17 = .ok (.ireturn, 1) := by decide +kernel
theorem dJ3_checkFromToIndex_8c36e_0 : decode cJ3_checkFromToIndex_8c36e 0 = .ok (.iload_n 0, 1) := by decide +kernel
theorem dJ3_checkFromToIndex_8c36e_1 : decode cJ3_checkFromToIndex_8c36e 1 = .ok (.ifCond .lt 13, 3) := by decide +kernel
theorem dJ3_checkFromToIndex_8c36e_4 : decode cJ3_checkFromToIndex_8c36e 4 = .ok (.iload_n 0, 1) := by decide +kernel
theorem dJ3_checkFromToIndex_8c36e_5 : decode cJ3_checkFromToIndex_8c36e 5 = .ok (.iload_n 1, 1) := by decide +kernel
theorem dJ3_checkFromToIndex_8c36e_6 : decode cJ3_checkFromToIndex_8c36e 6 = .ok (.if_icmp .gt 8, 3) := by decide +kernel
theorem dJ3_checkFromToIndex_8c36e_9 : decode cJ3_checkFromToIndex_8c36e 9 = .ok (.iload_n 1, 1) := by decide +kernel
theorem dJ3_checkFromToIndex_8c36e_10 : decode cJ3_checkFromToIndex_8c36e 10 = .ok (.iload_n 2, 1) := by decide +kernel
theorem dJ3_checkFromToIndex_8c36e_11 : decode cJ3_checkFromToIndex_8c36e 11 = .ok (.if_icmp .le 11, 3) := by decide +kernel
theorem dJ3_checkFromToIndex_8c36e_14 : decode cJ3_checkFromToIndex_8c36e 14 = .ok (.aload_n 3, 1) := by decide +kernel
theorem dJ3_checkFromToIndex_8c36e_15 : decode cJ3_checkFromToIndex_8c36e 15 = .ok (.iload_n 0, 1) := by decide +kernel
theorem dJ3_checkFromToIndex_8c36e_16 : decode cJ3_checkFromToIndex_8c36e 16 = .ok (.iload_n 1, 1) := by decide +kernel
theorem dJ3_checkFromToIndex_8c36e_17 : decode cJ3_checkFromToIndex_8c36e 17 = .ok (.iload_n 2, 1) := by decide +kernel
theorem dJ3_checkFromToIndex_8c36e_18 : decode cJ3_checkFromToIndex_8c36e 18 = .ok (.invokestatic 99, 3) := by decide +kernel
theorem dJ3_checkFromToIndex_8c36e_21 : decode cJ3_checkFromToIndex_8c36e 21 = .ok (.athrow, 1) := by decide +kernel
theorem dJ3_checkFromToIndex_8c36e_22 : decode cJ3_checkFromToIndex_8c36e 22 = .ok (.iload_n 0, 1) := by decide +kernel
theorem dJ3_checkFromToIndex_8c36e_23 : decode cJ3_checkFromToIndex_8c36e 23 = .ok (.ireturn, 1) := by decide +kernel
theorem dJ3_checkFromIndexSize_8c36e_0 : decode cJ3_checkFromIndexSize_8c36e 0 = .ok (.iload_n 2, 1) := by decide +kernel
theorem dJ3_checkFromIndexSize_8c36e_1 : decode cJ3_checkFromIndexSize_8c36e 1 = .ok (.iload_n 0, 1) := by decide +kernel
theorem dJ3_checkFromIndexSize_8c36e_2 : decode cJ3_checkFromIndexSize_8c36e 2 = .ok (.ior, 1) := by decide +kernel
theorem dJ3_checkFromIndexSize_8c36e_3 : decode cJ3_checkFromIndexSize_8c36e 3 = .ok (.iload_n 1, 1) := by decide +kernel
theorem dJ3_checkFromIndexSize_8c36e_4 : decode cJ3_checkFromIndexSize_8c36e 4 = .ok (.ior, 1) := by decide +kernel
theorem dJ3_checkFromIndexSize_8c36e_5 : decode cJ3_checkFromIndexSize_8c36e 5 = .ok (.ifCond .lt 10, 3) := by decide +kernel
theorem dJ3_checkFromIndexSize_8c36e_8 : decode cJ3_checkFromIndexSize_8c36e 8 = .ok (.iload_n 1, 1) := by decide +kernel
theorem dJ3_checkFromIndexSize_8c36e_9 : decode cJ3_checkFromIndexSize_8c36e 9 = .ok (.iload_n 2, 1) := by decide +kernel
theorem dJ3_checkFromIndexSize_8c36e_10 : decode cJ3_checkFromIndexSize_8c36e 10 = .ok (.iload_n 0, 1) := by decide +kernel
theorem dJ3_checkFromIndexSize_8c36e_11 : decode cJ3_checkFromIndexSize_8c36e 11 = .ok (.isub, 1) := by decide +kernel
theorem dJ3_checkFromIndexSize_8c36e_12 : decode cJ3_checkFromIndexSize_8c36e 12 = .ok (.if_icmp .le 11, 3) := by decide +kernel
theorem dJ3_checkFromIndexSize_8c36e_15 : decode cJ3_checkFromIndexSize_8c36e 15 = .ok (.aload_n 3, 1) := by decide +kernel
theorem dJ3_checkFromIndexSize_8c36e_16 : decode cJ3_checkFromIndexSize_8c36e 16 = .ok (.iload_n 0, 1) := by decide +kernel
theorem dJ3_checkFromIndexSize_8c36e_17 : decode cJ3_checkFromIndexSize_8c36e 17 = .ok (.iload_n 1, 1) := by decide +kernel
theorem dJ3_checkFromIndexSize_8c36e_18 : decode cJ3_checkFromIndexSize_8c36e 18 = .ok (.iload_n 2, 1) := by decide +kernel
theorem dJ3_checkFromIndexSize_8c36e_19 : decode cJ3_checkFromIndexSize_8c36e 19 = .ok (.invokestatic 103, 3) := by decide +kernel
theorem dJ3_checkFromIndexSize_8c36e_22 : decode cJ3_checkFromIndexSize_8c36e 22 = .ok (.athrow, 1) := by decide +kernel
theorem dJ3_checkFromIndexSize_8c36e_23 : decode cJ3_checkFromIndexSize_8c36e 23 = .ok (.iload_n 0, 1) := by decide +kernel
theorem dJ3_checkFromIndexSize_8c36e_24 : decode cJ3_checkFromIndexSize_8c36e 24 = .ok (.ireturn, 1) := by decide +kernel
theorem dJ7_fill_53178_0 : decode cJ7_fill_53178 0 = .ok (.iconst 0, 1) := by decide +kernel
theorem dJ7_fill_53178_1 : decode cJ7_fill_53178 1 = .ok (.istore_n 2, 1) := by decide +kernel
theorem dJ7_fill_53178_2 : decode cJ7_fill_53178 2 = .ok (.aload_n 0, 1) := by decide +kernel
theorem dJ7_fill_53178_3 : decode cJ7_fill_53178 3 = .ok (.arraylength, 1) := by decide +kernel
theorem dJ7_fill_53178_4 : decode cJ7_fill_53178 4 = .ok (.istore_n 3, 1) := by decide +kernel
theorem dJ7_fill_53178_5 : decode cJ7_fill_53178 5 = .ok (.iload_n 2, 1) := by decide +kernel
theorem dJ7_fill_53178_6 : decode cJ7_fill_53178 6 = .ok (.iload_n 3, 1) := by decide +kernel
theorem dJ7_fill_53178_7 : decode cJ7_fill_53178 7 = .ok (.if_icmp .ge 13, 3) := by decide +kernel
theorem dJ7_fill_53178_10 : decode cJ7_fill_53178 10 = .ok (.aload_n 0, 1) := by decide +kernel
theorem dJ7_fill_53178_11 : decode cJ7_fill_53178 11 = .ok (.iload_n 2, 1) := by decide +kernel
theorem dJ7_fill_53178_12 : decode cJ7_fill_53178 12 = .ok (.iload_n 1, 1) := by decide +kernel
theorem dJ7_fill_53178_13 : decode cJ7_fill_53178 13 = .ok (.iastore, 1) := by decide +kernel
theorem dJ7_fill_53178_14 : decode cJ7_fill_53178 14 = .ok (.iinc 2 1, 3) := by decide +kernel
theorem dJ7_fill_53178_17 : decode cJ7_fill_53178 17 = .ok (.goto (-12), 3) := by decide +kernel
theorem dJ7_fill_53178_20 : decode cJ7_fill_53178 20 = .ok (.return_, 1) := by decide +kernel
theorem dJ7_copyOf_9075b_0 : decode cJ7_copyOf_9075b 0 = .ok (.iload_n 1, 1) := by decide +kernel
theorem dJ7_copyOf_9075b_1 : decode cJ7_copyOf_9075b 1 = .ok (.aload_n 0, 1) := by decide +kernel
theorem dJ7_copyOf_9075b_2 : decode cJ7_copyOf_9075b 2 = .ok (.arraylength, 1) := by decide +kernel
theorem dJ7_copyOf_9075b_3 : decode cJ7_copyOf_9075b 3 = .ok (.if_icmp .ne 11, 3) := by decide +kernel
theorem dJ7_copyOf_9075b_6 : decode cJ7_copyOf_9075b 6 = .ok (.aload_n 0, 1) := by decide +kernel
theorem dJ7_copyOf_9075b_7 : decode cJ7_copyOf_9075b 7 = .ok (.invokevirtual 310, 3) := by decide +kernel
theorem dJ7_copyOf_9075b_10 : decode cJ7_copyOf_9075b 10 = .ok (.checkcast 311, 3) := by decide +kernel
theorem dJ7_copyOf_9075b_13 : decode cJ7_copyOf_9075b 13 = .ok (.areturn, 1) := by decide +kernel
theorem dJ7_copyOf_9075b_14 : decode cJ7_copyOf_9075b 14 = .ok (.iload_n 1, 1) := by decide +kernel
theorem dJ7_copyOf_9075b_15 : decode cJ7_copyOf_9075b 15 = .ok (.newarray .byte, 2) := by decide +kernel
theorem dJ7_copyOf_9075b_17 : decode cJ7_copyOf_9075b 17 = .ok (.astore_n 2, 1) := by decide +kernel
theorem dJ7_copyOf_9075b_18 : decode cJ7_copyOf_9075b 18 = .ok (.aload_n 0, 1) := by decide +kernel
theorem dJ7_copyOf_9075b_19 : decode cJ7_copyOf_9075b 19 = .ok (.iconst 0, 1) := by decide +kernel
theorem dJ7_copyOf_9075b_20 : decode cJ7_copyOf_9075b 20 = .ok (.aload_n 2, 1) := by decide +kernel
theorem dJ7_copyOf_9075b_21 : decode cJ7_copyOf_9075b 21 = .ok (.iconst 0, 1) := by decide +kernel
theorem dJ7_copyOf_9075b_22 : decode cJ7_copyOf_9075b 22 = .ok (.aload_n 0, 1) := by decide +kernel
theorem dJ7_copyOf_9075b_23 : decode cJ7_copyOf_9075b 23 = .ok (.arraylength, 1) := by decide +kernel
theorem dJ7_copyOf_9075b_24 : decode cJ7_copyOf_9075b 24 = .ok (.iload_n 1, 1) := by decide +kernel
theorem dJ7_copyOf_9075b_25 : decode cJ7_copyOf_9075b 25 = .ok (.invokestatic 304, 3) := by decide +kernel
theorem dJ7_copyOf_9075b_28 : decode cJ7_copyOf_9075b 28 = .ok (.invokestatic 150, 3) := by decide +kernel
theorem dJ7_copyOf_9075b_31 : decode cJ7_copyOf_9075b 31 = .ok (.aload_n 2, 1) := by decide +kernel
theorem dJ7_copyOf_9075b_32 : decode cJ7_copyOf_9075b 32 = .ok (.areturn, 1) := by decide +kernel
theorem dJ7_checkLength_df160_0 : decode cJ7_checkLength_df160 0 = .ok (.iload_n 1, 1) := by decide +kernel
theorem dJ7_checkLength_df160_1 : decode cJ7_checkLength_df160 1 = .ok (.iload_n 0, 1) := by decide +kernel
theorem dJ7_checkLength_df160_2 : decode cJ7_checkLength_df160 2 = .ok (.if_icmp .ge 35, 3) := by decide +kernel
theorem dJ7_checkLength_df160_5 : decode cJ7_checkLength_df160 5 = .ok (.new 43, 3) := by decide +kernel
theorem dJ7_checkLength_df160_8 : decode cJ7_checkLength_df160 8 = .ok (.dup, 1) := by decide +kernel
theorem dJ7_checkLength_df160_9 : decode cJ7_checkLength_df160 9 = .ok (.new 45, 3) := by decide +kernel
theorem dJ7_checkLength_df160_12 : decode cJ7_checkLength_df160 12 = .ok (.dup, 1) := by decide +kernel
theorem dJ7_checkLength_df160_13 : decode cJ7_checkLength_df160 13 = .ok (.invokespecial 47, 3) := by decide +kernel
theorem dJ7_checkLength_df160_16 : decode cJ7_checkLength_df160 16 = .ok (.iload_n 0, 1) := by decide +kernel
theorem dJ7_checkLength_df160_17 : decode cJ7_checkLength_df160 17 = .ok (.invokevirtual 54, 3) := by decide +kernel
theorem dJ7_checkLength_df160_20 : decode cJ7_checkLength_df160 20 = .ok (.ldc_w 337, 3) := by decide +kernel
theorem dJ7_checkLength_df160_23 : decode cJ7_checkLength_df160 23 = .ok (.invokevirtual 50, 3) := by decide +kernel
theorem dJ7_checkLength_df160_26 : decode cJ7_checkLength_df160 26 = .ok (.iload_n 1, 1) := by decide +kernel
theorem dJ7_checkLength_df160_27 : decode cJ7_checkLength_df160 27 = .ok (.invokevirtual 54, 3) := by decide +kernel
theorem dJ7_checkLength_df160_30 : decode cJ7_checkLength_df160 30 = .ok (.invokevirtual 61, 3) := by decide +kernel
theorem dJ7_checkLength_df160_33 : decode cJ7_checkLength_df160 33 = .ok (.invokespecial 65, 3) := by decide +kernel
theorem dJ7_checkLength_df160_36 : decode cJ7_checkLength_df160 36 = .ok (.athrow, 1) := by decide +kernel
theorem dJ7_checkLength_df160_37 : decode cJ7_checkLength_df160 37 = .ok (.return_, 1) := by decide +kernel
theorem dJ7_copyOfRange_39247_0 : decode cJ7_copyOfRange_39247 0 = .ok (.iload_n 1, 1) := by decide +kernel
theorem dJ7_copyOfRange_39247_1 : decode cJ7_copyOfRange_39247 1 = .ok (.ifCond .ne 9, 3) := by decide +kernel
theorem dJ7_copyOfRange_39247_4 : decode cJ7_copyOfRange_39247 4 = .ok (.iload_n 2, 1) := by decide +kernel
theorem dJ7_copyOfRange_39247_5 : decode cJ7_copyOfRange_39247 5 = .ok (.aload_n 0, 1) := by decide +kernel
theorem dJ7_copyOfRange_39247_6 : decode cJ7_copyOfRange_39247 6 = .ok (.arraylength, 1) := by decide +kernel
theorem dJ7_copyOfRange_39247_7 : decode cJ7_copyOfRange_39247 7 = .ok (.if_icmp .eq 10, 3) := by decide +kernel
theorem dJ7_copyOfRange_39247_10 : decode cJ7_copyOfRange_39247 10 = .ok (.aload_n 0, 1) := by decide +kernel
theorem dJ7_copyOfRange_39247_11 : decode cJ7_copyOfRange_39247 11 = .ok (.iload_n 1, 1) := by decide +kernel
theorem dJ7_copyOfRange_39247_12 : decode cJ7_copyOfRange_39247 12 = .ok (.iload_n 2, 1) := by decide +kernel
theorem dJ7_copyOfRange_39247_13 : decode cJ7_copyOfRange_39247 13 = .ok (.invokestatic 339, 3) := by decide +kernel
theorem dJ7_copyOfRange_39247_16 : decode cJ7_copyOfRange_39247 16 = .ok (.areturn, 1) := by decide +kernel
theorem dJ7_copyOfRange_39247_17 : decode cJ7_copyOfRange_39247 17 = .ok (.aload_n 0, 1) := by decide +kernel
theorem dJ7_copyOfRange_39247_18 : decode cJ7_copyOfRange_39247 18 = .ok (.invokevirtual 310, 3) := by decide +kernel
theorem dJ7_copyOfRange_39247_21 : decode cJ7_copyOfRange_39247 21 = .ok (.checkcast 311, 3) := by decide +kernel
theorem dJ7_copyOfRange_39247_24 : decode cJ7_copyOfRange_39247 24 = .ok (.areturn, 1) := by decide +kernel
theorem dJ7_copyOfRangeByte_39247_0 : decode cJ7_copyOfRangeByte_39247 0 = .ok (.iload_n 1, 1) := by decide +kernel
theorem dJ7_copyOfRangeByte_39247_1 : decode cJ7_copyOfRangeByte_39247 1 = .ok (.iload_n 2, 1) := by decide +kernel
theorem dJ7_copyOfRangeByte_39247_2 : decode cJ7_copyOfRangeByte_39247 2 = .ok (.invokestatic 343, 3) := by decide +kernel
theorem dJ7_copyOfRangeByte_39247_5 : decode cJ7_copyOfRangeByte_39247 5 = .ok (.iload_n 2, 1) := by decide +kernel
theorem dJ7_copyOfRangeByte_39247_6 : decode cJ7_copyOfRangeByte_39247 6 = .ok (.iload_n 1, 1) := by decide +kernel
theorem dJ7_copyOfRangeByte_39247_7 : decode cJ7_copyOfRangeByte_39247 7 = .ok (.isub, 1) := by decide +kernel
theorem dJ7_copyOfRangeByte_39247_8 : decode cJ7_copyOfRangeByte_39247 8 = .ok (.istore_n 3, 1) := by decide +kernel
theorem dJ7_copyOfRangeByte_39247_9 : decode cJ7_copyOfRangeByte_39247 9 = .ok (.iload_n 3, 1) := by decide +kernel
theorem dJ7_copyOfRangeByte_39247_10 : decode cJ7_copyOfRangeByte_39247 10 = .ok (.newarray .byte, 2) := by decide +kernel
theorem dJ7_copyOfRangeByte_39247_12 : decode cJ7_copyOfRangeByte_39247 12 = .ok (.astore 4, 2) := by decide +kernel
theorem dJ7_copyOfRangeByte_39247_14 : decode cJ7_copyOfRangeByte_39247 14 = .ok (.aload_n 0, 1) := by decide +kernel
theorem dJ7_copyOfRangeByte_39247_15 : decode cJ7_copyOfRangeByte_39247 15 = .ok (.iload_n 1, 1) := by decide +kernel
theorem dJ7_copyOfRangeByte_39247_16 : decode cJ7_copyOfRangeByte_39247 16 = .ok (.aload 4, 2) := by decide +kernel
theorem dJ7_copyOfRangeByte_39247_18 : decode cJ7_copyOfRangeByte_39247 18 = .ok (.iconst 0, 1) := by decide +kernel
theorem dJ7_copyOfRangeByte_39247_19 : decode cJ7_copyOfRangeByte_39247 19 = .ok (.aload_n 0, 1) := by decide +kernel
theorem dJ7_copyOfRangeByte_39247_20 : decode cJ7_copyOfRangeByte_39247 20 = .ok (.arraylength, 1) := by decide +kernel
theorem dJ7_copyOfRangeByte_39247_21 : decode cJ7_copyOfRangeByte_39247 21 = .ok (.iload_n 1, 1) := by decide +kernel
theorem dJ7_copyOfRangeByte_39247_22 : decode cJ7_copyOfRangeByte_39247 22 = .ok (.isub, 1) := by decide +kernel
theorem dJ7_copyOfRangeByte_39247_23 : decode cJ7_copyOfRangeByte_39247 23 = .ok (.iload_n 3, 1) := by decide +kernel
theorem dJ7_copyOfRangeByte_39247_24 : decode cJ7_copyOfRangeByte_39247 24 = .ok (.invokestatic 304, 3) := by decide +kernel
theorem dJ7_copyOfRangeByte_39247_27 : decode cJ7_copyOfRangeByte_39247 27 = .ok (.invokestatic 150, 3) := by decide +kernel
theorem dJ7_copyOfRangeByte_39247_30 : decode cJ7_copyOfRangeByte_39247 30 = .ok (.aload 4, 2) := by decide +kernel
theorem dJ7_copyOfRangeByte_39247_32 : decode cJ7_copyOfRangeByte_39247 32 = .ok (.areturn, 1) := by decide +kernel
theorem dX0_init_0 : decode cX0_init 0 = .ok (.aload_n 0, 1) := by decide +kernel
theorem dX0_init_1 : decode cX0_init 1 = .ok (.invokespecial 3, 3) := by decide +kernel
theorem dX0_init_4 : decode cX0_init 4 = .ok (.aload_n 0, 1) := by decide +kernel
theorem dX0_init_5 : decode cX0_init 5 = .ok (.iconst (-1), 1) := by decide +kernel
theorem dX0_init_6 : decode cX0_init 6 = .ok (.putfield 9, 3) := by decide +kernel
theorem dX0_init_9 : decode cX0_init 9 = .ok (.aload_n 0, 1) := by decide +kernel
theorem dX0_init_10 : decode cX0_init 10 = .ok (.bipush 18, 2) := by decide +kernel
theorem dX0_init_12 : decode cX0_init 12 = .ok (.newarray .int, 2) := by decide +kernel
theorem dX0_init_14 : decode cX0_init 14 = .ok (.putfield 15, 3) := by decide +kernel
theorem dX0_init_17 : decode cX0_init 17 = .ok (.aload_n 0, 1) := by decide +kernel
theorem dX0_init_18 : decode cX0_init 18 = .ok (.bipush 54, 2) := by decide +kernel
theorem dX0_init_20 : decode cX0_init 20 = .ok (.newarray .int, 2) := by decide +kernel
theorem dX0_init_22 : decode cX0_init 22 = .ok (.putfield 19, 3) := by decide +kernel
theorem dX0_init_25 : decode cX0_init 25 = .ok (.aload_n 0, 1) := by decide +kernel
theorem dX0_init_26 : decode cX0_init 26 = .ok (.bipush 54, 2) := by decide +kernel
theorem dX0_init_28 : decode cX0_init 28 = .ok (.newarray .int, 2) := by decide +kernel
theorem dX0_init_30 : decode cX0_init 30 = .ok (.putfield 22, 3) := by decide +kernel
theorem dX0_init_33 : decode cX0_init 33 = .ok (.aload_n 0, 1) := by decide +kernel
theorem dX0_init_34 : decode cX0_init 34 = .ok (.bipush 54, 2) := by decide +kernel
theorem dX0_init_36 : decode cX0_init 36 = .ok (.newarray .int, 2) := by decide +kernel
theorem dX0_init_38 : decode cX0_init 38 = .ok (.putfield 25, 3) := by decide +kernel
theorem dX0_init_41 : decode cX0_init 41 = .ok (.aload_n 0, 1) := by decide +kernel
theorem dX0_init_42 : decode cX0_init 42 = .ok (.bipush 42, 2) := by decide +kernel
theorem dX0_init_44 : decode cX0_init 44 = .ok (.newarray .int, 2) := by decide +kernel
theorem dX0_init_46 : decode cX0_init 46 = .ok (.putfield 28, 3) := by decide +kernel
theorem dX0_init_49 : decode cX0_init 49 = .ok (.return_, 1) := by decide +kernel
theorem dX0_takeAllDown_0 : decode cX0_takeAllDown 0 = .ok (.aload_n 0, 1) := by decide +kernel
theorem dX0_takeAllDown_1 : decode cX0_takeAllDown 1 = .ok (.iconst (-1), 1) := by decide +kernel
theorem dX0_takeAllDown_2 : decode cX0_takeAllDown 2 = .ok (.putfield 9, 3) := by decide +kernel
theorem dX0_takeAllDown_5 : decode cX0_takeAllDown 5 = .ok (.aload_n 0, 1) := by decide +kernel
theorem dX0_takeAllDown_6 : decode cX0_takeAllDown 6 = .ok (.getfield 15, 3) := by decide +kernel
theorem dX0_takeAllDown_9 : decode cX0_takeAllDown 9 = .ok (.iconst (-1), 1) := by decide +kernel
theorem dX0_takeAllDown_10 : decode cX0_takeAllDown 10 = .ok (.invokestatic 31, 3) := by decide +kernel
theorem dX0_takeAllDown_13 : decode cX0_takeAllDown 13 = .ok (.aload_n 0, 1) := by decide +kernel
theorem dX0_takeAllDown_14 : decode cX0_takeAllDown 14 = .ok (.getfield 19, 3) := by decide +kernel
theorem dX0_takeAllDown_17 : decode cX0_takeAllDown 17 = .ok (.iconst (-1), 1) := by decide +kernel
theorem dX0_takeAllDown_18 : decode cX0_takeAllDown 18 = .ok (.invokestatic 31, 3) := by decide +kernel
theorem dX0_takeAllDown_21 : decode cX0_takeAllDown 21 = .ok (.aload_n 0, 1) := by decide +kernel
theorem dX0_takeAllDown_22 : decode cX0_takeAllDown 22 = .ok (.getfield 22, 3) := by decide +kernel
theorem dX0_takeAllDown_25 : decode cX0_takeAllDown 25 = .ok (.iconst (-1), 1) := by decide +kernel
theorem dX0_takeAllDown_26 : decode cX0_takeAllDown 26 = .ok (.invokestatic 31, 3) := by decide +kernel
theorem dX0_takeAllDown_29 : decode cX0_takeAllDown 29 = .ok (.aload_n 0, 1) := by decide +kernel
theorem dX0_takeAllDown_30 : decode cX0_takeAllDown 30 = .ok (.getfield 25, 3) := by decide +kernel
theorem dX0_takeAllDown_33 : decode cX0_takeAllDown 33 = .ok (.iconst (-1), 1) := by decide +kernel
theorem dX0_takeAllDown_34 : decode cX0_takeAllDown 34 = .ok (.invokestatic 31, 3) := by decide +kernel
theorem dX0_takeAllDown_37 : decode cX0_takeAllDown 37 = .ok (.aload_n 0, 1) := by decide +kernel
theorem dX0_takeAllDown_38 : decode cX0_takeAllDown 38 = .ok (.getfield 28, 3) := by decide +kernel
theorem dX0_takeAllDown_41 : decode cX0_takeAllDown 41 = .ok (.iconst 0, 1) := by decide +kernel
theorem dX0_takeAllDown_42 : decode cX0_takeAllDown 42 = .ok (.invokestatic 31, 3) := by decide +kernel
theorem dX0_takeAllDown_45 : decode cX0_takeAllDown 45 = .ok (.return_, 1) := by decide +kernel
theorem dX0_copyFrom_0 : decode cX0_copyFrom 0 = .ok (.aload_n 0, 1) := by decide +kernel
theorem dX0_copyFrom_1 : decode cX0_copyFrom 1 = .ok (.aload_n 1, 1) := by decide +kernel
theorem dX0_copyFrom_2 : decode cX0_copyFrom 2 = .ok (.getfield 9, 3) := by decide +kernel
theorem dX0_copyFrom_5 : decode cX0_copyFrom 5 = .ok (.putfield 9, 3) := by decide +kernel
theorem dX0_copyFrom_8 : decode cX0_copyFrom 8 = .ok (.aload_n 1, 1) := by decide +kernel
theorem dX0_copyFrom_9 : decode cX0_copyFrom 9 = .ok (.getfield 15, 3) := by decide +kernel
theorem dX0_copyFrom_12 : decode cX0_copyFrom 12 = .ok (.iconst 0, 1) := by decide +kernel
theorem dX0_copyFrom_13 : decode cX0_copyFrom 13 = .ok (.aload_n 0, 1) := by decide +kernel
theorem dX0_copyFrom_14 : decode cX0_copyFrom 14 = .ok (.getfield 15, 3) := by decide +kernel
theorem dX0_copyFrom_17 : decode cX0_copyFrom 17 = .ok (.iconst 0, 1) := by decide +kernel
theorem dX0_copyFrom_18 : decode cX0_copyFrom 18 = .ok (.bipush 18, 2) := by decide +kernel
theorem dX0_copyFrom_20 : decode cX0_copyFrom 20 = .ok (.invokestatic 37, 3) := by decide +kernel
theorem dX0_copyFrom_23 : decode cX0_copyFrom 23 = .ok (.aload_n 1, 1) := by decide +kernel
theorem dX0_copyFrom_24 : decode cX0_copyFrom 24 = .ok (.getfield 19, 3) := by decide +kernel
theorem dX0_copyFrom_27 : decode cX0_copyFrom 27 = .ok (.iconst 0, 1) := by decide +kernel
theorem dX0_copyFrom_28 : decode cX0_copyFrom 28 = .ok (.aload_n 0, 1) := by decide +kernel
theorem dX0_copyFrom_29 : decode cX0_copyFrom 29 = .ok (.getfield 19, 3) := by decide +kernel
theorem dX0_copyFrom_32 : decode cX0_copyFrom 32 = .ok (.iconst 0, 1) := by decide +kernel
theorem dX0_copyFrom_33 : decode cX0_copyFrom 33 = .ok (.bipush 54, 2) := by decide +kernel
theorem dX0_copyFrom_35 : decode cX0_copyFrom 35 = .ok (.invokestatic 37, 3) := by decide +kernel
theorem dX0_copyFrom_38 : decode cX0_copyFrom 38 = .ok (.aload_n 1, 1) := by decide +kernel
theorem dX0_copyFrom_39 : decode cX0_copyFrom 39 = .ok (.getfield 22, 3) := by decide +kernel
theorem dX0_copyFrom_42 : decode cX0_copyFrom 42 = .ok (.iconst 0, 1) := by decide +kernel
theorem dX0_copyFrom_43 : decode cX0_copyFrom 43 = .ok (.aload_n 0, 1) := by decide +kernel
theorem dX0_copyFrom_44 : decode cX0_copyFrom 44 = .ok (.getfield 22, 3) := by decide +kernel
theorem dX0_copyFrom_47 : decode cX0_copyFrom 47 = .ok (.iconst 0, 1) := by decide +kernel
theorem dX0_copyFrom_48 : decode cX0_copyFrom 48 = .ok (.bipush 54, 2) := by decide +kernel
theorem dX0_copyFrom_50 : decode cX0_copyFrom 50 = .ok (.invokestatic 37, 3) := by decide +kernel
theorem dX0_copyFrom_53 : decode cX0_copyFrom 53 = .ok (.aload_n 1, 1) := by decide +kernel
theorem dX0_copyFrom_54 : decode cX0_copyFrom 54 = .ok (.getfield 25, 3) := by decide +kernel
theorem dX0_copyFrom_57 : decode cX0_copyFrom 57 = .ok (.iconst 0, 1) := by decide +kernel
theorem dX0_copyFrom_58 : decode cX0_copyFrom 58 = .ok (.aload_n 0, 1) := by decide +kernel
theorem dX0_copyFrom_59 : decode cX0_copyFrom 59 = .ok (.getfield 25, 3) := by decide +kernel
theorem dX0_copyFrom_62 : decode cX0_copyFrom 62 = .ok (.iconst 0, 1) := by decide +kernel
theorem dX0_copyFrom_63 : decode cX0_copyFrom 63 = .ok (.bipush 54, 2) := by decide +kernel
theorem dX0_copyFrom_65 : decode cX0_copyFrom 65 = .ok (.invokestatic 37, 3) := by decide +kernel
theorem dX0_copyFrom_68 : decode cX0_copyFrom 68 = .ok (.aload_n 1, 1) := by decide +kernel
theorem dX0_copyFrom_69 : decode cX0_copyFrom 69 = .ok (.getfield 28, 3) := by decide +kernel
theorem dX0_copyFrom_72 : decode cX0_copyFrom 72 = .ok (.iconst 0, 1) := by decide +kernel
theorem dX0_copyFrom_73 : decode cX0_copyFrom 73 = .ok (.aload_n 0, 1) := by decide +kernel
theorem dX0_copyFrom_74 : decode cX0_copyFrom 74 = .ok (.getfield 28, 3) := by decide +kernel
theorem dX0_copyFrom_77 : decode cX0_copyFrom 77 = .ok (.iconst 0, 1) := by decide +kernel
theorem dX0_copyFrom_78 : decode cX0_copyFrom 78 = .ok (.bipush 42, 2) := by decide +kernel
theorem dX0_copyFrom_80 : decode cX0_copyFrom 80 = .ok (.invokestatic 37, 3) := by decide +kernel
theorem dX0_copyFrom_83 : decode cX0_copyFrom 83 = .ok (.return_, 1) := by decide +kernel
theorem dX0_putHymn_0 : decode cX0_putHymn 0 = .ok (.aload_n 0, 1) := by decide +kernel
theorem dX0_putHymn_1 : decode cX0_putHymn 1 = .ok (.getfield 15, 3) := by decide +kernel
theorem dX0_putHymn_4 : decode cX0_putHymn 4 = .ok (.iload_n 1, 1) := by decide +kernel
theorem dX0_putHymn_5 : decode cX0_putHymn 5 = .ok (.iload_n 2, 1) := by decide +kernel
theorem dX0_putHymn_6 : decode cX0_putHymn 6 = .ok (.iastore, 1) := by decide +kernel
theorem dX0_putHymn_7 : decode cX0_putHymn 7 = .ok (.iload_n 2, 1) := by decide +kernel
theorem dX0_putHymn_8 : decode cX0_putHymn 8 = .ok (.istore_n 3, 1) := by decide +kernel
theorem dX0_putHymn_9 : decode cX0_putHymn 9 = .ok (.iconst 2, 1) := by decide +kernel
theorem dX0_putHymn_10 : decode cX0_putHymn 10 = .ok (.istore 4, 2) := by decide +kernel
theorem dX0_putHymn_12 : decode cX0_putHymn 12 = .ok (.iload 4, 2) := by decide +kernel
theorem dX0_putHymn_14 : decode cX0_putHymn 14 = .ok (.ifCond .lt 33, 3) := by decide +kernel
theorem dX0_putHymn_17 : decode cX0_putHymn 17 = .ok (.iload_n 3, 1) := by decide +kernel
theorem dX0_putHymn_18 : decode cX0_putHymn 18 = .ok (.ifCond .le 29, 3) := by decide +kernel
theorem dX0_putHymn_21 : decode cX0_putHymn 21 = .ok (.aload_n 0, 1) := by decide +kernel
theorem dX0_putHymn_22 : decode cX0_putHymn 22 = .ok (.getfield 19, 3) := by decide +kernel
theorem dX0_putHymn_25 : decode cX0_putHymn 25 = .ok (.iload_n 1, 1) := by decide +kernel
theorem dX0_putHymn_26 : decode cX0_putHymn 26 = .ok (.iconst 3, 1) := by decide +kernel
theorem dX0_putHymn_27 : decode cX0_putHymn 27 = .ok (.imul, 1) := by decide +kernel
theorem dX0_putHymn_28 : decode cX0_putHymn 28 = .ok (.iload 4, 2) := by decide +kernel
theorem dX0_putHymn_30 : decode cX0_putHymn 30 = .ok (.iadd, 1) := by decide +kernel
theorem dX0_putHymn_31 : decode cX0_putHymn 31 = .ok (.iload_n 3, 1) := by decide +kernel
theorem dX0_putHymn_32 : decode cX0_putHymn 32 = .ok (.bipush 10, 2) := by decide +kernel
theorem dX0_putHymn_34 : decode cX0_putHymn 34 = .ok (.irem, 1) := by decide +kernel
theorem dX0_putHymn_35 : decode cX0_putHymn 35 = .ok (.iastore, 1) := by decide +kernel
theorem dX0_putHymn_36 : decode cX0_putHymn 36 = .ok (.iload_n 3, 1) := by decide +kernel
theorem dX0_putHymn_37 : decode cX0_putHymn 37 = .ok (.bipush 10, 2) := by decide +kernel
theorem dX0_putHymn_39 : decode cX0_putHymn 39 = .ok (.idiv, 1) := by decide +kernel
theorem dX0_putHymn_40 : decode cX0_putHymn 40 = .ok (.istore_n 3, 1) := by decide +kernel
theorem dX0_putHymn_41 : decode cX0_putHymn 41 = .ok (.iinc 4 (-1), 3) := by decide +kernel
theorem dX0_putHymn_44 : decode cX0_putHymn 44 = .ok (.goto (-32), 3) := by decide +kernel
theorem dX0_putHymn_47 : decode cX0_putHymn 47 = .ok (.return_, 1) := by decide +kernel
theorem dX0_putCard_0 : decode cX0_putCard 0 = .ok (.aload_n 0, 1) := by decide +kernel
theorem dX0_putCard_1 : decode cX0_putCard 1 = .ok (.getfield 22, 3) := by decide +kernel
theorem dX0_putCard_4 : decode cX0_putCard 4 = .ok (.iload_n 1, 1) := by decide +kernel
theorem dX0_putCard_5 : decode cX0_putCard 5 = .ok (.iload_n 2, 1) := by decide +kernel
theorem dX0_putCard_6 : decode cX0_putCard 6 = .ok (.iastore, 1) := by decide +kernel
theorem dX0_putCard_7 : decode cX0_putCard 7 = .ok (.aload_n 0, 1) := by decide +kernel
theorem dX0_putCard_8 : decode cX0_putCard 8 = .ok (.getfield 25, 3) := by decide +kernel
theorem dX0_putCard_11 : decode cX0_putCard 11 = .ok (.iload_n 1, 1) := by decide +kernel
theorem dX0_putCard_12 : decode cX0_putCard 12 = .ok (.iload_n 3, 1) := by decide +kernel
theorem dX0_putCard_13 : decode cX0_putCard 13 = .ok (.iastore, 1) := by decide +kernel
theorem dX0_putCard_14 : decode cX0_putCard 14 = .ok (.aload_n 0, 1) := by decide +kernel
theorem dX0_putCard_15 : decode cX0_putCard 15 = .ok (.getfield 28, 3) := by decide +kernel
theorem dX0_putCard_18 : decode cX0_putCard 18 = .ok (.iload_n 2, 1) := by decide +kernel
theorem dX0_putCard_19 : decode cX0_putCard 19 = .ok (.dup2, 1) := by decide +kernel
theorem dX0_putCard_20 : decode cX0_putCard 20 = .ok (.iaload, 1) := by decide +kernel
theorem dX0_putCard_21 : decode cX0_putCard 21 = .ok (.iconst 1, 1) := by decide +kernel
theorem dX0_putCard_22 : decode cX0_putCard 22 = .ok (.iadd, 1) := by decide +kernel
theorem dX0_putCard_23 : decode cX0_putCard 23 = .ok (.iastore, 1) := by decide +kernel
theorem dX0_putCard_24 : decode cX0_putCard 24 = .ok (.return_, 1) := by decide +kernel
theorem dX0_takeCardDown_0 : decode cX0_takeCardDown 0 = .ok (.aload_n 0, 1) := by decide +kernel
theorem dX0_takeCardDown_1 : decode cX0_takeCardDown 1 = .ok (.getfield 28, 3) := by decide +kernel
theorem dX0_takeCardDown_4 : decode cX0_takeCardDown 4 = .ok (.aload_n 0, 1) := by decide +kernel
theorem dX0_takeCardDown_5 : decode cX0_takeCardDown 5 = .ok (.getfield 22, 3) := by decide +kernel
theorem dX0_takeCardDown_8 : decode cX0_takeCardDown 8 = .ok (.iload_n 1, 1) := by decide +kernel
theorem dX0_takeCardDown_9 : decode cX0_takeCardDown 9 = .ok (.iaload, 1) := by decide +kernel
theorem dX0_takeCardDown_10 : decode cX0_takeCardDown 10 = .ok (.dup2, 1) := by decide +kernel
theorem dX0_takeCardDown_11 : decode cX0_takeCardDown 11 = .ok (.iaload, 1) := by decide +kernel
theorem dX0_takeCardDown_12 : decode cX0_takeCardDown 12 = .ok (.iconst 1, 1) := by decide +kernel
theorem dX0_takeCardDown_13 : decode cX0_takeCardDown 13 = .ok (.isub, 1) := by decide +kernel
theorem dX0_takeCardDown_14 : decode cX0_takeCardDown 14 = .ok (.iastore, 1) := by decide +kernel
theorem dX0_takeCardDown_15 : decode cX0_takeCardDown 15 = .ok (.aload_n 0, 1) := by decide +kernel
theorem dX0_takeCardDown_16 : decode cX0_takeCardDown 16 = .ok (.getfield 19, 3) := by decide +kernel
theorem dX0_takeCardDown_19 : decode cX0_takeCardDown 19 = .ok (.iload_n 1, 1) := by decide +kernel
theorem dX0_takeCardDown_20 : decode cX0_takeCardDown 20 = .ok (.iconst (-1), 1) := by decide +kernel
theorem dX0_takeCardDown_21 : decode cX0_takeCardDown 21 = .ok (.iastore, 1) := by decide +kernel
theorem dX0_takeCardDown_22 : decode cX0_takeCardDown 22 = .ok (.aload_n 0, 1) := by decide +kernel
theorem dX0_takeCardDown_23 : decode cX0_takeCardDown 23 = .ok (.getfield 22, 3) := by decide +kernel
theorem dX0_takeCardDown_26 : decode cX0_takeCardDown 26 = .ok (.iload_n 1, 1) := by decide +kernel
theorem dX0_takeCardDown_27 : decode cX0_takeCardDown 27 = .ok (.iconst (-1), 1) := by decide +kernel
theorem dX0_takeCardDown_28 : decode cX0_takeCardDown 28 = .ok (.iastore, 1) := by decide +kernel
theorem dX0_takeCardDown_29 : decode cX0_takeCardDown 29 = .ok (.aload_n 0, 1) := by decide +kernel
theorem dX0_takeCardDown_30 : decode cX0_takeCardDown 30 = .ok (.getfield 25, 3) := by decide +kernel
theorem dX0_takeCardDown_33 : decode cX0_takeCardDown 33 = .ok (.iload_n 1, 1) := by decide +kernel
theorem dX0_takeCardDown_34 : decode cX0_takeCardDown 34 = .ok (.iconst (-1), 1) := by decide +kernel
theorem dX0_takeCardDown_35 : decode cX0_takeCardDown 35 = .ok (.iastore, 1) := by decide +kernel
theorem dX0_takeCardDown_36 : decode cX0_takeCardDown 36 = .ok (.return_, 1) := by decide +kernel
theorem dX0_countCards_0 : decode cX0_countCards 0 = .ok (.iconst 0, 1) := by decide +kernel
theorem dX0_countCards_1 : decode cX0_countCards 1 = .ok (.istore_n 1, 1) := by decide +kernel
theorem dX0_countCards_2 : decode cX0_countCards 2 = .ok (.iconst 0, 1) := by decide +kernel
theorem dX0_countCards_3 : decode cX0_countCards 3 = .ok (.istore_n 2, 1) := by decide +kernel
theorem dX0_countCards_4 : decode cX0_countCards 4 = .ok (.iload_n 2, 1) := by decide +kernel
theorem dX0_countCards_5 : decode cX0_countCards 5 = .ok (.bipush 54, 2) := by decide +kernel
theorem dX0_countCards_7 : decode cX0_countCards 7 = .ok (.if_icmp .ge 22, 3) := by decide +kernel
theorem dX0_countCards_10 : decode cX0_countCards 10 = .ok (.aload_n 0, 1) := by decide +kernel
theorem dX0_countCards_11 : decode cX0_countCards 11 = .ok (.getfield 19, 3) := by decide +kernel
theorem dX0_countCards_14 : decode cX0_countCards 14 = .ok (.iload_n 2, 1) := by decide +kernel
theorem dX0_countCards_15 : decode cX0_countCards 15 = .ok (.iaload, 1) := by decide +kernel
theorem dX0_countCards_16 : decode cX0_countCards 16 = .ok (.iconst (-1), 1) := by decide +kernel
theorem dX0_countCards_17 : decode cX0_countCards 17 = .ok (.if_icmp .eq 6, 3) := by decide +kernel
theorem dX0_countCards_20 : decode cX0_countCards 20 = .ok (.iinc 1 1, 3) := by decide +kernel
theorem dX0_countCards_23 : decode cX0_countCards 23 = .ok (.iinc 2 1, 3) := by decide +kernel
theorem dX0_countCards_26 : decode cX0_countCards 26 = .ok (.goto (-22), 3) := by decide +kernel
theorem dX0_countCards_29 : decode cX0_countCards 29 = .ok (.iload_n 1, 1) := by decide +kernel
theorem dX0_countCards_30 : decode cX0_countCards 30 = .ok (.ireturn, 1) := by decide +kernel
theorem dX0_countTurned_0 : decode cX0_countTurned 0 = .ok (.iconst 0, 1) := by decide +kernel
theorem dX0_countTurned_1 : decode cX0_countTurned 1 = .ok (.istore_n 1, 1) := by decide +kernel
theorem dX0_countTurned_2 : decode cX0_countTurned 2 = .ok (.iconst 0, 1) := by decide +kernel
theorem dX0_countTurned_3 : decode cX0_countTurned 3 = .ok (.istore_n 2, 1) := by decide +kernel
theorem dX0_countTurned_4 : decode cX0_countTurned 4 = .ok (.iload_n 2, 1) := by decide +kernel
theorem dX0_countTurned_5 : decode cX0_countTurned 5 = .ok (.bipush 54, 2) := by decide +kernel
theorem dX0_countTurned_7 : decode cX0_countTurned 7 = .ok (.if_icmp .ge 32, 3) := by decide +kernel
theorem dX0_countTurned_10 : decode cX0_countTurned 10 = .ok (.aload_n 0, 1) := by decide +kernel
theorem dX0_countTurned_11 : decode cX0_countTurned 11 = .ok (.getfield 25, 3) := by decide +kernel
theorem dX0_countTurned_14 : decode cX0_countTurned 14 = .ok (.iload_n 2, 1) := by decide +kernel
theorem dX0_countTurned_15 : decode cX0_countTurned 15 = .ok (.iaload, 1) := by decide +kernel
theorem dX0_countTurned_16 : decode cX0_countTurned 16 = .ok (.iconst 2, 1) := by decide +kernel
theorem dX0_countTurned_17 : decode cX0_countTurned 17 = .ok (.if_icmp .eq 13, 3) := by decide +kernel
theorem dX0_countTurned_20 : decode cX0_countTurned 20 = .ok (.aload_n 0, 1) := by decide +kernel
theorem dX0_countTurned_21 : decode cX0_countTurned 21 = .ok (.getfield 25, 3) := by decide +kernel
theorem dX0_countTurned_24 : decode cX0_countTurned 24 = .ok (.iload_n 2, 1) := by decide +kernel
theorem dX0_countTurned_25 : decode cX0_countTurned 25 = .ok (.iaload, 1) := by decide +kernel
theorem dX0_countTurned_26 : decode cX0_countTurned 26 = .ok (.iconst 3, 1) := by decide +kernel
theorem dX0_countTurned_27 : decode cX0_countTurned 27 = .ok (.if_icmp .ne 6, 3) := by decide +kernel
theorem dX0_countTurned_30 : decode cX0_countTurned 30 = .ok (.iinc 1 1, 3) := by decide +kernel
theorem dX0_countTurned_33 : decode cX0_countTurned 33 = .ok (.iinc 2 1, 3) := by decide +kernel
theorem dX0_countTurned_36 : decode cX0_countTurned 36 = .ok (.goto (-32), 3) := by decide +kernel
theorem dX0_countTurned_39 : decode cX0_countTurned 39 = .ok (.iload_n 1, 1) := by decide +kernel
theorem dX0_countTurned_40 : decode cX0_countTurned 40 = .ok (.ireturn, 1) := by decide +kernel
theorem dX0_countBacks_0 : decode cX0_countBacks 0 = .ok (.iconst 0, 1) := by decide +kernel
theorem dX0_countBacks_1 : decode cX0_countBacks 1 = .ok (.istore_n 1, 1) := by decide +kernel
theorem dX0_countBacks_2 : decode cX0_countBacks 2 = .ok (.iconst 0, 1) := by decide +kernel
theorem dX0_countBacks_3 : decode cX0_countBacks 3 = .ok (.istore_n 2, 1) := by decide +kernel
theorem dX0_countBacks_4 : decode cX0_countBacks 4 = .ok (.iload_n 2, 1) := by decide +kernel
theorem dX0_countBacks_5 : decode cX0_countBacks 5 = .ok (.bipush 54, 2) := by decide +kernel
theorem dX0_countBacks_7 : decode cX0_countBacks 7 = .ok (.if_icmp .ge 32, 3) := by decide +kernel
theorem dX0_countBacks_10 : decode cX0_countBacks 10 = .ok (.aload_n 0, 1) := by decide +kernel
theorem dX0_countBacks_11 : decode cX0_countBacks 11 = .ok (.getfield 25, 3) := by decide +kernel
theorem dX0_countBacks_14 : decode cX0_countBacks 14 = .ok (.iload_n 2, 1) := by decide +kernel
theorem dX0_countBacks_15 : decode cX0_countBacks 15 = .ok (.iaload, 1) := by decide +kernel
theorem dX0_countBacks_16 : decode cX0_countBacks 16 = .ok (.iconst 1, 1) := by decide +kernel
theorem dX0_countBacks_17 : decode cX0_countBacks 17 = .ok (.if_icmp .eq 13, 3) := by decide +kernel
theorem dX0_countBacks_20 : decode cX0_countBacks 20 = .ok (.aload_n 0, 1) := by decide +kernel
theorem dX0_countBacks_21 : decode cX0_countBacks 21 = .ok (.getfield 25, 3) := by decide +kernel
theorem dX0_countBacks_24 : decode cX0_countBacks 24 = .ok (.iload_n 2, 1) := by decide +kernel
theorem dX0_countBacks_25 : decode cX0_countBacks 25 = .ok (.iaload, 1) := by decide +kernel
theorem dX0_countBacks_26 : decode cX0_countBacks 26 = .ok (.iconst 3, 1) := by decide +kernel
theorem dX0_countBacks_27 : decode cX0_countBacks 27 = .ok (.if_icmp .ne 6, 3) := by decide +kernel
theorem dX0_countBacks_30 : decode cX0_countBacks 30 = .ok (.iinc 1 1, 3) := by decide +kernel
theorem dX0_countBacks_33 : decode cX0_countBacks 33 = .ok (.iinc 2 1, 3) := by decide +kernel
theorem dX0_countBacks_36 : decode cX0_countBacks 36 = .ok (.goto (-32), 3) := by decide +kernel
theorem dX0_countBacks_39 : decode cX0_countBacks 39 = .ok (.iload_n 1, 1) := by decide +kernel
theorem dX0_countBacks_40 : decode cX0_countBacks 40 = .ok (.ireturn, 1) := by decide +kernel
theorem dX0_countBorrowed_0 : decode cX0_countBorrowed 0 = .ok (.iconst 0, 1) := by decide +kernel
theorem dX0_countBorrowed_1 : decode cX0_countBorrowed 1 = .ok (.istore_n 1, 1) := by decide +kernel
theorem dX0_countBorrowed_2 : decode cX0_countBorrowed 2 = .ok (.iconst 0, 1) := by decide +kernel
theorem dX0_countBorrowed_3 : decode cX0_countBorrowed 3 = .ok (.istore_n 2, 1) := by decide +kernel
theorem dX0_countBorrowed_4 : decode cX0_countBorrowed 4 = .ok (.iload_n 2, 1) := by decide +kernel
theorem dX0_countBorrowed_5 : decode cX0_countBorrowed 5 = .ok (.bipush 54, 2) := by decide +kernel
theorem dX0_countBorrowed_7 : decode cX0_countBorrowed 7 = .ok (.if_icmp .ge 23, 3) := by decide +kernel
theorem dX0_countBorrowed_10 : decode cX0_countBorrowed 10 = .ok (.aload_n 0, 1) := by decide +kernel
theorem dX0_countBorrowed_11 : decode cX0_countBorrowed 11 = .ok (.getfield 22, 3) := by decide +kernel
theorem dX0_countBorrowed_14 : decode cX0_countBorrowed 14 = .ok (.iload_n 2, 1) := by decide +kernel
theorem dX0_countBorrowed_15 : decode cX0_countBorrowed 15 = .ok (.iaload, 1) := by decide +kernel
theorem dX0_countBorrowed_16 : decode cX0_countBorrowed 16 = .ok (.bipush 12, 2) := by decide +kernel
theorem dX0_countBorrowed_18 : decode cX0_countBorrowed 18 = .ok (.if_icmp .lt 6, 3) := by decide +kernel
theorem dX0_countBorrowed_21 : decode cX0_countBorrowed 21 = .ok (.iinc 1 1, 3) := by decide +kernel
theorem dX0_countBorrowed_24 : decode cX0_countBorrowed 24 = .ok (.iinc 2 1, 3) := by decide +kernel
theorem dX0_countBorrowed_27 : decode cX0_countBorrowed 27 = .ok (.goto (-23), 3) := by decide +kernel
theorem dX0_countBorrowed_30 : decode cX0_countBorrowed 30 = .ok (.iload_n 1, 1) := by decide +kernel
theorem dX0_countBorrowed_31 : decode cX0_countBorrowed 31 = .ok (.ireturn, 1) := by decide +kernel
theorem dX0_countHoles_0 : decode cX0_countHoles 0 = .ok (.iconst 0, 1) := by decide +kernel
theorem dX0_countHoles_1 : decode cX0_countHoles 1 = .ok (.istore_n 1, 1) := by decide +kernel
theorem dX0_countHoles_2 : decode cX0_countHoles 2 = .ok (.iconst 0, 1) := by decide +kernel
theorem dX0_countHoles_3 : decode cX0_countHoles 3 = .ok (.istore_n 2, 1) := by decide +kernel
theorem dX0_countHoles_4 : decode cX0_countHoles 4 = .ok (.iload_n 2, 1) := by decide +kernel
theorem dX0_countHoles_5 : decode cX0_countHoles 5 = .ok (.bipush 18, 2) := by decide +kernel
theorem dX0_countHoles_7 : decode cX0_countHoles 7 = .ok (.if_icmp .ge 30, 3) := by decide +kernel
theorem dX0_countHoles_10 : decode cX0_countHoles 10 = .ok (.aload_n 0, 1) := by decide +kernel
theorem dX0_countHoles_11 : decode cX0_countHoles 11 = .ok (.getfield 15, 3) := by decide +kernel
theorem dX0_countHoles_14 : decode cX0_countHoles 14 = .ok (.iload_n 2, 1) := by decide +kernel
theorem dX0_countHoles_15 : decode cX0_countHoles 15 = .ok (.iaload, 1) := by decide +kernel
theorem dX0_countHoles_16 : decode cX0_countHoles 16 = .ok (.iconst (-1), 1) := by decide +kernel
theorem dX0_countHoles_17 : decode cX0_countHoles 17 = .ok (.if_icmp .eq 14, 3) := by decide +kernel
theorem dX0_countHoles_20 : decode cX0_countHoles 20 = .ok (.aload_n 0, 1) := by decide +kernel
theorem dX0_countHoles_21 : decode cX0_countHoles 21 = .ok (.iload_n 2, 1) := by decide +kernel
theorem dX0_countHoles_22 : decode cX0_countHoles 22 = .ok (.invokevirtual 43, 3) := by decide +kernel
theorem dX0_countHoles_25 : decode cX0_countHoles 25 = .ok (.ifCond .eq 6, 3) := by decide +kernel
theorem dX0_countHoles_28 : decode cX0_countHoles 28 = .ok (.iinc 1 1, 3) := by decide +kernel
theorem dX0_countHoles_31 : decode cX0_countHoles 31 = .ok (.iinc 2 1, 3) := by decide +kernel
theorem dX0_countHoles_34 : decode cX0_countHoles 34 = .ok (.goto (-30), 3) := by decide +kernel
theorem dX0_countHoles_37 : decode cX0_countHoles 37 = .ok (.iload_n 1, 1) := by decide +kernel
theorem dX0_countHoles_38 : decode cX0_countHoles 38 = .ok (.ireturn, 1) := by decide +kernel
theorem dX0_lacksCard_0 : decode cX0_lacksCard 0 = .ok (.aload_n 0, 1) := by decide +kernel
theorem dX0_lacksCard_1 : decode cX0_lacksCard 1 = .ok (.getfield 15, 3) := by decide +kernel
theorem dX0_lacksCard_4 : decode cX0_lacksCard 4 = .ok (.iload_n 1, 1) := by decide +kernel
theorem dX0_lacksCard_5 : decode cX0_lacksCard 5 = .ok (.iaload, 1) := by decide +kernel
theorem dX0_lacksCard_6 : decode cX0_lacksCard 6 = .ok (.istore_n 2, 1) := by decide +kernel
theorem dX0_lacksCard_7 : decode cX0_lacksCard 7 = .ok (.iconst 2, 1) := by decide +kernel
theorem dX0_lacksCard_8 : decode cX0_lacksCard 8 = .ok (.istore_n 3, 1) := by decide +kernel
theorem dX0_lacksCard_9 : decode cX0_lacksCard 9 = .ok (.iload_n 3, 1) := by decide +kernel
theorem dX0_lacksCard_10 : decode cX0_lacksCard 10 = .ok (.ifCond .lt 34, 3) := by decide +kernel
theorem dX0_lacksCard_13 : decode cX0_lacksCard 13 = .ok (.iload_n 2, 1) := by decide +kernel
theorem dX0_lacksCard_14 : decode cX0_lacksCard 14 = .ok (.ifCond .le 30, 3) := by decide +kernel
theorem dX0_lacksCard_17 : decode cX0_lacksCard 17 = .ok (.aload_n 0, 1) := by decide +kernel
theorem dX0_lacksCard_18 : decode cX0_lacksCard 18 = .ok (.getfield 19, 3) := by decide +kernel
theorem dX0_lacksCard_21 : decode cX0_lacksCard 21 = .ok (.iload_n 1, 1) := by decide +kernel
theorem dX0_lacksCard_22 : decode cX0_lacksCard 22 = .ok (.iconst 3, 1) := by decide +kernel
theorem dX0_lacksCard_23 : decode cX0_lacksCard 23 = .ok (.imul, 1) := by decide +kernel
theorem dX0_lacksCard_24 : decode cX0_lacksCard 24 = .ok (.iload_n 3, 1) := by decide +kernel
theorem dX0_lacksCard_25 : decode cX0_lacksCard 25 = .ok (.iadd, 1) := by decide +kernel
theorem dX0_lacksCard_26 : decode cX0_lacksCard 26 = .ok (.iaload, 1) := by decide +kernel
theorem dX0_lacksCard_27 : decode cX0_lacksCard 27 = .ok (.iconst (-1), 1) := by decide +kernel
theorem dX0_lacksCard_28 : decode cX0_lacksCard 28 = .ok (.if_icmp .ne 5, 3) := by decide +kernel
theorem dX0_lacksCard_31 : decode cX0_lacksCard 31 = .ok (.iconst 1, 1) := by decide +kernel
theorem dX0_lacksCard_32 : decode cX0_lacksCard 32 = .ok (.ireturn, 1) := by decide +kernel
theorem dX0_lacksCard_33 : decode cX0_lacksCard 33 = .ok (.iload_n 2, 1) := by decide +kernel
theorem dX0_lacksCard_34 : decode cX0_lacksCard 34 = .ok (.bipush 10, 2) := by decide +kernel
theorem dX0_lacksCard_36 : decode cX0_lacksCard 36 = .ok (.idiv, 1) := by decide +kernel
theorem dX0_lacksCard_37 : decode cX0_lacksCard 37 = .ok (.istore_n 2, 1) := by decide +kernel
theorem dX0_lacksCard_38 : decode cX0_lacksCard 38 = .ok (.iinc 3 (-1), 3) := by decide +kernel
theorem dX0_lacksCard_41 : decode cX0_lacksCard 41 = .ok (.goto (-32), 3) := by decide +kernel
theorem dX0_lacksCard_44 : decode cX0_lacksCard 44 = .ok (.iconst 0, 1) := by decide +kernel
theorem dX0_lacksCard_45 : decode cX0_lacksCard 45 = .ok (.ireturn, 1) := by decide +kernel
theorem dX0_workTo_0 : decode cX0_workTo 0 = .ok (.iconst 0, 1) := by decide +kernel
theorem dX0_workTo_1 : decode cX0_workTo 1 = .ok (.istore_n 2, 1) := by decide +kernel
theorem dX0_workTo_2 : decode cX0_workTo 2 = .ok (.iconst 0, 1) := by decide +kernel
theorem dX0_workTo_3 : decode cX0_workTo 3 = .ok (.istore_n 3, 1) := by decide +kernel
theorem dX0_workTo_4 : decode cX0_workTo 4 = .ok (.iload_n 3, 1) := by decide +kernel
theorem dX0_workTo_5 : decode cX0_workTo 5 = .ok (.bipush 54, 2) := by decide +kernel
theorem dX0_workTo_7 : decode cX0_workTo 7 = .ok (.if_icmp .ge 58, 3) := by decide +kernel
theorem dX0_workTo_10 : decode cX0_workTo 10 = .ok (.aload_n 0, 1) := by decide +kernel
theorem dX0_workTo_11 : decode cX0_workTo 11 = .ok (.getfield 19, 3) := by decide +kernel
theorem dX0_workTo_14 : decode cX0_workTo 14 = .ok (.iload_n 3, 1) := by decide +kernel
theorem dX0_workTo_15 : decode cX0_workTo 15 = .ok (.iaload, 1) := by decide +kernel
theorem dX0_workTo_16 : decode cX0_workTo 16 = .ok (.aload_n 1, 1) := by decide +kernel
theorem dX0_workTo_17 : decode cX0_workTo 17 = .ok (.getfield 19, 3) := by decide +kernel
theorem dX0_workTo_20 : decode cX0_workTo 20 = .ok (.iload_n 3, 1) := by decide +kernel
theorem dX0_workTo_21 : decode cX0_workTo 21 = .ok (.iaload, 1) := by decide +kernel
theorem dX0_workTo_22 : decode cX0_workTo 22 = .ok (.if_icmp .eq 37, 3) := by decide +kernel
theorem dX0_workTo_25 : decode cX0_workTo 25 = .ok (.iload_n 2, 1) := by decide +kernel
theorem dX0_workTo_26 : decode cX0_workTo 26 = .ok (.aload_n 0, 1) := by decide +kernel
theorem dX0_workTo_27 : decode cX0_workTo 27 = .ok (.getfield 19, 3) := by decide +kernel
theorem dX0_workTo_30 : decode cX0_workTo 30 = .ok (.iload_n 3, 1) := by decide +kernel
theorem dX0_workTo_31 : decode cX0_workTo 31 = .ok (.iaload, 1) := by decide +kernel
theorem dX0_workTo_32 : decode cX0_workTo 32 = .ok (.iconst (-1), 1) := by decide +kernel
theorem dX0_workTo_33 : decode cX0_workTo 33 = .ok (.if_icmp .ne 7, 3) := by decide +kernel
theorem dX0_workTo_36 : decode cX0_workTo 36 = .ok (.iconst 0, 1) := by decide +kernel
theorem dX0_workTo_37 : decode cX0_workTo 37 = .ok (.goto 4, 3) := by decide +kernel
theorem dX0_workTo_40 : decode cX0_workTo 40 = .ok (.iconst 1, 1) := by decide +kernel
theorem dX0_workTo_41 : decode cX0_workTo 41 = .ok (.aload_n 1, 1) := by decide +kernel
theorem dX0_workTo_42 : decode cX0_workTo 42 = .ok (.getfield 19, 3) := by decide +kernel
theorem dX0_workTo_45 : decode cX0_workTo 45 = .ok (.iload_n 3, 1) := by decide +kernel
theorem dX0_workTo_46 : decode cX0_workTo 46 = .ok (.iaload, 1) := by decide +kernel
theorem dX0_workTo_47 : decode cX0_workTo 47 = .ok (.iconst (-1), 1) := by decide +kernel
theorem dX0_workTo_48 : decode cX0_workTo 48 = .ok (.if_icmp .ne 7, 3) := by decide +kernel
theorem dX0_workTo_51 : decode cX0_workTo 51 = .ok (.iconst 0, 1) := by decide +kernel
theorem dX0_workTo_52 : decode cX0_workTo 52 = .ok (.goto 4, 3) := by decide +kernel
theorem dX0_workTo_55 : decode cX0_workTo 55 = .ok (.iconst 1, 1) := by decide +kernel
theorem dX0_workTo_56 : decode cX0_workTo 56 = .ok (.iadd, 1) := by decide +kernel
theorem dX0_workTo_57 : decode cX0_workTo 57 = .ok (.iadd, 1) := by decide +kernel
theorem dX0_workTo_58 : decode cX0_workTo 58 = .ok (.istore_n 2, 1) := by decide +kernel
theorem dX0_workTo_59 : decode cX0_workTo 59 = .ok (.iinc 3 1, 3) := by decide +kernel
theorem dX0_workTo_62 : decode cX0_workTo 62 = .ok (.goto (-58), 3) := by decide +kernel
theorem dX0_workTo_65 : decode cX0_workTo 65 = .ok (.iload_n 2, 1) := by decide +kernel
theorem dX0_workTo_66 : decode cX0_workTo 66 = .ok (.ireturn, 1) := by decide +kernel
theorem dX1_init_0 : decode cX1_init 0 = .ok (.aload_n 0, 1) := by decide +kernel
theorem dX1_init_1 : decode cX1_init 1 = .ok (.invokespecial 3, 3) := by decide +kernel
theorem dX1_init_4 : decode cX1_init 4 = .ok (.aload_n 0, 1) := by decide +kernel
theorem dX1_init_5 : decode cX1_init 5 = .ok (.bipush 8, 2) := by decide +kernel
theorem dX1_init_7 : decode cX1_init 7 = .ok (.anewarray 9, 3) := by decide +kernel
theorem dX1_init_10 : decode cX1_init 10 = .ok (.putfield 11, 3) := by decide +kernel
theorem dX1_init_13 : decode cX1_init 13 = .ok (.iconst 0, 1) := by decide +kernel
theorem dX1_init_14 : decode cX1_init 14 = .ok (.istore_n 1, 1) := by decide +kernel
theorem dX1_init_15 : decode cX1_init 15 = .ok (.iload_n 1, 1) := by decide +kernel
theorem dX1_init_16 : decode cX1_init 16 = .ok (.bipush 8, 2) := by decide +kernel
theorem dX1_init_18 : decode cX1_init 18 = .ok (.if_icmp .ge 22, 3) := by decide +kernel
theorem dX1_init_21 : decode cX1_init 21 = .ok (.aload_n 0, 1) := by decide +kernel
theorem dX1_init_22 : decode cX1_init 22 = .ok (.getfield 11, 3) := by decide +kernel
theorem dX1_init_25 : decode cX1_init 25 = .ok (.iload_n 1, 1) := by decide +kernel
theorem dX1_init_26 : decode cX1_init 26 = .ok (.new 9, 3) := by decide +kernel
theorem dX1_init_29 : decode cX1_init 29 = .ok (.dup, 1) := by decide +kernel
theorem dX1_init_30 : decode cX1_init 30 = .ok (.invokespecial 17, 3) := by decide +kernel
theorem dX1_init_33 : decode cX1_init 33 = .ok (.aastore, 1) := by decide +kernel
theorem dX1_init_34 : decode cX1_init 34 = .ok (.iinc 1 1, 3) := by decide +kernel
theorem dX1_init_37 : decode cX1_init 37 = .ok (.goto (-22), 3) := by decide +kernel
theorem dX1_init_40 : decode cX1_init 40 = .ok (.return_, 1) := by decide +kernel
theorem dX1_keep_0 : decode cX1_keep 0 = .ok (.aload_n 0, 1) := by decide +kernel
theorem dX1_keep_1 : decode cX1_keep 1 = .ok (.getfield 11, 3) := by decide +kernel
theorem dX1_keep_4 : decode cX1_keep 4 = .ok (.aload_n 0, 1) := by decide +kernel
theorem dX1_keep_5 : decode cX1_keep 5 = .ok (.getfield 18, 3) := by decide +kernel
theorem dX1_keep_8 : decode cX1_keep 8 = .ok (.aaload, 1) := by decide +kernel
theorem dX1_keep_9 : decode cX1_keep 9 = .ok (.aload_n 1, 1) := by decide +kernel
theorem dX1_keep_10 : decode cX1_keep 10 = .ok (.invokevirtual 22, 3) := by decide +kernel
theorem dX1_keep_13 : decode cX1_keep 13 = .ok (.aload_n 0, 1) := by decide +kernel
theorem dX1_keep_14 : decode cX1_keep 14 = .ok (.aload_n 0, 1) := by decide +kernel
theorem dX1_keep_15 : decode cX1_keep 15 = .ok (.getfield 18, 3) := by decide +kernel
theorem dX1_keep_18 : decode cX1_keep 18 = .ok (.iconst 1, 1) := by decide +kernel
theorem dX1_keep_19 : decode cX1_keep 19 = .ok (.iadd, 1) := by decide +kernel
theorem dX1_keep_20 : decode cX1_keep 20 = .ok (.bipush 8, 2) := by decide +kernel
theorem dX1_keep_22 : decode cX1_keep 22 = .ok (.irem, 1) := by decide +kernel
theorem dX1_keep_23 : decode cX1_keep 23 = .ok (.putfield 18, 3) := by decide +kernel
theorem dX1_keep_26 : decode cX1_keep 26 = .ok (.aload_n 0, 1) := by decide +kernel
theorem dX1_keep_27 : decode cX1_keep 27 = .ok (.aload_n 0, 1) := by decide +kernel
theorem dX1_keep_28 : decode cX1_keep 28 = .ok (.getfield 26, 3) := by decide +kernel
theorem dX1_keep_31 : decode cX1_keep 31 = .ok (.iconst 1, 1) := by decide +kernel
theorem dX1_keep_32 : decode cX1_keep 32 = .ok (.iadd, 1) := by decide +kernel
theorem dX1_keep_33 : decode cX1_keep 33 = .ok (.bipush 8, 2) := by decide +kernel
theorem dX1_keep_35 : decode cX1_keep 35 = .ok (.invokestatic 29, 3) := by decide +kernel
theorem dX1_keep_38 : decode cX1_keep 38 = .ok (.putfield 26, 3) := by decide +kernel
theorem dX1_keep_41 : decode cX1_keep 41 = .ok (.return_, 1) := by decide +kernel
theorem dX1_goBack_0 : decode cX1_goBack 0 = .ok (.aload_n 0, 1) := by decide +kernel
theorem dX1_goBack_1 : decode cX1_goBack 1 = .ok (.aload_n 0, 1) := by decide +kernel
theorem dX1_goBack_2 : decode cX1_goBack 2 = .ok (.getfield 18, 3) := by decide +kernel
theorem dX1_goBack_5 : decode cX1_goBack 5 = .ok (.bipush 8, 2) := by decide +kernel
theorem dX1_goBack_7 : decode cX1_goBack 7 = .ok (.iadd, 1) := by decide +kernel
theorem dX1_goBack_8 : decode cX1_goBack 8 = .ok (.iconst 1, 1) := by decide +kernel
theorem dX1_goBack_9 : decode cX1_goBack 9 = .ok (.isub, 1) := by decide +kernel
theorem dX1_goBack_10 : decode cX1_goBack 10 = .ok (.bipush 8, 2) := by decide +kernel
theorem dX1_goBack_12 : decode cX1_goBack 12 = .ok (.irem, 1) := by decide +kernel
theorem dX1_goBack_13 : decode cX1_goBack 13 = .ok (.putfield 18, 3) := by decide +kernel
theorem dX1_goBack_16 : decode cX1_goBack 16 = .ok (.aload_n 1, 1) := by decide +kernel
theorem dX1_goBack_17 : decode cX1_goBack 17 = .ok (.aload_n 0, 1) := by decide +kernel
theorem dX1_goBack_18 : decode cX1_goBack 18 = .ok (.getfield 11, 3) := by decide +kernel
theorem dX1_goBack_21 : decode cX1_goBack 21 = .ok (.aload_n 0, 1) := by decide +kernel
theorem dX1_goBack_22 : decode cX1_goBack 22 = .ok (.getfield 18, 3) := by decide +kernel
theorem dX1_goBack_25 : decode cX1_goBack 25 = .ok (.aaload, 1) := by decide +kernel
theorem dX1_goBack_26 : decode cX1_goBack 26 = .ok (.invokevirtual 22, 3) := by decide +kernel
theorem dX1_goBack_29 : decode cX1_goBack 29 = .ok (.aload_n 0, 1) := by decide +kernel
theorem dX1_goBack_30 : decode cX1_goBack 30 = .ok (.dup, 1) := by decide +kernel
theorem dX1_goBack_31 : decode cX1_goBack 31 = .ok (.getfield 26, 3) := by decide +kernel
theorem dX1_goBack_34 : decode cX1_goBack 34 = .ok (.iconst 1, 1) := by decide +kernel
theorem dX1_goBack_35 : decode cX1_goBack 35 = .ok (.isub, 1) := by decide +kernel
theorem dX1_goBack_36 : decode cX1_goBack 36 = .ok (.putfield 26, 3) := by decide +kernel
theorem dX1_goBack_39 : decode cX1_goBack 39 = .ok (.return_, 1) := by decide +kernel
theorem dX1_forget_0 : decode cX1_forget 0 = .ok (.aload_n 0, 1) := by decide +kernel
theorem dX1_forget_1 : decode cX1_forget 1 = .ok (.iconst 0, 1) := by decide +kernel
theorem dX1_forget_2 : decode cX1_forget 2 = .ok (.putfield 26, 3) := by decide +kernel
theorem dX1_forget_5 : decode cX1_forget 5 = .ok (.return_, 1) := by decide +kernel
theorem dX2_init_0 : decode cX2_init 0 = .ok (.aload_n 0, 1) := by decide +kernel
theorem dX2_init_1 : decode cX2_init 1 = .ok (.invokespecial 3, 3) := by decide +kernel
theorem dX2_init_4 : decode cX2_init 4 = .ok (.aload_n 0, 1) := by decide +kernel
theorem dX2_init_5 : decode cX2_init 5 = .ok (.bipush 43, 2) := by decide +kernel
theorem dX2_init_7 : decode cX2_init 7 = .ok (.newarray .int, 2) := by decide +kernel
theorem dX2_init_9 : decode cX2_init 9 = .ok (.putfield 11, 3) := by decide +kernel
theorem dX2_init_12 : decode cX2_init 12 = .ok (.aload_n 0, 1) := by decide +kernel
theorem dX2_init_13 : decode cX2_init 13 = .ok (.bipush 43, 2) := by decide +kernel
theorem dX2_init_15 : decode cX2_init 15 = .ok (.newarray .int, 2) := by decide +kernel
theorem dX2_init_17 : decode cX2_init 17 = .ok (.putfield 15, 3) := by decide +kernel
theorem dX2_init_20 : decode cX2_init 20 = .ok (.aload_n 0, 1) := by decide +kernel
theorem dX2_init_21 : decode cX2_init 21 = .ok (.bipush 43, 2) := by decide +kernel
theorem dX2_init_23 : decode cX2_init 23 = .ok (.newarray .int, 2) := by decide +kernel
theorem dX2_init_25 : decode cX2_init 25 = .ok (.putfield 18, 3) := by decide +kernel
theorem dX2_init_28 : decode cX2_init 28 = .ok (.aload_n 0, 1) := by decide +kernel
theorem dX2_init_29 : decode cX2_init 29 = .ok (.bipush 43, 2) := by decide +kernel
theorem dX2_init_31 : decode cX2_init 31 = .ok (.newarray .int, 2) := by decide +kernel
theorem dX2_init_33 : decode cX2_init 33 = .ok (.putfield 21, 3) := by decide +kernel
theorem dX2_init_36 : decode cX2_init 36 = .ok (.aload_n 0, 1) := by decide +kernel
theorem dX2_init_37 : decode cX2_init 37 = .ok (.sipush 430, 3) := by decide +kernel
theorem dX2_init_40 : decode cX2_init 40 = .ok (.newarray .int, 2) := by decide +kernel
theorem dX2_init_42 : decode cX2_init 42 = .ok (.putfield 24, 3) := by decide +kernel
theorem dX2_init_45 : decode cX2_init 45 = .ok (.aload_n 0, 1) := by decide +kernel
theorem dX2_init_46 : decode cX2_init 46 = .ok (.bipush 10, 2) := by decide +kernel
theorem dX2_init_48 : decode cX2_init 48 = .ok (.newarray .int, 2) := by decide +kernel
theorem dX2_init_50 : decode cX2_init 50 = .ok (.putfield 27, 3) := by decide +kernel
theorem dX2_init_53 : decode cX2_init 53 = .ok (.aload_n 0, 1) := by decide +kernel
theorem dX2_init_54 : decode cX2_init 54 = .ok (.bipush 10, 2) := by decide +kernel
theorem dX2_init_56 : decode cX2_init 56 = .ok (.newarray .int, 2) := by decide +kernel
theorem dX2_init_58 : decode cX2_init 58 = .ok (.putfield 30, 3) := by decide +kernel
theorem dX2_init_61 : decode cX2_init 61 = .ok (.aload_n 0, 1) := by decide +kernel
theorem dX2_init_62 : decode cX2_init 62 = .ok (.bipush 10, 2) := by decide +kernel
theorem dX2_init_64 : decode cX2_init 64 = .ok (.newarray .int, 2) := by decide +kernel
theorem dX2_init_66 : decode cX2_init 66 = .ok (.putfield 33, 3) := by decide +kernel
theorem dX2_init_69 : decode cX2_init 69 = .ok (.return_, 1) := by decide +kernel
theorem dX2_startEmpty_0 : decode cX2_startEmpty 0 = .ok (.aload_n 0, 1) := by decide +kernel
theorem dX2_startEmpty_1 : decode cX2_startEmpty 1 = .ok (.iconst 0, 1) := by decide +kernel
theorem dX2_startEmpty_2 : decode cX2_startEmpty 2 = .ok (.putfield 36, 3) := by decide +kernel
theorem dX2_startEmpty_5 : decode cX2_startEmpty 5 = .ok (.aload_n 0, 1) := by decide +kernel
theorem dX2_startEmpty_6 : decode cX2_startEmpty 6 = .ok (.getfield 24, 3) := by decide +kernel
theorem dX2_startEmpty_9 : decode cX2_startEmpty 9 = .ok (.iconst 0, 1) := by decide +kernel
theorem dX2_startEmpty_10 : decode cX2_startEmpty 10 = .ok (.invokestatic 40, 3) := by decide +kernel
theorem dX2_startEmpty_13 : decode cX2_startEmpty 13 = .ok (.return_, 1) := by decide +kernel
theorem dX2_offer_0 : decode cX2_offer 0 = .ok (.iload_n 3, 1) := by decide +kernel
theorem dX2_offer_1 : decode cX2_offer 1 = .ok (.ifCond .le 62, 3) := by decide +kernel
theorem dX2_offer_4 : decode cX2_offer 4 = .ok (.aload_n 0, 1) := by decide +kernel
theorem dX2_offer_5 : decode cX2_offer 5 = .ok (.getfield 36, 3) := by decide +kernel
theorem dX2_offer_8 : decode cX2_offer 8 = .ok (.bipush 43, 2) := by decide +kernel
theorem dX2_offer_10 : decode cX2_offer 10 = .ok (.if_icmp .ge 53, 3) := by decide +kernel
theorem dX2_offer_13 : decode cX2_offer 13 = .ok (.aload_n 0, 1) := by decide +kernel
theorem dX2_offer_14 : decode cX2_offer 14 = .ok (.getfield 11, 3) := by decide +kernel
theorem dX2_offer_17 : decode cX2_offer 17 = .ok (.aload_n 0, 1) := by decide +kernel
theorem dX2_offer_18 : decode cX2_offer 18 = .ok (.getfield 36, 3) := by decide +kernel
theorem dX2_offer_21 : decode cX2_offer 21 = .ok (.iload_n 1, 1) := by decide +kernel
theorem dX2_offer_22 : decode cX2_offer 22 = .ok (.iastore, 1) := by decide +kernel
theorem dX2_offer_23 : decode cX2_offer 23 = .ok (.aload_n 0, 1) := by decide +kernel
theorem dX2_offer_24 : decode cX2_offer 24 = .ok (.getfield 15, 3) := by decide +kernel
theorem dX2_offer_27 : decode cX2_offer 27 = .ok (.aload_n 0, 1) := by decide +kernel
theorem dX2_offer_28 : decode cX2_offer 28 = .ok (.getfield 36, 3) := by decide +kernel
theorem dX2_offer_31 : decode cX2_offer 31 = .ok (.iload_n 2, 1) := by decide +kernel
theorem dX2_offer_32 : decode cX2_offer 32 = .ok (.iastore, 1) := by decide +kernel
theorem dX2_offer_33 : decode cX2_offer 33 = .ok (.aload_n 0, 1) := by decide +kernel
theorem dX2_offer_34 : decode cX2_offer 34 = .ok (.getfield 18, 3) := by decide +kernel
theorem dX2_offer_37 : decode cX2_offer 37 = .ok (.aload_n 0, 1) := by decide +kernel
theorem dX2_offer_38 : decode cX2_offer 38 = .ok (.getfield 36, 3) := by decide +kernel
theorem dX2_offer_41 : decode cX2_offer 41 = .ok (.iload_n 3, 1) := by decide +kernel
theorem dX2_offer_42 : decode cX2_offer 42 = .ok (.iastore, 1) := by decide +kernel
theorem dX2_offer_43 : decode cX2_offer 43 = .ok (.aload_n 0, 1) := by decide +kernel
theorem dX2_offer_44 : decode cX2_offer 44 = .ok (.getfield 21, 3) := by decide +kernel
theorem dX2_offer_47 : decode cX2_offer 47 = .ok (.aload_n 0, 1) := by decide +kernel
theorem dX2_offer_48 : decode cX2_offer 48 = .ok (.getfield 36, 3) := by decide +kernel
theorem dX2_offer_51 : decode cX2_offer 51 = .ok (.iconst 0, 1) := by decide +kernel
theorem dX2_offer_52 : decode cX2_offer 52 = .ok (.iastore, 1) := by decide +kernel
theorem dX2_offer_53 : decode cX2_offer 53 = .ok (.aload_n 0, 1) := by decide +kernel
theorem dX2_offer_54 : decode cX2_offer 54 = .ok (.dup, 1) := by decide +kernel
theorem dX2_offer_55 : decode cX2_offer 55 = .ok (.getfield 36, 3) := by decide +kernel
theorem dX2_offer_58 : decode cX2_offer 58 = .ok (.iconst 1, 1) := by decide +kernel
theorem dX2_offer_59 : decode cX2_offer 59 = .ok (.iadd, 1) := by decide +kernel
theorem dX2_offer_60 : decode cX2_offer 60 = .ok (.putfield 36, 3) := by decide +kernel
theorem dX2_offer_63 : decode cX2_offer 63 = .ok (.return_, 1) := by decide +kernel
theorem dX2_addDigitsOf_0 : decode cX2_addDigitsOf 0 = .ok (.iload_n 1, 1) := by decide +kernel
theorem dX2_addDigitsOf_1 : decode cX2_addDigitsOf 1 = .ok (.istore_n 2, 1) := by decide +kernel
theorem dX2_addDigitsOf_2 : decode cX2_addDigitsOf 2 = .ok (.iload_n 2, 1) := by decide +kernel
theorem dX2_addDigitsOf_3 : decode cX2_addDigitsOf 3 = .ok (.ifCond .le 30, 3) := by decide +kernel
theorem dX2_addDigitsOf_6 : decode cX2_addDigitsOf 6 = .ok (.aload_n 0, 1) := by decide +kernel
theorem dX2_addDigitsOf_7 : decode cX2_addDigitsOf 7 = .ok (.iload_n 2, 1) := by decide +kernel
theorem dX2_addDigitsOf_8 : decode cX2_addDigitsOf 8 = .ok (.bipush 10, 2) := by decide +kernel
theorem dX2_addDigitsOf_10 : decode cX2_addDigitsOf 10 = .ok (.irem, 1) := by decide +kernel
theorem dX2_addDigitsOf_11 : decode cX2_addDigitsOf 11 = .ok (.invokevirtual 46, 3) := by decide +kernel
theorem dX2_addDigitsOf_14 : decode cX2_addDigitsOf 14 = .ok (.ifCond .ne 11, 3) := by decide +kernel
theorem dX2_addDigitsOf_17 : decode cX2_addDigitsOf 17 = .ok (.aload_n 0, 1) := by decide +kernel
theorem dX2_addDigitsOf_18 : decode cX2_addDigitsOf 18 = .ok (.iload_n 1, 1) := by decide +kernel
theorem dX2_addDigitsOf_19 : decode cX2_addDigitsOf 19 = .ok (.iload_n 2, 1) := by decide +kernel
theorem dX2_addDigitsOf_20 : decode cX2_addDigitsOf 20 = .ok (.invokevirtual 50, 3) := by decide +kernel
theorem dX2_addDigitsOf_23 : decode cX2_addDigitsOf 23 = .ok (.iconst 0, 1) := by decide +kernel
theorem dX2_addDigitsOf_24 : decode cX2_addDigitsOf 24 = .ok (.ireturn, 1) := by decide +kernel
theorem dX2_addDigitsOf_25 : decode cX2_addDigitsOf 25 = .ok (.iload_n 2, 1) := by decide +kernel
theorem dX2_addDigitsOf_26 : decode cX2_addDigitsOf 26 = .ok (.bipush 10, 2) := by decide +kernel
theorem dX2_addDigitsOf_28 : decode cX2_addDigitsOf 28 = .ok (.idiv, 1) := by decide +kernel
theorem dX2_addDigitsOf_29 : decode cX2_addDigitsOf 29 = .ok (.istore_n 2, 1) := by decide +kernel
theorem dX2_addDigitsOf_30 : decode cX2_addDigitsOf 30 = .ok (.goto (-28), 3) := by decide +kernel
theorem dX2_addDigitsOf_33 : decode cX2_addDigitsOf 33 = .ok (.iconst 1, 1) := by decide +kernel
theorem dX2_addDigitsOf_34 : decode cX2_addDigitsOf 34 = .ok (.ireturn, 1) := by decide +kernel
theorem dX2_dropDigitsOf_0 : decode cX2_dropDigitsOf 0 = .ok (.iload_n 1, 1) := by decide +kernel
theorem dX2_dropDigitsOf_1 : decode cX2_dropDigitsOf 1 = .ok (.istore_n 3, 1) := by decide +kernel
theorem dX2_dropDigitsOf_2 : decode cX2_dropDigitsOf 2 = .ok (.iload_n 3, 1) := by decide +kernel
theorem dX2_dropDigitsOf_3 : decode cX2_dropDigitsOf 3 = .ok (.ifCond .le 43, 3) := by decide +kernel
theorem dX2_dropDigitsOf_6 : decode cX2_dropDigitsOf 6 = .ok (.iload_n 3, 1) := by decide +kernel
theorem dX2_dropDigitsOf_7 : decode cX2_dropDigitsOf 7 = .ok (.iload_n 2, 1) := by decide +kernel
theorem dX2_dropDigitsOf_8 : decode cX2_dropDigitsOf 8 = .ok (.if_icmp .le 38, 3) := by decide +kernel
theorem dX2_dropDigitsOf_11 : decode cX2_dropDigitsOf 11 = .ok (.aload_n 0, 1) := by decide +kernel
theorem dX2_dropDigitsOf_12 : decode cX2_dropDigitsOf 12 = .ok (.iload_n 3, 1) := by decide +kernel
theorem dX2_dropDigitsOf_13 : decode cX2_dropDigitsOf 13 = .ok (.bipush 10, 2) := by decide +kernel
theorem dX2_dropDigitsOf_15 : decode cX2_dropDigitsOf 15 = .ok (.irem, 1) := by decide +kernel
theorem dX2_dropDigitsOf_16 : decode cX2_dropDigitsOf 16 = .ok (.invokevirtual 54, 3) := by decide +kernel
theorem dX2_dropDigitsOf_19 : decode cX2_dropDigitsOf 19 = .ok (.istore 4, 2) := by decide +kernel
theorem dX2_dropDigitsOf_21 : decode cX2_dropDigitsOf 21 = .ok (.iload 4, 2) := by decide +kernel
theorem dX2_dropDigitsOf_23 : decode cX2_dropDigitsOf 23 = .ok (.iconst (-1), 1) := by decide +kernel
theorem dX2_dropDigitsOf_24 : decode cX2_dropDigitsOf 24 = .ok (.if_icmp .eq 14, 3) := by decide +kernel
theorem dX2_dropDigitsOf_27 : decode cX2_dropDigitsOf 27 = .ok (.aload_n 0, 1) := by decide +kernel
theorem dX2_dropDigitsOf_28 : decode cX2_dropDigitsOf 28 = .ok (.iload 4, 2) := by decide +kernel
theorem dX2_dropDigitsOf_30 : decode cX2_dropDigitsOf 30 = .ok (.iload_n 3, 1) := by decide +kernel
theorem dX2_dropDigitsOf_31 : decode cX2_dropDigitsOf 31 = .ok (.bipush 10, 2) := by decide +kernel
theorem dX2_dropDigitsOf_33 : decode cX2_dropDigitsOf 33 = .ok (.irem, 1) := by decide +kernel
theorem dX2_dropDigitsOf_34 : decode cX2_dropDigitsOf 34 = .ok (.iconst (-1), 1) := by decide +kernel
theorem dX2_dropDigitsOf_35 : decode cX2_dropDigitsOf 35 = .ok (.invokevirtual 58, 3) := by decide +kernel
theorem dX2_dropDigitsOf_38 : decode cX2_dropDigitsOf 38 = .ok (.iload_n 3, 1) := by decide +kernel
theorem dX2_dropDigitsOf_39 : decode cX2_dropDigitsOf 39 = .ok (.bipush 10, 2) := by decide +kernel
theorem dX2_dropDigitsOf_41 : decode cX2_dropDigitsOf 41 = .ok (.idiv, 1) := by decide +kernel
theorem dX2_dropDigitsOf_42 : decode cX2_dropDigitsOf 42 = .ok (.istore_n 3, 1) := by decide +kernel
theorem dX2_dropDigitsOf_43 : decode cX2_dropDigitsOf 43 = .ok (.goto (-41), 3) := by decide +kernel
theorem dX2_dropDigitsOf_46 : decode cX2_dropDigitsOf 46 = .ok (.return_, 1) := by decide +kernel
theorem dX2_addDigit_0 : decode cX2_addDigit 0 = .ok (.iconst 1, 1) := by decide +kernel
theorem dX2_addDigit_1 : decode cX2_addDigit 1 = .ok (.iload_n 1, 1) := by decide +kernel
theorem dX2_addDigit_2 : decode cX2_addDigit 2 = .ok (.ishl, 1) := by decide +kernel
theorem dX2_addDigit_3 : decode cX2_addDigit 3 = .ok (.istore_n 2, 1) := by decide +kernel
theorem dX2_addDigit_4 : decode cX2_addDigit 4 = .ok (.aload_n 0, 1) := by decide +kernel
theorem dX2_addDigit_5 : decode cX2_addDigit 5 = .ok (.getfield 27, 3) := by decide +kernel
theorem dX2_addDigit_8 : decode cX2_addDigit 8 = .ok (.iconst 0, 1) := by decide +kernel
theorem dX2_addDigit_9 : decode cX2_addDigit 9 = .ok (.iload_n 1, 1) := by decide +kernel
theorem dX2_addDigit_10 : decode cX2_addDigit 10 = .ok (.iastore, 1) := by decide +kernel
theorem dX2_addDigit_11 : decode cX2_addDigit 11 = .ok (.iconst 1, 1) := by decide +kernel
theorem dX2_addDigit_12 : decode cX2_addDigit 12 = .ok (.istore_n 3, 1) := by decide +kernel
theorem dX2_addDigit_13 : decode cX2_addDigit 13 = .ok (.iconst 0, 1) := by decide +kernel
theorem dX2_addDigit_14 : decode cX2_addDigit 14 = .ok (.istore 4, 2) := by decide +kernel
theorem dX2_addDigit_16 : decode cX2_addDigit 16 = .ok (.iload 4, 2) := by decide +kernel
theorem dX2_addDigit_18 : decode cX2_addDigit 18 = .ok (.iload_n 3, 1) := by decide +kernel
theorem dX2_addDigit_19 : decode cX2_addDigit 19 = .ok (.if_icmp .ge 166, 3) := by decide +kernel
theorem dX2_addDigit_22 : decode cX2_addDigit 22 = .ok (.iload 4, 2) := by decide +kernel
theorem dX2_addDigit_24 : decode cX2_addDigit 24 = .ok (.bipush 10, 2) := by decide +kernel
theorem dX2_addDigit_26 : decode cX2_addDigit 26 = .ok (.if_icmp .ge 159, 3) := by decide +kernel
theorem dX2_addDigit_29 : decode cX2_addDigit 29 = .ok (.aload_n 0, 1) := by decide +kernel
theorem dX2_addDigit_30 : decode cX2_addDigit 30 = .ok (.getfield 27, 3) := by decide +kernel
theorem dX2_addDigit_33 : decode cX2_addDigit 33 = .ok (.iload 4, 2) := by decide +kernel
theorem dX2_addDigit_35 : decode cX2_addDigit 35 = .ok (.iaload, 1) := by decide +kernel
theorem dX2_addDigit_36 : decode cX2_addDigit 36 = .ok (.istore 5, 2) := by decide +kernel
theorem dX2_addDigit_38 : decode cX2_addDigit 38 = .ok (.iconst 0, 1) := by decide +kernel
theorem dX2_addDigit_39 : decode cX2_addDigit 39 = .ok (.istore 6, 2) := by decide +kernel
theorem dX2_addDigit_41 : decode cX2_addDigit 41 = .ok (.iload 6, 2) := by decide +kernel
theorem dX2_addDigit_43 : decode cX2_addDigit 43 = .ok (.aload_n 0, 1) := by decide +kernel
theorem dX2_addDigit_44 : decode cX2_addDigit 44 = .ok (.getfield 36, 3) := by decide +kernel
theorem dX2_addDigit_47 : decode cX2_addDigit 47 = .ok (.if_icmp .ge 132, 3) := by decide +kernel
theorem dX2_addDigit_50 : decode cX2_addDigit 50 = .ok (.aload_n 0, 1) := by decide +kernel
theorem dX2_addDigit_51 : decode cX2_addDigit 51 = .ok (.getfield 15, 3) := by decide +kernel
theorem dX2_addDigit_54 : decode cX2_addDigit 54 = .ok (.iload 6, 2) := by decide +kernel
theorem dX2_addDigit_56 : decode cX2_addDigit 56 = .ok (.iaload, 1) := by decide +kernel
theorem dX2_addDigit_57 : decode cX2_addDigit 57 = .ok (.iload 5, 2) := by decide +kernel
theorem dX2_addDigit_59 : decode cX2_addDigit 59 = .ok (.ishr, 1) := by decide +kernel
theorem dX2_addDigit_60 : decode cX2_addDigit 60 = .ok (.iconst 1, 1) := by decide +kernel
theorem dX2_addDigit_61 : decode cX2_addDigit 61 = .ok (.iand, 1) := by decide +kernel
theorem dX2_addDigit_62 : decode cX2_addDigit 62 = .ok (.ifCond .ne 6, 3) := by decide +kernel
theorem dX2_addDigit_65 : decode cX2_addDigit 65 = .ok (.goto 108, 3) := by decide +kernel
theorem dX2_addDigit_68 : decode cX2_addDigit 68 = .ok (.aload_n 0, 1) := by decide +kernel
theorem dX2_addDigit_69 : decode cX2_addDigit 69 = .ok (.getfield 21, 3) := by decide +kernel
theorem dX2_addDigit_72 : decode cX2_addDigit 72 = .ok (.iload 6, 2) := by decide +kernel
theorem dX2_addDigit_74 : decode cX2_addDigit 74 = .ok (.iaload, 1) := by decide +kernel
theorem dX2_addDigit_75 : decode cX2_addDigit 75 = .ok (.aload_n 0, 1) := by decide +kernel
theorem dX2_addDigit_76 : decode cX2_addDigit 76 = .ok (.getfield 18, 3) := by decide +kernel
theorem dX2_addDigit_79 : decode cX2_addDigit 79 = .ok (.iload 6, 2) := by decide +kernel
theorem dX2_addDigit_81 : decode cX2_addDigit 81 = .ok (.iaload, 1) := by decide +kernel
theorem dX2_addDigit_82 : decode cX2_addDigit 82 = .ok (.if_icmp .ge 14, 3) := by decide +kernel
theorem dX2_addDigit_85 : decode cX2_addDigit 85 = .ok (.aload_n 0, 1) := by decide +kernel
theorem dX2_addDigit_86 : decode cX2_addDigit 86 = .ok (.iload_n 1, 1) := by decide +kernel
theorem dX2_addDigit_87 : decode cX2_addDigit 87 = .ok (.iload 5, 2) := by decide +kernel
theorem dX2_addDigit_89 : decode cX2_addDigit 89 = .ok (.iload 6, 2) := by decide +kernel
theorem dX2_addDigit_91 : decode cX2_addDigit 91 = .ok (.invokevirtual 62, 3) := by decide +kernel
theorem dX2_addDigit_94 : decode cX2_addDigit 94 = .ok (.iconst 1, 1) := by decide +kernel
theorem dX2_addDigit_95 : decode cX2_addDigit 95 = .ok (.ireturn, 1) := by decide +kernel
theorem dX2_addDigit_96 : decode cX2_addDigit 96 = .ok (.iconst 0, 1) := by decide +kernel
theorem dX2_addDigit_97 : decode cX2_addDigit 97 = .ok (.istore 7, 2) := by decide +kernel
theorem dX2_addDigit_99 : decode cX2_addDigit 99 = .ok (.iload 7, 2) := by decide +kernel
theorem dX2_addDigit_101 : decode cX2_addDigit 101 = .ok (.bipush 10, 2) := by decide +kernel
theorem dX2_addDigit_103 : decode cX2_addDigit 103 = .ok (.if_icmp .ge 70, 3) := by decide +kernel
theorem dX2_addDigit_106 : decode cX2_addDigit 106 = .ok (.iload_n 2, 1) := by decide +kernel
theorem dX2_addDigit_107 : decode cX2_addDigit 107 = .ok (.iload 7, 2) := by decide +kernel
theorem dX2_addDigit_109 : decode cX2_addDigit 109 = .ok (.ishr, 1) := by decide +kernel
theorem dX2_addDigit_110 : decode cX2_addDigit 110 = .ok (.iconst 1, 1) := by decide +kernel
theorem dX2_addDigit_111 : decode cX2_addDigit 111 = .ok (.iand, 1) := by decide +kernel
theorem dX2_addDigit_112 : decode cX2_addDigit 112 = .ok (.ifCond .ne 55, 3) := by decide +kernel
theorem dX2_addDigit_115 : decode cX2_addDigit 115 = .ok (.aload_n 0, 1) := by decide +kernel
theorem dX2_addDigit_116 : decode cX2_addDigit 116 = .ok (.getfield 24, 3) := by decide +kernel
theorem dX2_addDigit_119 : decode cX2_addDigit 119 = .ok (.iload 6, 2) := by decide +kernel
theorem dX2_addDigit_121 : decode cX2_addDigit 121 = .ok (.bipush 10, 2) := by decide +kernel
theorem dX2_addDigit_123 : decode cX2_addDigit 123 = .ok (.imul, 1) := by decide +kernel
theorem dX2_addDigit_124 : decode cX2_addDigit 124 = .ok (.iload 7, 2) := by decide +kernel
theorem dX2_addDigit_126 : decode cX2_addDigit 126 = .ok (.iadd, 1) := by decide +kernel
theorem dX2_addDigit_127 : decode cX2_addDigit 127 = .ok (.iaload, 1) := by decide +kernel
theorem dX2_addDigit_128 : decode cX2_addDigit 128 = .ok (.ifCond .le 39, 3) := by decide +kernel
theorem dX2_addDigit_131 : decode cX2_addDigit 131 = .ok (.iload_n 2, 1) := by decide +kernel
theorem dX2_addDigit_132 : decode cX2_addDigit 132 = .ok (.iconst 1, 1) := by decide +kernel
theorem dX2_addDigit_133 : decode cX2_addDigit 133 = .ok (.iload 7, 2) := by decide +kernel
theorem dX2_addDigit_135 : decode cX2_addDigit 135 = .ok (.ishl, 1) := by decide +kernel
theorem dX2_addDigit_136 : decode cX2_addDigit 136 = .ok (.ior, 1) := by decide +kernel
theorem dX2_addDigit_137 : decode cX2_addDigit 137 = .ok (.istore_n 2, 1) := by decide +kernel
theorem dX2_addDigit_138 : decode cX2_addDigit 138 = .ok (.aload_n 0, 1) := by decide +kernel
theorem dX2_addDigit_139 : decode cX2_addDigit 139 = .ok (.getfield 30, 3) := by decide +kernel
theorem dX2_addDigit_142 : decode cX2_addDigit 142 = .ok (.iload 7, 2) := by decide +kernel
theorem dX2_addDigit_144 : decode cX2_addDigit 144 = .ok (.iload 5, 2) := by decide +kernel
theorem dX2_addDigit_146 : decode cX2_addDigit 146 = .ok (.iastore, 1) := by decide +kernel
theorem dX2_addDigit_147 : decode cX2_addDigit 147 = .ok (.aload_n 0, 1) := by decide +kernel
theorem dX2_addDigit_148 : decode cX2_addDigit 148 = .ok (.getfield 33, 3) := by decide +kernel
theorem dX2_addDigit_151 : decode cX2_addDigit 151 = .ok (.iload 7, 2) := by decide +kernel
theorem dX2_addDigit_153 : decode cX2_addDigit 153 = .ok (.iload 6, 2) := by decide +kernel
theorem dX2_addDigit_155 : decode cX2_addDigit 155 = .ok (.iastore, 1) := by decide +kernel
theorem dX2_addDigit_156 : decode cX2_addDigit 156 = .ok (.aload_n 0, 1) := by decide +kernel
theorem dX2_addDigit_157 : decode cX2_addDigit 157 = .ok (.getfield 27, 3) := by decide +kernel
theorem dX2_addDigit_160 : decode cX2_addDigit 160 = .ok (.iload_n 3, 1) := by decide +kernel
theorem dX2_addDigit_161 : decode cX2_addDigit 161 = .ok (.iload 7, 2) := by decide +kernel
theorem dX2_addDigit_163 : decode cX2_addDigit 163 = .ok (.iastore, 1) := by decide +kernel
theorem dX2_addDigit_164 : decode cX2_addDigit 164 = .ok (.iinc 3 1, 3) := by decide +kernel
theorem dX2_addDigit_167 : decode cX2_addDigit 167 = .ok (.iinc 7 1, 3) := by decide +kernel
theorem dX2_addDigit_170 : decode cX2_addDigit 170 = .ok (.goto (-71), 3) := by decide +kernel
theorem dX2_addDigit_173 : decode cX2_addDigit 173 = .ok (.iinc 6 1, 3) := by decide +kernel
theorem dX2_addDigit_176 : decode cX2_addDigit 176 = .ok (.goto (-135), 3) := by decide +kernel
theorem dX2_addDigit_179 : decode cX2_addDigit 179 = .ok (.iinc 4 1, 3) := by decide +kernel
theorem dX2_addDigit_182 : decode cX2_addDigit 182 = .ok (.goto (-166), 3) := by decide +kernel
theorem dX2_addDigit_185 : decode cX2_addDigit 185 = .ok (.iconst 0, 1) := by decide +kernel
theorem dX2_addDigit_186 : decode cX2_addDigit 186 = .ok (.ireturn, 1) := by decide +kernel
theorem dX2_passOn_0 : decode cX2_passOn 0 = .ok (.aload_n 0, 1) := by decide +kernel
theorem dX2_passOn_1 : decode cX2_passOn 1 = .ok (.iload_n 3, 1) := by decide +kernel
theorem dX2_passOn_2 : decode cX2_passOn 2 = .ok (.iload_n 2, 1) := by decide +kernel
theorem dX2_passOn_3 : decode cX2_passOn 3 = .ok (.iconst 1, 1) := by decide +kernel
theorem dX2_passOn_4 : decode cX2_passOn 4 = .ok (.invokevirtual 58, 3) := by decide +kernel
theorem dX2_passOn_7 : decode cX2_passOn 7 = .ok (.iload_n 2, 1) := by decide +kernel
theorem dX2_passOn_8 : decode cX2_passOn 8 = .ok (.istore 4, 2) := by decide +kernel
theorem dX2_passOn_10 : decode cX2_passOn 10 = .ok (.iconst 0, 1) := by decide +kernel
theorem dX2_passOn_11 : decode cX2_passOn 11 = .ok (.istore 5, 2) := by decide +kernel
theorem dX2_passOn_13 : decode cX2_passOn 13 = .ok (.iload 5, 2) := by decide +kernel
theorem dX2_passOn_15 : decode cX2_passOn 15 = .ok (.bipush 10, 2) := by decide +kernel
theorem dX2_passOn_17 : decode cX2_passOn 17 = .ok (.if_icmp .ge 56, 3) := by decide +kernel
theorem dX2_passOn_20 : decode cX2_passOn 20 = .ok (.iload 4, 2) := by decide +kernel
theorem dX2_passOn_22 : decode cX2_passOn 22 = .ok (.iload_n 1, 1) := by decide +kernel
theorem dX2_passOn_23 : decode cX2_passOn 23 = .ok (.if_icmp .eq 50, 3) := by decide +kernel
theorem dX2_passOn_26 : decode cX2_passOn 26 = .ok (.aload_n 0, 1) := by decide +kernel
theorem dX2_passOn_27 : decode cX2_passOn 27 = .ok (.getfield 30, 3) := by decide +kernel
theorem dX2_passOn_30 : decode cX2_passOn 30 = .ok (.iload 4, 2) := by decide +kernel
theorem dX2_passOn_32 : decode cX2_passOn 32 = .ok (.iaload, 1) := by decide +kernel
theorem dX2_passOn_33 : decode cX2_passOn 33 = .ok (.istore 6, 2) := by decide +kernel
theorem dX2_passOn_35 : decode cX2_passOn 35 = .ok (.aload_n 0, 1) := by decide +kernel
theorem dX2_passOn_36 : decode cX2_passOn 36 = .ok (.aload_n 0, 1) := by decide +kernel
theorem dX2_passOn_37 : decode cX2_passOn 37 = .ok (.getfield 33, 3) := by decide +kernel
theorem dX2_passOn_40 : decode cX2_passOn 40 = .ok (.iload 4, 2) := by decide +kernel
theorem dX2_passOn_42 : decode cX2_passOn 42 = .ok (.iaload, 1) := by decide +kernel
theorem dX2_passOn_43 : decode cX2_passOn 43 = .ok (.iload 4, 2) := by decide +kernel
theorem dX2_passOn_45 : decode cX2_passOn 45 = .ok (.iconst (-1), 1) := by decide +kernel
theorem dX2_passOn_46 : decode cX2_passOn 46 = .ok (.invokevirtual 58, 3) := by decide +kernel
theorem dX2_passOn_49 : decode cX2_passOn 49 = .ok (.aload_n 0, 1) := by decide +kernel
theorem dX2_passOn_50 : decode cX2_passOn 50 = .ok (.aload_n 0, 1) := by decide +kernel
theorem dX2_passOn_51 : decode cX2_passOn 51 = .ok (.getfield 33, 3) := by decide +kernel
theorem dX2_passOn_54 : decode cX2_passOn 54 = .ok (.iload 4, 2) := by decide +kernel
theorem dX2_passOn_56 : decode cX2_passOn 56 = .ok (.iaload, 1) := by decide +kernel
theorem dX2_passOn_57 : decode cX2_passOn 57 = .ok (.iload 6, 2) := by decide +kernel
theorem dX2_passOn_59 : decode cX2_passOn 59 = .ok (.iconst 1, 1) := by decide +kernel
theorem dX2_passOn_60 : decode cX2_passOn 60 = .ok (.invokevirtual 58, 3) := by decide +kernel
theorem dX2_passOn_63 : decode cX2_passOn 63 = .ok (.iload 6, 2) := by decide +kernel
theorem dX2_passOn_65 : decode cX2_passOn 65 = .ok (.istore 4, 2) := by decide +kernel
theorem dX2_passOn_67 : decode cX2_passOn 67 = .ok (.iinc 5 1, 3) := by decide +kernel
theorem dX2_passOn_70 : decode cX2_passOn 70 = .ok (.goto (-57), 3) := by decide +kernel
theorem dX2_passOn_73 : decode cX2_passOn 73 = .ok (.return_, 1) := by decide +kernel
theorem dX2_change_0 : decode cX2_change 0 = .ok (.aload_n 0, 1) := by decide +kernel
theorem dX2_change_1 : decode cX2_change 1 = .ok (.getfield 24, 3) := by decide +kernel
theorem dX2_change_4 : decode cX2_change 4 = .ok (.iload_n 1, 1) := by decide +kernel
theorem dX2_change_5 : decode cX2_change 5 = .ok (.bipush 10, 2) := by decide +kernel
theorem dX2_change_7 : decode cX2_change 7 = .ok (.imul, 1) := by decide +kernel
theorem dX2_change_8 : decode cX2_change 8 = .ok (.iload_n 2, 1) := by decide +kernel
theorem dX2_change_9 : decode cX2_change 9 = .ok (.iadd, 1) := by decide +kernel
theorem dX2_change_10 : decode cX2_change 10 = .ok (.dup2, 1) := by decide +kernel
theorem dX2_change_11 : decode cX2_change 11 = .ok (.iaload, 1) := by decide +kernel
theorem dX2_change_12 : decode cX2_change 12 = .ok (.iload_n 3, 1) := by decide +kernel
theorem dX2_change_13 : decode cX2_change 13 = .ok (.iadd, 1) := by decide +kernel
theorem dX2_change_14 : decode cX2_change 14 = .ok (.iastore, 1) := by decide +kernel
theorem dX2_change_15 : decode cX2_change 15 = .ok (.aload_n 0, 1) := by decide +kernel
theorem dX2_change_16 : decode cX2_change 16 = .ok (.getfield 21, 3) := by decide +kernel
theorem dX2_change_19 : decode cX2_change 19 = .ok (.iload_n 1, 1) := by decide +kernel
theorem dX2_change_20 : decode cX2_change 20 = .ok (.dup2, 1) := by decide +kernel
theorem dX2_change_21 : decode cX2_change 21 = .ok (.iaload, 1) := by decide +kernel
theorem dX2_change_22 : decode cX2_change 22 = .ok (.iload_n 3, 1) := by decide +kernel
theorem dX2_change_23 : decode cX2_change 23 = .ok (.iadd, 1) := by decide +kernel
theorem dX2_change_24 : decode cX2_change 24 = .ok (.iastore, 1) := by decide +kernel
theorem dX2_change_25 : decode cX2_change 25 = .ok (.return_, 1) := by decide +kernel
theorem dX2_offerThatShows_0 : decode cX2_offerThatShows 0 = .ok (.iconst 0, 1) := by decide +kernel
theorem dX2_offerThatShows_1 : decode cX2_offerThatShows 1 = .ok (.istore_n 2, 1) := by decide +kernel
theorem dX2_offerThatShows_2 : decode cX2_offerThatShows 2 = .ok (.iload_n 2, 1) := by decide +kernel
theorem dX2_offerThatShows_3 : decode cX2_offerThatShows 3 = .ok (.aload_n 0, 1) := by decide +kernel
theorem dX2_offerThatShows_4 : decode cX2_offerThatShows 4 = .ok (.getfield 36, 3) := by decide +kernel
theorem dX2_offerThatShows_7 : decode cX2_offerThatShows 7 = .ok (.if_icmp .ge 25, 3) := by decide +kernel
theorem dX2_offerThatShows_10 : decode cX2_offerThatShows 10 = .ok (.aload_n 0, 1) := by decide +kernel
theorem dX2_offerThatShows_11 : decode cX2_offerThatShows 11 = .ok (.getfield 24, 3) := by decide +kernel
theorem dX2_offerThatShows_14 : decode cX2_offerThatShows 14 = .ok (.iload_n 2, 1) := by decide +kernel
theorem dX2_offerThatShows_15 : decode cX2_offerThatShows 15 = .ok (.bipush 10, 2) := by decide +kernel
theorem dX2_offerThatShows_17 : decode cX2_offerThatShows 17 = .ok (.imul, 1) := by decide +kernel
theorem dX2_offerThatShows_18 : decode cX2_offerThatShows 18 = .ok (.iload_n 1, 1) := by decide +kernel
theorem dX2_offerThatShows_19 : decode cX2_offerThatShows 19 = .ok (.iadd, 1) := by decide +kernel
theorem dX2_offerThatShows_20 : decode cX2_offerThatShows 20 = .ok (.iaload, 1) := by decide +kernel
theorem dX2_offerThatShows_21 : decode cX2_offerThatShows 21 = .ok (.ifCond .le 5, 3) := by decide +kernel
theorem dX2_offerThatShows_24 : decode cX2_offerThatShows 24 = .ok (.iload_n 2, 1) := by decide +kernel
theorem dX2_offerThatShows_25 : decode cX2_offerThatShows 25 = .ok (.ireturn, 1) := by decide +kernel
theorem dX2_offerThatShows_26 : decode cX2_offerThatShows 26 = .ok (.iinc 2 1, 3) := by decide +kernel
theorem dX2_offerThatShows_29 : decode cX2_offerThatShows 29 = .ok (.goto (-27), 3) := by decide +kernel
theorem dX2_offerThatShows_32 : decode cX2_offerThatShows 32 = .ok (.iconst (-1), 1) := by decide +kernel
theorem dX2_offerThatShows_33 : decode cX2_offerThatShows 33 = .ok (.ireturn, 1) := by decide +kernel
theorem dX2_giveAway_0 : decode cX2_giveAway 0 = .ok (.aload_n 0, 1) := by decide +kernel
theorem dX2_giveAway_1 : decode cX2_giveAway 1 = .ok (.iload_n 1, 1) := by decide +kernel
theorem dX2_giveAway_2 : decode cX2_giveAway 2 = .ok (.invokevirtual 54, 3) := by decide +kernel
theorem dX2_giveAway_5 : decode cX2_giveAway 5 = .ok (.istore_n 2, 1) := by decide +kernel
theorem dX2_giveAway_6 : decode cX2_giveAway 6 = .ok (.iload_n 2, 1) := by decide +kernel
theorem dX2_giveAway_7 : decode cX2_giveAway 7 = .ok (.iconst (-1), 1) := by decide +kernel
theorem dX2_giveAway_8 : decode cX2_giveAway 8 = .ok (.if_icmp .ne 5, 3) := by decide +kernel
theorem dX2_giveAway_11 : decode cX2_giveAway 11 = .ok (.iconst (-1), 1) := by decide +kernel
theorem dX2_giveAway_12 : decode cX2_giveAway 12 = .ok (.ireturn, 1) := by decide +kernel
theorem dX2_giveAway_13 : decode cX2_giveAway 13 = .ok (.aload_n 0, 1) := by decide +kernel
theorem dX2_giveAway_14 : decode cX2_giveAway 14 = .ok (.iload_n 2, 1) := by decide +kernel
theorem dX2_giveAway_15 : decode cX2_giveAway 15 = .ok (.iload_n 1, 1) := by decide +kernel
theorem dX2_giveAway_16 : decode cX2_giveAway 16 = .ok (.iconst (-1), 1) := by decide +kernel
theorem dX2_giveAway_17 : decode cX2_giveAway 17 = .ok (.invokevirtual 58, 3) := by decide +kernel
theorem dX2_giveAway_20 : decode cX2_giveAway 20 = .ok (.iconst 0, 1) := by decide +kernel
theorem dX2_giveAway_21 : decode cX2_giveAway 21 = .ok (.istore_n 3, 1) := by decide +kernel
theorem dX2_giveAway_22 : decode cX2_giveAway 22 = .ok (.iload_n 3, 1) := by decide +kernel
theorem dX2_giveAway_23 : decode cX2_giveAway 23 = .ok (.iload_n 2, 1) := by decide +kernel
theorem dX2_giveAway_24 : decode cX2_giveAway 24 = .ok (.if_icmp .ge 51, 3) := by decide +kernel
theorem dX2_giveAway_27 : decode cX2_giveAway 27 = .ok (.aload_n 0, 1) := by decide +kernel
theorem dX2_giveAway_28 : decode cX2_giveAway 28 = .ok (.getfield 18, 3) := by decide +kernel
theorem dX2_giveAway_31 : decode cX2_giveAway 31 = .ok (.iload_n 3, 1) := by decide +kernel
theorem dX2_giveAway_32 : decode cX2_giveAway 32 = .ok (.iaload, 1) := by decide +kernel
theorem dX2_giveAway_33 : decode cX2_giveAway 33 = .ok (.ifCond .le 36, 3) := by decide +kernel
theorem dX2_giveAway_36 : decode cX2_giveAway 36 = .ok (.aload_n 0, 1) := by decide +kernel
theorem dX2_giveAway_37 : decode cX2_giveAway 37 = .ok (.getfield 15, 3) := by decide +kernel
theorem dX2_giveAway_40 : decode cX2_giveAway 40 = .ok (.iload_n 3, 1) := by decide +kernel
theorem dX2_giveAway_41 : decode cX2_giveAway 41 = .ok (.iaload, 1) := by decide +kernel
theorem dX2_giveAway_42 : decode cX2_giveAway 42 = .ok (.iload_n 1, 1) := by decide +kernel
theorem dX2_giveAway_43 : decode cX2_giveAway 43 = .ok (.ishr, 1) := by decide +kernel
theorem dX2_giveAway_44 : decode cX2_giveAway 44 = .ok (.iconst 1, 1) := by decide +kernel
theorem dX2_giveAway_45 : decode cX2_giveAway 45 = .ok (.iand, 1) := by decide +kernel
theorem dX2_giveAway_46 : decode cX2_giveAway 46 = .ok (.ifCond .eq 23, 3) := by decide +kernel
theorem dX2_giveAway_49 : decode cX2_giveAway 49 = .ok (.aload_n 0, 1) := by decide +kernel
theorem dX2_giveAway_50 : decode cX2_giveAway 50 = .ok (.iload_n 3, 1) := by decide +kernel
theorem dX2_giveAway_51 : decode cX2_giveAway 51 = .ok (.invokevirtual 65, 3) := by decide +kernel
theorem dX2_giveAway_54 : decode cX2_giveAway 54 = .ok (.ifCond .eq 15, 3) := by decide +kernel
theorem dX2_giveAway_57 : decode cX2_giveAway 57 = .ok (.aload_n 0, 1) := by decide +kernel
theorem dX2_giveAway_58 : decode cX2_giveAway 58 = .ok (.getfield 18, 3) := by decide +kernel
theorem dX2_giveAway_61 : decode cX2_giveAway 61 = .ok (.iload_n 3, 1) := by decide +kernel
theorem dX2_giveAway_62 : decode cX2_giveAway 62 = .ok (.dup2, 1) := by decide +kernel
theorem dX2_giveAway_63 : decode cX2_giveAway 63 = .ok (.iaload, 1) := by decide +kernel
theorem dX2_giveAway_64 : decode cX2_giveAway 64 = .ok (.iconst 1, 1) := by decide +kernel
theorem dX2_giveAway_65 : decode cX2_giveAway 65 = .ok (.isub, 1) := by decide +kernel
theorem dX2_giveAway_66 : decode cX2_giveAway 66 = .ok (.iastore, 1) := by decide +kernel
theorem dX2_giveAway_67 : decode cX2_giveAway 67 = .ok (.iload_n 3, 1) := by decide +kernel
theorem dX2_giveAway_68 : decode cX2_giveAway 68 = .ok (.ireturn, 1) := by decide +kernel
theorem dX2_giveAway_69 : decode cX2_giveAway 69 = .ok (.iinc 3 1, 3) := by decide +kernel
theorem dX2_giveAway_72 : decode cX2_giveAway 72 = .ok (.goto (-50), 3) := by decide +kernel
theorem dX2_giveAway_75 : decode cX2_giveAway 75 = .ok (.aload_n 0, 1) := by decide +kernel
theorem dX2_giveAway_76 : decode cX2_giveAway 76 = .ok (.getfield 18, 3) := by decide +kernel
theorem dX2_giveAway_79 : decode cX2_giveAway 79 = .ok (.iload_n 2, 1) := by decide +kernel
theorem dX2_giveAway_80 : decode cX2_giveAway 80 = .ok (.dup2, 1) := by decide +kernel
theorem dX2_giveAway_81 : decode cX2_giveAway 81 = .ok (.iaload, 1) := by decide +kernel
theorem dX2_giveAway_82 : decode cX2_giveAway 82 = .ok (.iconst 1, 1) := by decide +kernel
theorem dX2_giveAway_83 : decode cX2_giveAway 83 = .ok (.isub, 1) := by decide +kernel
theorem dX2_giveAway_84 : decode cX2_giveAway 84 = .ok (.iastore, 1) := by decide +kernel
theorem dX2_giveAway_85 : decode cX2_giveAway 85 = .ok (.iload_n 2, 1) := by decide +kernel
theorem dX2_giveAway_86 : decode cX2_giveAway 86 = .ok (.ireturn, 1) := by decide +kernel
theorem dX2_canSpare_0 : decode cX2_canSpare 0 = .ok (.aload_n 0, 1) := by decide +kernel
theorem dX2_canSpare_1 : decode cX2_canSpare 1 = .ok (.getfield 21, 3) := by decide +kernel
theorem dX2_canSpare_4 : decode cX2_canSpare 4 = .ok (.iload_n 1, 1) := by decide +kernel
theorem dX2_canSpare_5 : decode cX2_canSpare 5 = .ok (.iaload, 1) := by decide +kernel
theorem dX2_canSpare_6 : decode cX2_canSpare 6 = .ok (.aload_n 0, 1) := by decide +kernel
theorem dX2_canSpare_7 : decode cX2_canSpare 7 = .ok (.getfield 18, 3) := by decide +kernel
theorem dX2_canSpare_10 : decode cX2_canSpare 10 = .ok (.iload_n 1, 1) := by decide +kernel
theorem dX2_canSpare_11 : decode cX2_canSpare 11 = .ok (.iaload, 1) := by decide +kernel
theorem dX2_canSpare_12 : decode cX2_canSpare 12 = .ok (.if_icmp .ge 5, 3) := by decide +kernel
theorem dX2_canSpare_15 : decode cX2_canSpare 15 = .ok (.iconst 1, 1) := by decide +kernel
theorem dX2_canSpare_16 : decode cX2_canSpare 16 = .ok (.ireturn, 1) := by decide +kernel
theorem dX2_canSpare_17 : decode cX2_canSpare 17 = .ok (.aload_n 0, 1) := by decide +kernel
theorem dX2_canSpare_18 : decode cX2_canSpare 18 = .ok (.iload_n 1, 1) := by decide +kernel
theorem dX2_canSpare_19 : decode cX2_canSpare 19 = .ok (.invokevirtual 68, 3) := by decide +kernel
theorem dX2_canSpare_22 : decode cX2_canSpare 22 = .ok (.istore_n 2, 1) := by decide +kernel
theorem dX2_canSpare_23 : decode cX2_canSpare 23 = .ok (.iload_n 2, 1) := by decide +kernel
theorem dX2_canSpare_24 : decode cX2_canSpare 24 = .ok (.iconst (-1), 1) := by decide +kernel
theorem dX2_canSpare_25 : decode cX2_canSpare 25 = .ok (.if_icmp .ne 5, 3) := by decide +kernel
theorem dX2_canSpare_28 : decode cX2_canSpare 28 = .ok (.iconst 0, 1) := by decide +kernel
theorem dX2_canSpare_29 : decode cX2_canSpare 29 = .ok (.ireturn, 1) := by decide +kernel
theorem dX2_canSpare_30 : decode cX2_canSpare 30 = .ok (.aload_n 0, 1) := by decide +kernel
theorem dX2_canSpare_31 : decode cX2_canSpare 31 = .ok (.iload_n 1, 1) := by decide +kernel
theorem dX2_canSpare_32 : decode cX2_canSpare 32 = .ok (.iload_n 2, 1) := by decide +kernel
theorem dX2_canSpare_33 : decode cX2_canSpare 33 = .ok (.iconst (-1), 1) := by decide +kernel
theorem dX2_canSpare_34 : decode cX2_canSpare 34 = .ok (.invokevirtual 58, 3) := by decide +kernel
theorem dX2_canSpare_37 : decode cX2_canSpare 37 = .ok (.aload_n 0, 1) := by decide +kernel
theorem dX2_canSpare_38 : decode cX2_canSpare 38 = .ok (.getfield 18, 3) := by decide +kernel
theorem dX2_canSpare_41 : decode cX2_canSpare 41 = .ok (.iload_n 1, 1) := by decide +kernel
theorem dX2_canSpare_42 : decode cX2_canSpare 42 = .ok (.dup2, 1) := by decide +kernel
theorem dX2_canSpare_43 : decode cX2_canSpare 43 = .ok (.iaload, 1) := by decide +kernel
theorem dX2_canSpare_44 : decode cX2_canSpare 44 = .ok (.iconst 1, 1) := by decide +kernel
theorem dX2_canSpare_45 : decode cX2_canSpare 45 = .ok (.isub, 1) := by decide +kernel
theorem dX2_canSpare_46 : decode cX2_canSpare 46 = .ok (.iastore, 1) := by decide +kernel
theorem dX2_canSpare_47 : decode cX2_canSpare 47 = .ok (.aload_n 0, 1) := by decide +kernel
theorem dX2_canSpare_48 : decode cX2_canSpare 48 = .ok (.iload_n 2, 1) := by decide +kernel
theorem dX2_canSpare_49 : decode cX2_canSpare 49 = .ok (.invokevirtual 46, 3) := by decide +kernel
theorem dX2_canSpare_52 : decode cX2_canSpare 52 = .ok (.istore_n 3, 1) := by decide +kernel
theorem dX2_canSpare_53 : decode cX2_canSpare 53 = .ok (.aload_n 0, 1) := by decide +kernel
theorem dX2_canSpare_54 : decode cX2_canSpare 54 = .ok (.getfield 18, 3) := by decide +kernel
theorem dX2_canSpare_57 : decode cX2_canSpare 57 = .ok (.iload_n 1, 1) := by decide +kernel
theorem dX2_canSpare_58 : decode cX2_canSpare 58 = .ok (.dup2, 1) := by decide +kernel
theorem dX2_canSpare_59 : decode cX2_canSpare 59 = .ok (.iaload, 1) := by decide +kernel
theorem dX2_canSpare_60 : decode cX2_canSpare 60 = .ok (.iconst 1, 1) := by decide +kernel
theorem dX2_canSpare_61 : decode cX2_canSpare 61 = .ok (.iadd, 1) := by decide +kernel
theorem dX2_canSpare_62 : decode cX2_canSpare 62 = .ok (.iastore, 1) := by decide +kernel
theorem dX2_canSpare_63 : decode cX2_canSpare 63 = .ok (.iload_n 3, 1) := by decide +kernel
theorem dX2_canSpare_64 : decode cX2_canSpare 64 = .ok (.ifCond .ne 10, 3) := by decide +kernel
theorem dX2_canSpare_67 : decode cX2_canSpare 67 = .ok (.aload_n 0, 1) := by decide +kernel
theorem dX2_canSpare_68 : decode cX2_canSpare 68 = .ok (.iload_n 1, 1) := by decide +kernel
theorem dX2_canSpare_69 : decode cX2_canSpare 69 = .ok (.iload_n 2, 1) := by decide +kernel
theorem dX2_canSpare_70 : decode cX2_canSpare 70 = .ok (.iconst 1, 1) := by decide +kernel
theorem dX2_canSpare_71 : decode cX2_canSpare 71 = .ok (.invokevirtual 58, 3) := by decide +kernel
theorem dX2_canSpare_74 : decode cX2_canSpare 74 = .ok (.iload_n 3, 1) := by decide +kernel
theorem dX2_canSpare_75 : decode cX2_canSpare 75 = .ok (.ireturn, 1) := by decide +kernel
theorem dX2_firstShownBy_0 : decode cX2_firstShownBy 0 = .ok (.iconst 0, 1) := by decide +kernel
theorem dX2_firstShownBy_1 : decode cX2_firstShownBy 1 = .ok (.istore_n 2, 1) := by decide +kernel
theorem dX2_firstShownBy_2 : decode cX2_firstShownBy 2 = .ok (.iload_n 2, 1) := by decide +kernel
theorem dX2_firstShownBy_3 : decode cX2_firstShownBy 3 = .ok (.bipush 10, 2) := by decide +kernel
theorem dX2_firstShownBy_5 : decode cX2_firstShownBy 5 = .ok (.if_icmp .ge 25, 3) := by decide +kernel
theorem dX2_firstShownBy_8 : decode cX2_firstShownBy 8 = .ok (.aload_n 0, 1) := by decide +kernel
theorem dX2_firstShownBy_9 : decode cX2_firstShownBy 9 = .ok (.getfield 24, 3) := by decide +kernel
theorem dX2_firstShownBy_12 : decode cX2_firstShownBy 12 = .ok (.iload_n 1, 1) := by decide +kernel
theorem dX2_firstShownBy_13 : decode cX2_firstShownBy 13 = .ok (.bipush 10, 2) := by decide +kernel
theorem dX2_firstShownBy_15 : decode cX2_firstShownBy 15 = .ok (.imul, 1) := by decide +kernel
theorem dX2_firstShownBy_16 : decode cX2_firstShownBy 16 = .ok (.iload_n 2, 1) := by decide +kernel
theorem dX2_firstShownBy_17 : decode cX2_firstShownBy 17 = .ok (.iadd, 1) := by decide +kernel
theorem dX2_firstShownBy_18 : decode cX2_firstShownBy 18 = .ok (.iaload, 1) := by decide +kernel
theorem dX2_firstShownBy_19 : decode cX2_firstShownBy 19 = .ok (.ifCond .le 5, 3) := by decide +kernel
theorem dX2_firstShownBy_22 : decode cX2_firstShownBy 22 = .ok (.iload_n 2, 1) := by decide +kernel
theorem dX2_firstShownBy_23 : decode cX2_firstShownBy 23 = .ok (.ireturn, 1) := by decide +kernel
theorem dX2_firstShownBy_24 : decode cX2_firstShownBy 24 = .ok (.iinc 2 1, 3) := by decide +kernel
theorem dX2_firstShownBy_27 : decode cX2_firstShownBy 27 = .ok (.goto (-25), 3) := by decide +kernel
theorem dX2_firstShownBy_30 : decode cX2_firstShownBy 30 = .ok (.iconst (-1), 1) := by decide +kernel
theorem dX2_firstShownBy_31 : decode cX2_firstShownBy 31 = .ok (.ireturn, 1) := by decide +kernel
theorem dX3_init_0 : decode cX3_init 0 = .ok (.aload_n 0, 1) := by decide +kernel
theorem dX3_init_1 : decode cX3_init 1 = .ok (.invokespecial 3, 3) := by decide +kernel
theorem dX3_init_4 : decode cX3_init 4 = .ok (.aload_n 0, 1) := by decide +kernel
theorem dX3_init_5 : decode cX3_init 5 = .ok (.bipush 80, 2) := by decide +kernel
theorem dX3_init_7 : decode cX3_init 7 = .ok (.newarray .int, 2) := by decide +kernel
theorem dX3_init_9 : decode cX3_init 9 = .ok (.putfield 9, 3) := by decide +kernel
theorem dX3_init_12 : decode cX3_init 12 = .ok (.return_, 1) := by decide +kernel
theorem dX4_init_0 : decode cX4_init 0 = .ok (.aload_n 0, 1) := by decide +kernel
theorem dX4_init_1 : decode cX4_init 1 = .ok (.invokespecial 3, 3) := by decide +kernel
theorem dX4_init_4 : decode cX4_init 4 = .ok (.aload_n 0, 1) := by decide +kernel
theorem dX4_init_5 : decode cX4_init 5 = .ok (.new 9, 3) := by decide +kernel
theorem dX4_init_8 : decode cX4_init 8 = .ok (.dup, 1) := by decide +kernel
theorem dX4_init_9 : decode cX4_init 9 = .ok (.invokespecial 11, 3) := by decide +kernel
theorem dX4_init_12 : decode cX4_init 12 = .ok (.putfield 12, 3) := by decide +kernel
theorem dX4_init_15 : decode cX4_init 15 = .ok (.return_, 1) := by decide +kernel
theorem dX4_offerAll_0 : decode cX4_offerAll 0 = .ok (.aload_n 0, 1) := by decide +kernel
theorem dX4_offerAll_1 : decode cX4_offerAll 1 = .ok (.getfield 12, 3) := by decide +kernel
theorem dX4_offerAll_4 : decode cX4_offerAll 4 = .ok (.invokevirtual 18, 3) := by decide +kernel
theorem dX4_offerAll_7 : decode cX4_offerAll 7 = .ok (.iconst 0, 1) := by decide +kernel
theorem dX4_offerAll_8 : decode cX4_offerAll 8 = .ok (.istore_n 2, 1) := by decide +kernel
theorem dX4_offerAll_9 : decode cX4_offerAll 9 = .ok (.iload_n 2, 1) := by decide +kernel
theorem dX4_offerAll_10 : decode cX4_offerAll 10 = .ok (.bipush 42, 2) := by decide +kernel
theorem dX4_offerAll_12 : decode cX4_offerAll 12 = .ok (.if_icmp .ge 37, 3) := by decide +kernel
theorem dX4_offerAll_15 : decode cX4_offerAll 15 = .ok (.aload_n 1, 1) := by decide +kernel
theorem dX4_offerAll_16 : decode cX4_offerAll 16 = .ok (.getfield 21, 3) := by decide +kernel
theorem dX4_offerAll_19 : decode cX4_offerAll 19 = .ok (.iload_n 2, 1) := by decide +kernel
theorem dX4_offerAll_20 : decode cX4_offerAll 20 = .ok (.iaload, 1) := by decide +kernel
theorem dX4_offerAll_21 : decode cX4_offerAll 21 = .ok (.ifCond .le 22, 3) := by decide +kernel
theorem dX4_offerAll_24 : decode cX4_offerAll 24 = .ok (.aload_n 0, 1) := by decide +kernel
theorem dX4_offerAll_25 : decode cX4_offerAll 25 = .ok (.getfield 12, 3) := by decide +kernel
theorem dX4_offerAll_28 : decode cX4_offerAll 28 = .ok (.iload_n 2, 1) := by decide +kernel
theorem dX4_offerAll_29 : decode cX4_offerAll 29 = .ok (.aload_n 1, 1) := by decide +kernel
theorem dX4_offerAll_30 : decode cX4_offerAll 30 = .ok (.iload_n 2, 1) := by decide +kernel
theorem dX4_offerAll_31 : decode cX4_offerAll 31 = .ok (.invokevirtual 27, 3) := by decide +kernel
theorem dX4_offerAll_34 : decode cX4_offerAll 34 = .ok (.aload_n 1, 1) := by decide +kernel
theorem dX4_offerAll_35 : decode cX4_offerAll 35 = .ok (.getfield 21, 3) := by decide +kernel
theorem dX4_offerAll_38 : decode cX4_offerAll 38 = .ok (.iload_n 2, 1) := by decide +kernel
theorem dX4_offerAll_39 : decode cX4_offerAll 39 = .ok (.iaload, 1) := by decide +kernel
theorem dX4_offerAll_40 : decode cX4_offerAll 40 = .ok (.invokevirtual 31, 3) := by decide +kernel
theorem dX4_offerAll_43 : decode cX4_offerAll 43 = .ok (.iinc 2 1, 3) := by decide +kernel
theorem dX4_offerAll_46 : decode cX4_offerAll 46 = .ok (.goto (-37), 3) := by decide +kernel
theorem dX4_offerAll_49 : decode cX4_offerAll 49 = .ok (.return_, 1) := by decide +kernel
theorem dX4_offerFree_0 : decode cX4_offerFree 0 = .ok (.aload_n 0, 1) := by decide +kernel
theorem dX4_offerFree_1 : decode cX4_offerFree 1 = .ok (.getfield 12, 3) := by decide +kernel
theorem dX4_offerFree_4 : decode cX4_offerFree 4 = .ok (.invokevirtual 18, 3) := by decide +kernel
theorem dX4_offerFree_7 : decode cX4_offerFree 7 = .ok (.iconst 0, 1) := by decide +kernel
theorem dX4_offerFree_8 : decode cX4_offerFree 8 = .ok (.istore_n 3, 1) := by decide +kernel
theorem dX4_offerFree_9 : decode cX4_offerFree 9 = .ok (.iload_n 3, 1) := by decide +kernel
theorem dX4_offerFree_10 : decode cX4_offerFree 10 = .ok (.bipush 42, 2) := by decide +kernel
theorem dX4_offerFree_12 : decode cX4_offerFree 12 = .ok (.if_icmp .ge 44, 3) := by decide +kernel
theorem dX4_offerFree_15 : decode cX4_offerFree 15 = .ok (.aload_n 1, 1) := by decide +kernel
theorem dX4_offerFree_16 : decode cX4_offerFree 16 = .ok (.getfield 21, 3) := by decide +kernel
theorem dX4_offerFree_19 : decode cX4_offerFree 19 = .ok (.iload_n 3, 1) := by decide +kernel
theorem dX4_offerFree_20 : decode cX4_offerFree 20 = .ok (.iaload, 1) := by decide +kernel
theorem dX4_offerFree_21 : decode cX4_offerFree 21 = .ok (.ifCond .le 29, 3) := by decide +kernel
theorem dX4_offerFree_24 : decode cX4_offerFree 24 = .ok (.aload_n 0, 1) := by decide +kernel
theorem dX4_offerFree_25 : decode cX4_offerFree 25 = .ok (.getfield 12, 3) := by decide +kernel
theorem dX4_offerFree_28 : decode cX4_offerFree 28 = .ok (.iload_n 3, 1) := by decide +kernel
theorem dX4_offerFree_29 : decode cX4_offerFree 29 = .ok (.aload_n 1, 1) := by decide +kernel
theorem dX4_offerFree_30 : decode cX4_offerFree 30 = .ok (.iload_n 3, 1) := by decide +kernel
theorem dX4_offerFree_31 : decode cX4_offerFree 31 = .ok (.invokevirtual 27, 3) := by decide +kernel
theorem dX4_offerFree_34 : decode cX4_offerFree 34 = .ok (.aload_n 1, 1) := by decide +kernel
theorem dX4_offerFree_35 : decode cX4_offerFree 35 = .ok (.getfield 21, 3) := by decide +kernel
theorem dX4_offerFree_38 : decode cX4_offerFree 38 = .ok (.iload_n 3, 1) := by decide +kernel
theorem dX4_offerFree_39 : decode cX4_offerFree 39 = .ok (.iaload, 1) := by decide +kernel
theorem dX4_offerFree_40 : decode cX4_offerFree 40 = .ok (.aload_n 2, 1) := by decide +kernel
theorem dX4_offerFree_41 : decode cX4_offerFree 41 = .ok (.getfield 35, 3) := by decide +kernel
theorem dX4_offerFree_44 : decode cX4_offerFree 44 = .ok (.iload_n 3, 1) := by decide +kernel
theorem dX4_offerFree_45 : decode cX4_offerFree 45 = .ok (.iaload, 1) := by decide +kernel
theorem dX4_offerFree_46 : decode cX4_offerFree 46 = .ok (.isub, 1) := by decide +kernel
theorem dX4_offerFree_47 : decode cX4_offerFree 47 = .ok (.invokevirtual 31, 3) := by decide +kernel
theorem dX4_offerFree_50 : decode cX4_offerFree 50 = .ok (.iinc 3 1, 3) := by decide +kernel
theorem dX4_offerFree_53 : decode cX4_offerFree 53 = .ok (.goto (-44), 3) := by decide +kernel
theorem dX4_offerFree_56 : decode cX4_offerFree 56 = .ok (.return_, 1) := by decide +kernel
theorem dX4_couldShow_0 : decode cX4_couldShow 0 = .ok (.aload_n 0, 1) := by decide +kernel
theorem dX4_couldShow_1 : decode cX4_couldShow 1 = .ok (.aload_n 1, 1) := by decide +kernel
theorem dX4_couldShow_2 : decode cX4_couldShow 2 = .ok (.getfield 40, 3) := by decide +kernel
theorem dX4_couldShow_5 : decode cX4_couldShow 5 = .ok (.aload_n 1, 1) := by decide +kernel
theorem dX4_couldShow_6 : decode cX4_couldShow 6 = .ok (.getfield 46, 3) := by decide +kernel
theorem dX4_couldShow_9 : decode cX4_couldShow 9 = .ok (.invokevirtual 50, 3) := by decide +kernel
theorem dX4_couldShow_12 : decode cX4_couldShow 12 = .ok (.aload_n 0, 1) := by decide +kernel
theorem dX4_couldShow_13 : decode cX4_couldShow 13 = .ok (.getfield 12, 3) := by decide +kernel
theorem dX4_couldShow_16 : decode cX4_couldShow 16 = .ok (.iload_n 2, 1) := by decide +kernel
theorem dX4_couldShow_17 : decode cX4_couldShow 17 = .ok (.invokevirtual 54, 3) := by decide +kernel
theorem dX4_couldShow_20 : decode cX4_couldShow 20 = .ok (.ireturn, 1) := by decide +kernel
theorem dX4_chooseRows_0 : decode cX4_chooseRows 0 = .ok (.aload_n 0, 1) := by decide +kernel
theorem dX4_chooseRows_1 : decode cX4_chooseRows 1 = .ok (.aload_n 1, 1) := by decide +kernel
theorem dX4_chooseRows_2 : decode cX4_chooseRows 2 = .ok (.getfield 40, 3) := by decide +kernel
theorem dX4_chooseRows_5 : decode cX4_chooseRows 5 = .ok (.invokevirtual 58, 3) := by decide +kernel
theorem dX4_chooseRows_8 : decode cX4_chooseRows 8 = .ok (.iload_n 3, 1) := by decide +kernel
theorem dX4_chooseRows_9 : decode cX4_chooseRows 9 = .ok (.iconst (-1), 1) := by decide +kernel
theorem dX4_chooseRows_10 : decode cX4_chooseRows 10 = .ok (.if_icmp .eq 20, 3) := by decide +kernel
theorem dX4_chooseRows_13 : decode cX4_chooseRows 13 = .ok (.aload_n 0, 1) := by decide +kernel
theorem dX4_chooseRows_14 : decode cX4_chooseRows 14 = .ok (.getfield 12, 3) := by decide +kernel
theorem dX4_chooseRows_17 : decode cX4_chooseRows 17 = .ok (.iconst (-1), 1) := by decide +kernel
theorem dX4_chooseRows_18 : decode cX4_chooseRows 18 = .ok (.aload_n 1, 1) := by decide +kernel
theorem dX4_chooseRows_19 : decode cX4_chooseRows 19 = .ok (.getfield 40, 3) := by decide +kernel
theorem dX4_chooseRows_22 : decode cX4_chooseRows 22 = .ok (.iload_n 3, 1) := by decide +kernel
theorem dX4_chooseRows_23 : decode cX4_chooseRows 23 = .ok (.invokevirtual 62, 3) := by decide +kernel
theorem dX4_chooseRows_26 : decode cX4_chooseRows 26 = .ok (.iconst 1, 1) := by decide +kernel
theorem dX4_chooseRows_27 : decode cX4_chooseRows 27 = .ok (.invokevirtual 31, 3) := by decide +kernel
theorem dX4_chooseRows_30 : decode cX4_chooseRows 30 = .ok (.aload 4, 2) := by decide +kernel
theorem dX4_chooseRows_32 : decode cX4_chooseRows 32 = .ok (.invokevirtual 65, 3) := by decide +kernel
theorem dX4_chooseRows_35 : decode cX4_chooseRows 35 = .ok (.aload_n 0, 1) := by decide +kernel
theorem dX4_chooseRows_36 : decode cX4_chooseRows 36 = .ok (.iconst 0, 1) := by decide +kernel
theorem dX4_chooseRows_37 : decode cX4_chooseRows 37 = .ok (.putfield 68, 3) := by decide +kernel
theorem dX4_chooseRows_40 : decode cX4_chooseRows 40 = .ok (.aload_n 0, 1) := by decide +kernel
theorem dX4_chooseRows_41 : decode cX4_chooseRows 41 = .ok (.iconst 0, 1) := by decide +kernel
theorem dX4_chooseRows_42 : decode cX4_chooseRows 42 = .ok (.putfield 72, 3) := by decide +kernel
theorem dX4_chooseRows_45 : decode cX4_chooseRows 45 = .ok (.aload_n 0, 1) := by decide +kernel
theorem dX4_chooseRows_46 : decode cX4_chooseRows 46 = .ok (.iconst (-1), 1) := by decide +kernel
theorem dX4_chooseRows_47 : decode cX4_chooseRows 47 = .ok (.putfield 75, 3) := by decide +kernel
theorem dX4_chooseRows_50 : decode cX4_chooseRows 50 = .ok (.iconst 0, 1) := by decide +kernel
theorem dX4_chooseRows_51 : decode cX4_chooseRows 51 = .ok (.istore 5, 2) := by decide +kernel
theorem dX4_chooseRows_53 : decode cX4_chooseRows 53 = .ok (.iload 5, 2) := by decide +kernel
theorem dX4_chooseRows_55 : decode cX4_chooseRows 55 = .ok (.aload_n 1, 1) := by decide +kernel
theorem dX4_chooseRows_56 : decode cX4_chooseRows 56 = .ok (.getfield 78, 3) := by decide +kernel
theorem dX4_chooseRows_59 : decode cX4_chooseRows 59 = .ok (.if_icmp .ge 59, 3) := by decide +kernel
theorem dX4_chooseRows_62 : decode cX4_chooseRows 62 = .ok (.iconst 0, 1) := by decide +kernel
theorem dX4_chooseRows_63 : decode cX4_chooseRows 63 = .ok (.istore 6, 2) := by decide +kernel
theorem dX4_chooseRows_65 : decode cX4_chooseRows 65 = .ok (.iload 6, 2) := by decide +kernel
theorem dX4_chooseRows_67 : decode cX4_chooseRows 67 = .ok (.aload_n 1, 1) := by decide +kernel
theorem dX4_chooseRows_68 : decode cX4_chooseRows 68 = .ok (.getfield 81, 3) := by decide +kernel
theorem dX4_chooseRows_71 : decode cX4_chooseRows 71 = .ok (.iload 5, 2) := by decide +kernel
theorem dX4_chooseRows_73 : decode cX4_chooseRows 73 = .ok (.iaload, 1) := by decide +kernel
theorem dX4_chooseRows_74 : decode cX4_chooseRows 74 = .ok (.if_icmp .ge 38, 3) := by decide +kernel
theorem dX4_chooseRows_77 : decode cX4_chooseRows 77 = .ok (.aload_n 1, 1) := by decide +kernel
theorem dX4_chooseRows_78 : decode cX4_chooseRows 78 = .ok (.iload_n 2, 1) := by decide +kernel
theorem dX4_chooseRows_79 : decode cX4_chooseRows 79 = .ok (.iload 5, 2) := by decide +kernel
theorem dX4_chooseRows_81 : decode cX4_chooseRows 81 = .ok (.iload 6, 2) := by decide +kernel
theorem dX4_chooseRows_83 : decode cX4_chooseRows 83 = .ok (.invokevirtual 84, 3) := by decide +kernel
theorem dX4_chooseRows_86 : decode cX4_chooseRows 86 = .ok (.istore 7, 2) := by decide +kernel
theorem dX4_chooseRows_88 : decode cX4_chooseRows 88 = .ok (.iload 7, 2) := by decide +kernel
theorem dX4_chooseRows_90 : decode cX4_chooseRows 90 = .ok (.iconst (-1), 1) := by decide +kernel
theorem dX4_chooseRows_91 : decode cX4_chooseRows 91 = .ok (.if_icmp .eq 15, 3) := by decide +kernel
theorem dX4_chooseRows_94 : decode cX4_chooseRows 94 = .ok (.aload_n 0, 1) := by decide +kernel
theorem dX4_chooseRows_95 : decode cX4_chooseRows 95 = .ok (.iload 5, 2) := by decide +kernel
theorem dX4_chooseRows_97 : decode cX4_chooseRows 97 = .ok (.iload 6, 2) := by decide +kernel
theorem dX4_chooseRows_99 : decode cX4_chooseRows 99 = .ok (.iload 7, 2) := by decide +kernel
theorem dX4_chooseRows_101 : decode cX4_chooseRows 101 = .ok (.aload 4, 2) := by decide +kernel
theorem dX4_chooseRows_103 : decode cX4_chooseRows 103 = .ok (.invokevirtual 88, 3) := by decide +kernel
theorem dX4_chooseRows_106 : decode cX4_chooseRows 106 = .ok (.iinc 6 1, 3) := by decide +kernel
theorem dX4_chooseRows_109 : decode cX4_chooseRows 109 = .ok (.goto (-44), 3) := by decide +kernel
theorem dX4_chooseRows_112 : decode cX4_chooseRows 112 = .ok (.iinc 5 1, 3) := by decide +kernel
theorem dX4_chooseRows_115 : decode cX4_chooseRows 115 = .ok (.goto (-62), 3) := by decide +kernel
theorem dX4_chooseRows_118 : decode cX4_chooseRows 118 = .ok (.return_, 1) := by decide +kernel
theorem dX4_chooseRow_0 : decode cX4_chooseRow 0 = .ok (.aload_n 0, 1) := by decide +kernel
theorem dX4_chooseRow_1 : decode cX4_chooseRow 1 = .ok (.getfield 12, 3) := by decide +kernel
theorem dX4_chooseRow_4 : decode cX4_chooseRow 4 = .ok (.iload_n 3, 1) := by decide +kernel
theorem dX4_chooseRow_5 : decode cX4_chooseRow 5 = .ok (.invokevirtual 54, 3) := by decide +kernel
theorem dX4_chooseRow_8 : decode cX4_chooseRow 8 = .ok (.ifCond .eq 26, 3) := by decide +kernel
theorem dX4_chooseRow_11 : decode cX4_chooseRow 11 = .ok (.aload 4, 2) := by decide +kernel
theorem dX4_chooseRow_13 : decode cX4_chooseRow 13 = .ok (.iload_n 1, 1) := by decide +kernel
theorem dX4_chooseRow_14 : decode cX4_chooseRow 14 = .ok (.bipush 6, 2) := by decide +kernel
theorem dX4_chooseRow_16 : decode cX4_chooseRow 16 = .ok (.imul, 1) := by decide +kernel
theorem dX4_chooseRow_17 : decode cX4_chooseRow 17 = .ok (.iload_n 2, 1) := by decide +kernel
theorem dX4_chooseRow_18 : decode cX4_chooseRow 18 = .ok (.iadd, 1) := by decide +kernel
theorem dX4_chooseRow_19 : decode cX4_chooseRow 19 = .ok (.iload_n 3, 1) := by decide +kernel
theorem dX4_chooseRow_20 : decode cX4_chooseRow 20 = .ok (.invokevirtual 92, 3) := by decide +kernel
theorem dX4_chooseRow_23 : decode cX4_chooseRow 23 = .ok (.aload_n 0, 1) := by decide +kernel
theorem dX4_chooseRow_24 : decode cX4_chooseRow 24 = .ok (.dup, 1) := by decide +kernel
theorem dX4_chooseRow_25 : decode cX4_chooseRow 25 = .ok (.getfield 68, 3) := by decide +kernel
theorem dX4_chooseRow_28 : decode cX4_chooseRow 28 = .ok (.iconst 1, 1) := by decide +kernel
theorem dX4_chooseRow_29 : decode cX4_chooseRow 29 = .ok (.iadd, 1) := by decide +kernel
theorem dX4_chooseRow_30 : decode cX4_chooseRow 30 = .ok (.putfield 68, 3) := by decide +kernel
theorem dX4_chooseRow_33 : decode cX4_chooseRow 33 = .ok (.return_, 1) := by decide +kernel
theorem dX4_chooseRow_34 : decode cX4_chooseRow 34 = .ok (.aload_n 0, 1) := by decide +kernel
theorem dX4_chooseRow_35 : decode cX4_chooseRow 35 = .ok (.getfield 72, 3) := by decide +kernel
theorem dX4_chooseRow_38 : decode cX4_chooseRow 38 = .ok (.ifCond .ne 13, 3) := by decide +kernel
theorem dX4_chooseRow_41 : decode cX4_chooseRow 41 = .ok (.aload_n 0, 1) := by decide +kernel
theorem dX4_chooseRow_42 : decode cX4_chooseRow 42 = .ok (.bipush 100, 2) := by decide +kernel
theorem dX4_chooseRow_44 : decode cX4_chooseRow 44 = .ok (.iload_n 1, 1) := by decide +kernel
theorem dX4_chooseRow_45 : decode cX4_chooseRow 45 = .ok (.imul, 1) := by decide +kernel
theorem dX4_chooseRow_46 : decode cX4_chooseRow 46 = .ok (.iload_n 2, 1) := by decide +kernel
theorem dX4_chooseRow_47 : decode cX4_chooseRow 47 = .ok (.iadd, 1) := by decide +kernel
theorem dX4_chooseRow_48 : decode cX4_chooseRow 48 = .ok (.putfield 75, 3) := by decide +kernel
theorem dX4_chooseRow_51 : decode cX4_chooseRow 51 = .ok (.aload_n 0, 1) := by decide +kernel
theorem dX4_chooseRow_52 : decode cX4_chooseRow 52 = .ok (.dup, 1) := by decide +kernel
theorem dX4_chooseRow_53 : decode cX4_chooseRow 53 = .ok (.getfield 72, 3) := by decide +kernel
theorem dX4_chooseRow_56 : decode cX4_chooseRow 56 = .ok (.iconst 1, 1) := by decide +kernel
theorem dX4_chooseRow_57 : decode cX4_chooseRow 57 = .ok (.iadd, 1) := by decide +kernel
theorem dX4_chooseRow_58 : decode cX4_chooseRow 58 = .ok (.putfield 72, 3) := by decide +kernel
theorem dX4_chooseRow_61 : decode cX4_chooseRow 61 = .ok (.return_, 1) := by decide +kernel
theorem dX4_chooseCards_0 : decode cX4_chooseCards 0 = .ok (.iconst 0, 1) := by decide +kernel
theorem dX4_chooseCards_1 : decode cX4_chooseCards 1 = .ok (.istore_n 3, 1) := by decide +kernel
theorem dX4_chooseCards_2 : decode cX4_chooseCards 2 = .ok (.iload_n 3, 1) := by decide +kernel
theorem dX4_chooseCards_3 : decode cX4_chooseCards 3 = .ok (.bipush 54, 2) := by decide +kernel
theorem dX4_chooseCards_5 : decode cX4_chooseCards 5 = .ok (.if_icmp .ge 71, 3) := by decide +kernel
theorem dX4_chooseCards_8 : decode cX4_chooseCards 8 = .ok (.aload_n 2, 1) := by decide +kernel
theorem dX4_chooseCards_9 : decode cX4_chooseCards 9 = .ok (.getfield 96, 3) := by decide +kernel
theorem dX4_chooseCards_12 : decode cX4_chooseCards 12 = .ok (.iload_n 3, 1) := by decide +kernel
theorem dX4_chooseCards_13 : decode cX4_chooseCards 13 = .ok (.iaload, 1) := by decide +kernel
theorem dX4_chooseCards_14 : decode cX4_chooseCards 14 = .ok (.istore 4, 2) := by decide +kernel
theorem dX4_chooseCards_16 : decode cX4_chooseCards 16 = .ok (.iload 4, 2) := by decide +kernel
theorem dX4_chooseCards_18 : decode cX4_chooseCards 18 = .ok (.iconst (-1), 1) := by decide +kernel
theorem dX4_chooseCards_19 : decode cX4_chooseCards 19 = .ok (.if_icmp .ne 7, 3) := by decide +kernel
theorem dX4_chooseCards_22 : decode cX4_chooseCards 22 = .ok (.iconst (-1), 1) := by decide +kernel
theorem dX4_chooseCards_23 : decode cX4_chooseCards 23 = .ok (.goto 12, 3) := by decide +kernel
theorem dX4_chooseCards_26 : decode cX4_chooseCards 26 = .ok (.aload_n 0, 1) := by decide +kernel
theorem dX4_chooseCards_27 : decode cX4_chooseCards 27 = .ok (.getfield 12, 3) := by decide +kernel
theorem dX4_chooseCards_30 : decode cX4_chooseCards 30 = .ok (.iload 4, 2) := by decide +kernel
theorem dX4_chooseCards_32 : decode cX4_chooseCards 32 = .ok (.invokevirtual 99, 3) := by decide +kernel
theorem dX4_chooseCards_35 : decode cX4_chooseCards 35 = .ok (.istore 5, 2) := by decide +kernel
theorem dX4_chooseCards_37 : decode cX4_chooseCards 37 = .ok (.iload 5, 2) := by decide +kernel
theorem dX4_chooseCards_39 : decode cX4_chooseCards 39 = .ok (.iconst (-1), 1) := by decide +kernel
theorem dX4_chooseCards_40 : decode cX4_chooseCards 40 = .ok (.if_icmp .eq 30, 3) := by decide +kernel
theorem dX4_chooseCards_43 : decode cX4_chooseCards 43 = .ok (.aload_n 0, 1) := by decide +kernel
theorem dX4_chooseCards_44 : decode cX4_chooseCards 44 = .ok (.getfield 12, 3) := by decide +kernel
theorem dX4_chooseCards_47 : decode cX4_chooseCards 47 = .ok (.getfield 102, 3) := by decide +kernel
theorem dX4_chooseCards_50 : decode cX4_chooseCards 50 = .ok (.iload 5, 2) := by decide +kernel
theorem dX4_chooseCards_52 : decode cX4_chooseCards 52 = .ok (.iaload, 1) := by decide +kernel
theorem dX4_chooseCards_53 : decode cX4_chooseCards 53 = .ok (.istore 6, 2) := by decide +kernel
theorem dX4_chooseCards_55 : decode cX4_chooseCards 55 = .ok (.aload_n 2, 1) := by decide +kernel
theorem dX4_chooseCards_56 : decode cX4_chooseCards 56 = .ok (.iload_n 3, 1) := by decide +kernel
theorem dX4_chooseCards_57 : decode cX4_chooseCards 57 = .ok (.iload 6, 2) := by decide +kernel
theorem dX4_chooseCards_59 : decode cX4_chooseCards 59 = .ok (.aload_n 1, 1) := by decide +kernel
theorem dX4_chooseCards_60 : decode cX4_chooseCards 60 = .ok (.iload 6, 2) := by decide +kernel
theorem dX4_chooseCards_62 : decode cX4_chooseCards 62 = .ok (.iload 4, 2) := by decide +kernel
theorem dX4_chooseCards_64 : decode cX4_chooseCards 64 = .ok (.invokevirtual 105, 3) := by decide +kernel
theorem dX4_chooseCards_67 : decode cX4_chooseCards 67 = .ok (.invokevirtual 109, 3) := by decide +kernel
theorem dX4_chooseCards_70 : decode cX4_chooseCards 70 = .ok (.iinc 3 1, 3) := by decide +kernel
theorem dX4_chooseCards_73 : decode cX4_chooseCards 73 = .ok (.goto (-71), 3) := by decide +kernel
theorem dX4_chooseCards_76 : decode cX4_chooseCards 76 = .ok (.return_, 1) := by decide +kernel
theorem dX4_countMissing_0 : decode cX4_countMissing 0 = .ok (.aload_n 0, 1) := by decide +kernel
theorem dX4_countMissing_1 : decode cX4_countMissing 1 = .ok (.aload_n 1, 1) := by decide +kernel
theorem dX4_countMissing_2 : decode cX4_countMissing 2 = .ok (.getfield 40, 3) := by decide +kernel
theorem dX4_countMissing_5 : decode cX4_countMissing 5 = .ok (.invokevirtual 58, 3) := by decide +kernel
theorem dX4_countMissing_8 : decode cX4_countMissing 8 = .ok (.iconst 0, 1) := by decide +kernel
theorem dX4_countMissing_9 : decode cX4_countMissing 9 = .ok (.istore_n 3, 1) := by decide +kernel
theorem dX4_countMissing_10 : decode cX4_countMissing 10 = .ok (.iconst 0, 1) := by decide +kernel
theorem dX4_countMissing_11 : decode cX4_countMissing 11 = .ok (.istore 4, 2) := by decide +kernel
theorem dX4_countMissing_13 : decode cX4_countMissing 13 = .ok (.iload 4, 2) := by decide +kernel
theorem dX4_countMissing_15 : decode cX4_countMissing 15 = .ok (.aload_n 1, 1) := by decide +kernel
theorem dX4_countMissing_16 : decode cX4_countMissing 16 = .ok (.getfield 78, 3) := by decide +kernel
theorem dX4_countMissing_19 : decode cX4_countMissing 19 = .ok (.if_icmp .ge 74, 3) := by decide +kernel
theorem dX4_countMissing_22 : decode cX4_countMissing 22 = .ok (.iconst 0, 1) := by decide +kernel
theorem dX4_countMissing_23 : decode cX4_countMissing 23 = .ok (.istore 5, 2) := by decide +kernel
theorem dX4_countMissing_25 : decode cX4_countMissing 25 = .ok (.iload 5, 2) := by decide +kernel
theorem dX4_countMissing_27 : decode cX4_countMissing 27 = .ok (.aload_n 1, 1) := by decide +kernel
theorem dX4_countMissing_28 : decode cX4_countMissing 28 = .ok (.getfield 81, 3) := by decide +kernel
theorem dX4_countMissing_31 : decode cX4_countMissing 31 = .ok (.iload 4, 2) := by decide +kernel
theorem dX4_countMissing_33 : decode cX4_countMissing 33 = .ok (.iaload, 1) := by decide +kernel
theorem dX4_countMissing_34 : decode cX4_countMissing 34 = .ok (.if_icmp .ge 53, 3) := by decide +kernel
theorem dX4_countMissing_37 : decode cX4_countMissing 37 = .ok (.aload_n 1, 1) := by decide +kernel
theorem dX4_countMissing_38 : decode cX4_countMissing 38 = .ok (.iload_n 2, 1) := by decide +kernel
theorem dX4_countMissing_39 : decode cX4_countMissing 39 = .ok (.iload 4, 2) := by decide +kernel
theorem dX4_countMissing_41 : decode cX4_countMissing 41 = .ok (.iload 5, 2) := by decide +kernel
theorem dX4_countMissing_43 : decode cX4_countMissing 43 = .ok (.invokevirtual 84, 3) := by decide +kernel
theorem dX4_countMissing_46 : decode cX4_countMissing 46 = .ok (.istore 6, 2) := by decide +kernel
theorem dX4_countMissing_48 : decode cX4_countMissing 48 = .ok (.iload 6, 2) := by decide +kernel
theorem dX4_countMissing_50 : decode cX4_countMissing 50 = .ok (.ifCond .le 31, 3) := by decide +kernel
theorem dX4_countMissing_53 : decode cX4_countMissing 53 = .ok (.aload_n 0, 1) := by decide +kernel
theorem dX4_countMissing_54 : decode cX4_countMissing 54 = .ok (.getfield 12, 3) := by decide +kernel
theorem dX4_countMissing_57 : decode cX4_countMissing 57 = .ok (.iload 6, 2) := by decide +kernel
theorem dX4_countMissing_59 : decode cX4_countMissing 59 = .ok (.bipush 10, 2) := by decide +kernel
theorem dX4_countMissing_61 : decode cX4_countMissing 61 = .ok (.irem, 1) := by decide +kernel
theorem dX4_countMissing_62 : decode cX4_countMissing 62 = .ok (.invokevirtual 112, 3) := by decide +kernel
theorem dX4_countMissing_65 : decode cX4_countMissing 65 = .ok (.ifCond .ne 6, 3) := by decide +kernel
theorem dX4_countMissing_68 : decode cX4_countMissing 68 = .ok (.iinc 3 1, 3) := by decide +kernel
theorem dX4_countMissing_71 : decode cX4_countMissing 71 = .ok (.iload 6, 2) := by decide +kernel
theorem dX4_countMissing_73 : decode cX4_countMissing 73 = .ok (.bipush 10, 2) := by decide +kernel
theorem dX4_countMissing_75 : decode cX4_countMissing 75 = .ok (.idiv, 1) := by decide +kernel
theorem dX4_countMissing_76 : decode cX4_countMissing 76 = .ok (.istore 6, 2) := by decide +kernel
theorem dX4_countMissing_78 : decode cX4_countMissing 78 = .ok (.goto (-30), 3) := by decide +kernel
theorem dX4_countMissing_81 : decode cX4_countMissing 81 = .ok (.iinc 5 1, 3) := by decide +kernel
theorem dX4_countMissing_84 : decode cX4_countMissing 84 = .ok (.goto (-59), 3) := by decide +kernel
theorem dX4_countMissing_87 : decode cX4_countMissing 87 = .ok (.iinc 4 1, 3) := by decide +kernel
theorem dX4_countMissing_90 : decode cX4_countMissing 90 = .ok (.goto (-77), 3) := by decide +kernel
theorem dX4_countMissing_93 : decode cX4_countMissing 93 = .ok (.iload_n 3, 1) := by decide +kernel
theorem dX4_countMissing_94 : decode cX4_countMissing 94 = .ok (.ireturn, 1) := by decide +kernel
